/-! ===== an ask's text, the class ===== -/
section
variable {G : Gp} {d : Nat} {K : SK} {n : Nat × Nat} {V V' V2 : SV} {J : SJV} {O : SO} {r : Option Value}
variable {a b c i m st : Nat} {tp : Nat → Nat}
theorem btw_b {b lo hi : Nat} (hb : b < 256) (hl : lo < 256) (hh : hi < 256) : btw (nI lo) (nI b) (nI hi) ↔ lo ≤ b ∧ b ≤ hi := by
  unfold btw
  rw [nI_le' (by omega) (by omega), nI_le' (by omega) (by omega)]
theorem bwC (hK : StK K) (hb : b < 256) {lo hi : Nat} (hl : lo < 256) (hh : hi < 256) : Ev G d mX11_isWithin 0 [(0, .int (nI b)), (1, .int (nI lo)), (2, .int (nI hi))] (K, n, V, J, O) (some (.int (bI (lo ≤ b ∧ b ≤ hi)))) (K, n, V, J, O) := by
  by_cases c : lo ≤ b ∧ b ≤ hi
  · rw [bI_t c]
    exact ev_b (c11_isWithin hK) ((btw_b hb hl hh).mpr c)
  · rw [bI_f c]
    exact ev_n (c11_isWithin hK) (fun q => c ((btw_b hb hl hh).mp q))
theorem b48 (h : 48 ≤ b) : nI b - 48 = nI (b - 48) := nI_s (b := 48) h
theorem rd_field (hK : StK K) (ha : IsAk K a) (hb : b < 256) (h4 : V a 4 = nI c) (hc : c < 15) : Ev G (d + 1) mX0_readField 0 [(0, .ref a), (1, .int (nI b))] (K, n, V, J, O) (some (.int (if 48 ≤ b ∧ b ≤ 51 then 2 else -1))) (K, n, (if 48 ≤ b ∧ b ≤ 51 then up2 V (a + 1) c (nI (b - 48)) else V), J, O) := by
  refine wX0_readField_0 hK ha ⟨_, bwC (lo := 48) (hi := 51) hK hb (by decide) (by decide), ?_⟩
  by_cases q : 48 ≤ b ∧ b ≤ 51
  · rw [if_pos q, if_pos q, h4]
    refine bz_y q (bt ?_ ⟨nI_v hc (by omega), rfl, ?_⟩)
    · show nI c < nI 15
      rw [nI_l' (by omega) (by omega)]
      exact hc
    · rw [nI_c (by omega), b48 (b := b) (by omega)]
  · rw [if_neg q, if_neg q]
    exact bz_n q ⟨rfl, rfl⟩
theorem rd_sign (hK : StK K) (ha : IsAk K a) (hb : b < 256) (h4 : V a 4 = nI c) (hc : c < 15) : Ev G d mX0_readSign 0 [(0, .ref a), (1, .int (nI b))] (K, n, V, J, O) (some (.int (if b = 60 ∨ b = 61 ∨ b = 62 then 3 else -1))) (K, n, (if b = 60 ∨ b = 61 ∨ b = 62 then up2 V (a + 2) c (nI b) else V), J, O) := by
  refine wX0_readSign_0 hK ha ?_
  rw [h4, nI_c (by omega)]
  have hv : vp_in (nI c) 15 := nI_v hc (by omega)
  by_cases q1 : b = 61
  · rw [if_pos (by omega), if_pos (by omega)]
    exact bt (by rw [q1]; rfl) ⟨hv, rfl, rfl⟩
  refine bf (nI_nq (b := 61) (by omega) (by omega) q1) ?_
  by_cases q2 : b = 60
  · rw [if_pos (by omega), if_pos (by omega)]
    exact bt (by rw [q2]; rfl) ⟨hv, rfl, rfl⟩
  refine bf (nI_nq (b := 60) (by omega) (by omega) q2) ?_
  by_cases q3 : b = 62
  · rw [if_pos (by omega), if_pos (by omega)]
    exact bt (by rw [q3]; rfl) ⟨hv, rfl, rfl⟩
  · rw [if_neg (by omega), if_neg (by omega)]
    exact bf (nI_nq (b := 62) (by omega) (by omega) q3) ⟨rfl, rfl⟩
def vlN (b : Nat) : Nat := if b = 97 then 100 else 101
theorem rd_value1 (hK : StK K) (ha : IsAk K a) (h4 : V a 4 = nI c) (hc : c < 15) (hb : 48 ≤ b ∧ b ≤ 57) : Ev G (d + 1) mX0_readValue 0 [(0, .ref a), (1, .int (nI b))] (K, n, V, J, O) (some (.int 4)) (K, n, up2 V (a + 3) c (nI ((b - 48) * 10)), J, O) := by
  refine wX0_readValue_0 hK ha ⟨_, bwC (lo := 48) (hi := 57) hK (by omega) (by decide) (by decide), bz_y hb ⟨by rw [h4]; exact nI_v hc (by omega), rfl, ?_⟩⟩
  rw [h4, nI_c (by omega), b48 (b := b) (by omega), show (10 : Int32) = nI 10 from rfl, nI_mul]
theorem rd_value2 (hK : StK K) (ha : IsAk K a) (h4 : V a 4 = nI c) (hc : c < 15) (hb : b = 97 ∨ b = 98) : Ev G (d + 1) mX0_readValue 0 [(0, .ref a), (1, .int (nI b))] (K, n, V, J, O) (some (.int 5)) (K, n, up2 (up2 V (a + 3) c (nI (vlN b))) a 4 (nI (c + 1)), J, O) := by
  have hv : vp_in (nI c) 15 := nI_v hc (by omega)
  refine wX0_readValue_0 hK ha ⟨_, bwC (lo := 48) (hi := 57) hK (by omega) (by decide) (by decide), bz_n (by omega) ?_⟩
  rw [h4, nI_c (by omega), up2_a (by omega), up2_a (by omega), h4, nI_1]
  rcases hb with rfl | rfl
  · exact bt rfl (nf rfl ⟨hv, rfl, rfl⟩)
  · exact bf (by decide) (bt rfl (nt (by decide) ⟨hv, rfl, rfl⟩))
theorem rd_value3 (hK : StK K) (ha : IsAk K a) (hb : b < 256) (h : ¬ (48 ≤ b ∧ b ≤ 57) ∧ b ≠ 97 ∧ b ≠ 98) : Ev G (d + 1) mX0_readValue 0 [(0, .ref a), (1, .int (nI b))] (K, n, V, J, O) (some (.int (-1))) (K, n, V, J, O) := wX0_readValue_0 hK ha ⟨_, bwC (lo := 48) (hi := 57) hK (by omega) (by decide) (by decide), bz_n h.1 (bf (nI_nq (b := 97) (by omega) (by omega) h.2.1) (bf (nI_nq (b := 98) (by omega) (by omega) h.2.2) ⟨rfl, rfl⟩))⟩
theorem rd_digit1 (hK : StK K) (ha : IsAk K a) (h4 : V a 4 = nI c) (hc : c < 15) (hb : 48 ≤ b ∧ b ≤ 57) {w : Nat} (hw : V (a + 3) c = nI w) : Ev G (d + 1) mX0_readDigit 0 [(0, .ref a), (1, .int (nI b))] (K, n, V, J, O) (some (.int 5)) (K, n, up2 (up2 V (a + 3) c (nI (w + (b - 48)))) a 4 (nI (c + 1)), J, O) := by
  have hv : vp_in (nI c) 15 := nI_v hc (by omega)
  refine wX0_readDigit_0 hK ha ⟨_, bwC (lo := 48) (hi := 57) hK (by omega) (by decide) (by decide), ?_⟩
  rw [bI_t hb, h4, nI_c (by omega), up2_a (by omega), h4, nI_1, hw, b48 (b := b) (by omega), nI_add]
  exact nt one0 ⟨hv, hv, rfl, rfl⟩
theorem rd_digit2 (hK : StK K) (ha : IsAk K a) (hb : b < 256) (h : ¬ (48 ≤ b ∧ b ≤ 57)) : Ev G (d + 1) mX0_readDigit 0 [(0, .ref a), (1, .int (nI b))] (K, n, V, J, O) (some (.int (-1))) (K, n, V, J, O) := wX0_readDigit_0 hK ha ⟨0, ev_n (bwC (lo := 48) (hi := 57) hK (by omega) (by decide) (by decide)) h, nf rfl ⟨rfl, rfl⟩⟩
/-- one byte, in a state -/
theorem sa_0 (hK : StK K) (ha : IsAk K a) {x2 : Int32} (h : x2 ≠ 58) (hE : Ev G d mX0_readField 0 [(0, .ref a), (1, .int x2)] (K, n, V, J, O) r (K, n, V', J, O)) {v : Int32} (hr : r = some (.int v)) : Ev G (d + 1) mX0_stateAfter 0 [(0, .ref a), (1, .int 0), (2, .int x2)] (K, n, V, J, O) r (K, n, V', J, O) := by
  subst hr
  exact wX0_stateAfter_0 hK ha ⟨fun _ => nt h ⟨v, V', hE, rfl, rfl⟩, fun e => absurd e (by decide), fun e => absurd e (by decide), fun e => absurd e (by decide), fun e => absurd e (by decide), fun e => absurd e (by decide), fun e => absurd e (by decide), fun e => absurd e (by decide), fun e => absurd rfl e.1⟩
theorem sa_0c (hK : StK K) (ha : IsAk K a) : Ev G (d + 1) mX0_stateAfter 0 [(0, .ref a), (1, .int 0), (2, .int 58)] (K, n, V, J, O) (some (.int 6)) (K, n, V, J, O) := wX0_stateAfter_0 hK ha ⟨fun _ => nf rfl ⟨rfl, rfl⟩, fun e => absurd e (by decide), fun e => absurd e (by decide), fun e => absurd e (by decide), fun e => absurd e (by decide), fun e => absurd e (by decide), fun e => absurd e (by decide), fun e => absurd e (by decide), fun e => absurd rfl e.1⟩
theorem sa_1 (hK : StK K) (ha : IsAk K a) {x2 v : Int32} (hE : Ev G d mX0_readField 0 [(0, .ref a), (1, .int x2)] (K, n, V, J, O) (some (.int v)) (K, n, V', J, O)) : Ev G (d + 1) mX0_stateAfter 0 [(0, .ref a), (1, .int 1), (2, .int x2)] (K, n, V, J, O) (some (.int v)) (K, n, V', J, O) := wX0_stateAfter_0 hK ha ⟨fun e => absurd e (by decide), fun _ => ⟨v, V', hE, rfl, rfl⟩, fun e => absurd e (by decide), fun e => absurd e (by decide), fun e => absurd e (by decide), fun e => absurd e (by decide), fun e => absurd e (by decide), fun e => absurd e (by decide), fun e => absurd rfl e.2.1⟩
theorem sa_2 (hK : StK K) (ha : IsAk K a) {x2 v : Int32} (hE : Ev G d mX0_readSign 0 [(0, .ref a), (1, .int x2)] (K, n, V, J, O) (some (.int v)) (K, n, V', J, O)) : Ev G (d + 1) mX0_stateAfter 0 [(0, .ref a), (1, .int 2), (2, .int x2)] (K, n, V, J, O) (some (.int v)) (K, n, V', J, O) := wX0_stateAfter_0 hK ha ⟨fun e => absurd e (by decide), fun e => absurd e (by decide), fun _ => ⟨v, V', hE, rfl, rfl⟩, fun e => absurd e (by decide), fun e => absurd e (by decide), fun e => absurd e (by decide), fun e => absurd e (by decide), fun e => absurd e (by decide), fun e => absurd rfl e.2.2.1⟩
theorem sa_3 (hK : StK K) (ha : IsAk K a) {x2 v : Int32} (hE : Ev G d mX0_readValue 0 [(0, .ref a), (1, .int x2)] (K, n, V, J, O) (some (.int v)) (K, n, V', J, O)) : Ev G (d + 1) mX0_stateAfter 0 [(0, .ref a), (1, .int 3), (2, .int x2)] (K, n, V, J, O) (some (.int v)) (K, n, V', J, O) := wX0_stateAfter_0 hK ha ⟨fun e => absurd e (by decide), fun e => absurd e (by decide), fun e => absurd e (by decide), fun _ => ⟨v, V', hE, rfl, rfl⟩, fun e => absurd e (by decide), fun e => absurd e (by decide), fun e => absurd e (by decide), fun e => absurd e (by decide), fun e => absurd rfl e.2.2.2.1⟩
theorem sa_4 (hK : StK K) (ha : IsAk K a) {x2 v : Int32} (hE : Ev G d mX0_readDigit 0 [(0, .ref a), (1, .int x2)] (K, n, V, J, O) (some (.int v)) (K, n, V', J, O)) : Ev G (d + 1) mX0_stateAfter 0 [(0, .ref a), (1, .int 4), (2, .int x2)] (K, n, V, J, O) (some (.int v)) (K, n, V', J, O) := wX0_stateAfter_0 hK ha ⟨fun e => absurd e (by decide), fun e => absurd e (by decide), fun e => absurd e (by decide), fun e => absurd e (by decide), fun _ => ⟨v, V', hE, rfl, rfl⟩, fun e => absurd e (by decide), fun e => absurd e (by decide), fun e => absurd e (by decide), fun e => absurd rfl e.2.2.2.2.1⟩
theorem sa_5 (hK : StK K) (ha : IsAk K a) (hb : b < 256) : Ev G (d + 1) mX0_stateAfter 0 [(0, .ref a), (1, .int 5), (2, .int (nI b))] (K, n, V, J, O) (some (.int (if b = 38 then 1 else if b = 58 then 6 else -1))) (K, n, V, J, O) := by
  refine wX0_stateAfter_0 hK ha ⟨fun e => absurd e (by decide), fun e => absurd e (by decide), fun e => absurd e (by decide), fun e => absurd e (by decide), fun e => absurd e (by decide), fun _ => ?_, fun e => absurd e (by decide), fun e => absurd e (by decide), fun e => absurd rfl e.2.2.2.2.2.1⟩
  by_cases q1 : b = 38
  · rw [if_pos q1]
    exact nf (by rw [q1]; rfl) ⟨rfl, rfl⟩
  · rw [if_neg q1]
    refine nt (nI_nq (b := 38) (by omega) (by omega) q1) ?_
    by_cases q2 : b = 58
    · rw [if_pos q2]
      exact nf (by rw [q2]; rfl) ⟨rfl, rfl⟩
    · rw [if_neg q2]
      exact nt (nI_nq (b := 58) (by omega) (by omega) q2) ⟨rfl, rfl⟩
theorem sa_6 (hK : StK K) (ha : IsAk K a) (hb : b < 256) : Ev G (d + 2) mX0_stateAfter 0 [(0, .ref a), (1, .int 6), (2, .int (nI b))] (K, n, V, J, O) (some (.int (if b = 110 then 8 else if b = 109 ∨ b = 120 ∨ b = 115 then 7 else -1))) (K, n, up2 V a 5 (nI b), J, O) := by
  refine wX0_stateAfter_0 hK ha ⟨fun e => absurd e (by decide), fun e => absurd e (by decide), fun e => absurd e (by decide), fun e => absurd e (by decide), fun e => absurd e (by decide), fun e => absurd e (by decide), fun _ => ⟨_, _, wX0_readOutcome_0 hK ha ?_, rfl, rfl⟩, fun e => absurd e (by decide), fun e => absurd rfl e.2.2.2.2.2.2.1⟩
  by_cases q1 : b = 110
  · rw [if_pos q1]
    exact nf (by rw [q1]; rfl) ⟨rfl, rfl⟩
  · rw [if_neg q1]
    refine nt (nI_nq (b := 110) (by omega) (by omega) q1) ?_
    by_cases q2 : b = 109
    · rw [if_pos (by omega)]
      exact bt (by rw [q2]; rfl) ⟨rfl, rfl⟩
    refine bf (nI_nq (b := 109) (by omega) (by omega) q2) ?_
    by_cases q3 : b = 120
    · rw [if_pos (by omega)]
      exact bt (by rw [q3]; rfl) ⟨rfl, rfl⟩
    refine bf (nI_nq (b := 120) (by omega) (by omega) q3) ?_
    by_cases q4 : b = 115
    · rw [if_pos (by omega)]
      exact nf (by rw [q4]; rfl) ⟨rfl, rfl⟩
    · rw [if_neg (by omega)]
      exact nt (nI_nq (b := 115) (by omega) (by omega) q4) ⟨rfl, rfl⟩
theorem sa_8 (hK : StK K) (ha : IsAk K a) {x2 : Int32} : Ev G (d + 1) mX0_stateAfter 0 [(0, .ref a), (1, .int 8), (2, .int x2)] (K, n, V, J, O) (some (.int (-1))) (K, n, V, J, O) := wX0_stateAfter_0 hK ha ⟨fun e => absurd e (by decide), fun e => absurd e (by decide), fun e => absurd e (by decide), fun e => absurd e (by decide), fun e => absurd e (by decide), fun e => absurd e (by decide), fun e => absurd e (by decide), fun e => absurd e (by decide), fun _ => ⟨rfl, rfl⟩⟩
theorem sa_7 (hK : StK K) (ha : IsAk K a) (hb : b < 256) : Ev G (d + 3) mX0_stateAfter 0 [(0, .ref a), (1, .int 7), (2, .int (nI b))] (K, n, V, J, O) (some (.int (if 48 ≤ b ∧ b ≤ 51 then 8 else -1))) (K, n, (if 48 ≤ b ∧ b ≤ 51 then up2 V a 6 (nI (b - 48)) else V), J, O) := by
  refine wX0_stateAfter_0 hK ha ⟨fun e => absurd e (by decide), fun e => absurd e (by decide), fun e => absurd e (by decide), fun e => absurd e (by decide), fun e => absurd e (by decide), fun e => absurd e (by decide), fun e => absurd e (by decide), fun _ => ⟨_, _, wX0_readOutField_0 hK ha ⟨_, bwC (lo := 48) (hi := 51) hK hb (by decide) (by decide), ?_⟩, rfl, rfl⟩, fun e => absurd rfl e.2.2.2.2.2.2.2⟩
  by_cases q : 48 ≤ b ∧ b ≤ 51
  · rw [if_pos q, if_pos q]
    refine bn_y q ⟨rfl, ?_⟩
    rw [b48 (b := b) (by omega)]
  · rw [if_neg q, if_neg q]
    exact bn_n q ⟨rfl, rfl⟩
/-- the text, from place i on, in a state -/
theorem rf_end (hK : StK K) (ha : IsAk K a) {x3 : Int32} (h : x3 ≠ 8) : Ev G (d + 1) mX0_readFrom 10 [(0, .ref a), (1, .ref 31), (2, .int (nI m)), (3, .int x3), (4, .int (nI m))] (K, n, V, J, O) (some (.int (nI m))) (K, n, V, J, O) := wX0_readFrom_10 hK ha (k31 hK) (bt (Int32.le_refl _) (nt h ⟨rfl, rfl⟩))
theorem rf_ok (hK : StK K) (ha : IsAk K a) : Ev G (d + 1) mX0_readFrom 10 [(0, .ref a), (1, .ref 31), (2, .int (nI m)), (3, .int 8), (4, .int (nI m))] (K, n, V, J, O) (some (.int (-1))) (K, n, V, J, O) := wX0_readFrom_10 hK ha (k31 hK) (bt (Int32.le_refl _) (nf rfl ⟨rfl, rfl⟩))
theorem rf_bad (hK : StK K) (ha : IsAk K a) (hT : TpC m tp V) (hi : i < m) {x3 : Int32} (hE : Ev G d mX0_stateAfter 0 [(0, .ref a), (1, .int x3), (2, .int (nI (tp i)))] (K, n, V, J, O) (some (.int (-1))) (K, n, V2, J, O)) : Ev G (d + 1) mX0_readFrom 10 [(0, .ref a), (1, .ref 31), (2, .int (nI m)), (3, .int x3), (4, .int (nI i))] (K, n, V, J, O) (some (.int (nI i))) (K, n, V2, J, O) := by
  have h60 := hT.1
  refine wX0_readFrom_10 hK ha (k31 hK) (bf ?_ ⟨nI_v (by omega) (by omega), -1, V2, ?_, nf rfl ⟨rfl, rfl⟩⟩)
  · rw [nI_le' (by omega) (by omega)]
    omega
  · rw [nI_c (by omega), (hT.2.2 i hi).1]
    exact hE
theorem rf_go (hK : StK K) (ha : IsAk K a) (hT : TpC m tp V) (hi : i < m) {x3 v : Int32} (hv : v ≠ -1) (hE : Ev G d mX0_stateAfter 0 [(0, .ref a), (1, .int x3), (2, .int (nI (tp i)))] (K, n, V, J, O) (some (.int v)) (K, n, V2, J, O)) (hn : Ev G (d + 1) mX0_readFrom 10 [(0, .ref a), (1, .ref 31), (2, .int (nI m)), (3, .int v), (4, .int (nI (i + 1)))] (K, n, V2, J, O) r (K, n, V', J, O)) : Ev G (d + 1) mX0_readFrom 10 [(0, .ref a), (1, .ref 31), (2, .int (nI m)), (3, .int x3), (4, .int (nI i))] (K, n, V, J, O) r (K, n, V', J, O) := by
  have h60 := hT.1
  refine wX0_readFrom_10 hK ha (k31 hK) (bf ?_ ⟨nI_v (by omega) (by omega), v, V2, ?_, nt hv ?_⟩)
  · rw [nI_le' (by omega) (by omega)]
    omega
  · rw [nI_c (by omega), (hT.2.2 i hi).1]
    exact hE
  · rw [nI_1]
    exact hn
end
