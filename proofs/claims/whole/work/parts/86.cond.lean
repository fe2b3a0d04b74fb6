/-! ===== one condition of an ask's text, both ===== -/
def byM (m : Nat) (tp : Nat → Nat) (i : Nat) : Int32 := if i < m then nI (tp i) else -1
def frCc (a c : Nat) : Nat → Nat → Prop := fun x k => ((x = a + 1 ∨ x = a + 2 ∨ x = a + 3) ∧ k = c) ∨ (x = a ∧ k = 4)
def frCm (s : Nat) : Nat → Nat → Prop := fun x k => ((x = 63 ∨ x = 64 ∨ x = 65) ∧ k = s) ∨ (x = 57 ∧ k = 26)
section
variable {G : Gp} {d : Nat} {K : SK} {n : Nat × Nat} {V V' V2 : SV} {J : SJV} {O : SO} {r : Option Value}
variable {a b c i m s : Nat} {tp : Nat → Nat}
theorem byM_eq (htp : ∀ j, j < m → tp j < 256) {x : Nat} (hx : x < 256) : byM m tp i = nI x ↔ i < m ∧ tp i = x := by
  unfold byM
  by_cases h : i < m
  · rw [if_pos h, nI_e' (by have := htp i h; omega) (by omega)]
    exact ⟨fun e => ⟨h, e⟩, fun e => e.2⟩
  · rw [if_neg h]
    exact ⟨fun e => absurd e.symm (nI_n1 (by omega)), fun e => absurd e.1 h⟩
theorem byM_btw (htp : ∀ j, j < m → tp j < 256) {lo hi : Nat} (h1 : lo < 256) (h2 : hi < 256) : btw (nI lo) (byM m tp i) (nI hi) ↔ i < m ∧ lo ≤ tp i ∧ tp i ≤ hi := by
  unfold byM
  by_cases h : i < m
  · rw [if_pos h, btw_b (htp i h) h1 h2]
    exact ⟨fun e => ⟨h, e⟩, fun e => e.2⟩
  · rw [if_neg h]
    refine ⟨fun e => ?_, fun e => absurd e.1 h⟩
    have := Int32.le_trans (show (0 : Int32) ≤ nI lo from nI_pos' (by omega)) e.1
    exact absurd this (by decide)
theorem m_byM (hK : StK K) (hT : TpM m tp V) (h26 : V 57 26 = nI i) : i ≤ m → Ev G d mX12_byteAt 0 [(0, .ref 57)] (K, n, V, J, O) (some (.int (byM m tp i))) (K, n, V, J, O) := fun hi => by
  have h60 := hT.1
  refine wX12_byteAt_0 hK ?_
  rw [hT.2.1, h26]
  unfold byM
  by_cases h : i < m
  · rw [if_pos h, nI_c (by omega), (hT.2.2 i h).1]
    exact bf (by rw [nI_le' (by omega) (by omega)]; omega) ⟨nI_v (by omega) (by omega), rfl⟩
  · rw [if_neg h]
    exact bt (by rw [nI_le' (by omega) (by omega)]; omega) rfl
theorem m_bwi (hK : StK K) (htp : ∀ j, j < m → tp j < 256) {lo hi : Nat} (h1 : lo < 256) (h2 : hi < 256) {lo' hi' : Int64} (e1 : lo' = (nI lo).toInt64) (e2 : hi' = (nI hi).toInt64) : Ev G d mX12_within 0 [(0, .long (byM m tp i).toInt64), (2, .long lo'), (4, .long hi')] (K, n, V, J, O) (some (.int (bI (i < m ∧ lo ≤ tp i ∧ tp i ≤ hi)))) (K, n, V, J, O) := by
  by_cases q : i < m ∧ lo ≤ tp i ∧ tp i ≤ hi
  · rw [bI_t q]
    exact ev_b (c12_wi hK e1 e2) ((byM_btw htp h1 h2).mpr q)
  · rw [bI_f q]
    exact ev_n (c12_wi hK e1 e2) (fun z => q ((byM_btw htp h1 h2).mp z))
theorem m_fs (hK : StK K) (htp : ∀ j, j < m → tp j < 256) : Ev G (d + 1) mX12_isFieldSign 0 [(0, .int (byM m tp i))] (K, n, V, J, O) (some (.int (bI (i < m ∧ 48 ≤ tp i ∧ tp i ≤ 51)))) (K, n, V, J, O) := by
  refine wX12_isFieldSign_0 hK ⟨_, m_bwi (lo := 48) (hi := 51) hK htp (by decide) (by decide) (by decide) (by decide), ?_, rfl⟩
  by_cases q : i < m ∧ 48 ≤ tp i ∧ tp i ≤ 51
  · exact Or.inr (bI_t q)
  · exact Or.inl (bI_f q)
theorem TpC_a (hT : TpC m tp V) (hb : 96 ≤ a) (hf : fr (fun x _ => 96 ≤ x) V V') : TpC m tp V' := ⟨hT.1, by rw [hf _ _ (by omega)]; exact hT.2.1, fun j hj => by rw [hf _ _ (by omega)]; exact hT.2.2 j hj⟩
theorem TpM_a (hT : TpM m tp V) (hf : fr (fun x k => (63 ≤ x ∧ x ≤ 68) ∨ (x = 57 ∧ k = 26)) V V') : TpM m tp V' := ⟨hT.1, by rw [hf _ _ (by omega)]; exact hT.2.1, fun j hj => by rw [hf _ _ (by omega)]; exact hT.2.2 j hj⟩
/-- the class, field by field -/
theorem cd_f (hK : StK K) (ha : IsAk K a) (hT : TpC m tp V) (hi : i < m) (h4 : V a 4 = nI c) (hc : c < 15) {x3 : Int32} (h3 : x3 = 1 ∨ (x3 = 0 ∧ ¬ (i < m ∧ tp i = 58))) (hb : 48 ≤ tp i ∧ tp i ≤ 51) (hn : Ev G (d + 4) mX0_readFrom 10 [(0, .ref a), (1, .ref 31), (2, .int (nI m)), (3, .int 2), (4, .int (nI (i + 1)))] (K, n, up2 V (a + 1) c (nI (tp i - 48)), J, O) r (K, n, V', J, O)) : Ev G (d + 4) mX0_readFrom 10 [(0, .ref a), (1, .ref 31), (2, .int (nI m)), (3, .int x3), (4, .int (nI i))] (K, n, V, J, O) r (K, n, V', J, O) := by
  have hE := rd_field (G := G) (d := d + 1) (n := n) (J := J) (O := O) hK ha ((hT.2.2 i hi).2) h4 hc
  rw [if_pos hb, if_pos hb] at hE
  rcases h3 with rfl | ⟨rfl, h58⟩
  · exact rf_go hK ha hT hi (by decide) (sa_1 hK ha hE) hn
  · exact rf_go hK ha hT hi (v := 2) (by decide) (sa_0 hK ha (nI_nq (b := 58) (by have := (hT.2.2 i hi).2; omega) (by omega) (fun e => h58 ⟨hi, e⟩)) hE rfl) hn
theorem cd_f0 (hK : StK K) (ha : IsAk K a) (hT : TpC m tp V) (hi : i ≤ m) (h4 : V a 4 = nI c) (hc : i < m → c < 15) {x3 : Int32} (h3 : x3 = 1 ∨ (x3 = 0 ∧ ¬ (i < m ∧ tp i = 58))) (hb : ¬ (i < m ∧ 48 ≤ tp i ∧ tp i ≤ 51)) : Ev G (d + 4) mX0_readFrom 10 [(0, .ref a), (1, .ref 31), (2, .int (nI m)), (3, .int x3), (4, .int (nI i))] (K, n, V, J, O) (some (.int (nI i))) (K, n, V, J, O) := by
  by_cases him : i = m
  · rw [him]
    refine rf_end hK ha ?_
    rcases h3 with rfl | ⟨rfl, -⟩ <;> decide
  · have hlt : i < m := by omega
    have hE := rd_field (G := G) (d := d + 1) (n := n) (J := J) (O := O) hK ha ((hT.2.2 i hlt).2) h4 (hc hlt)
    rw [if_neg (fun q => hb ⟨hlt, q⟩), if_neg (fun q => hb ⟨hlt, q⟩)] at hE
    rcases h3 with rfl | ⟨rfl, h58⟩
    · exact rf_bad hK ha hT hlt (sa_1 hK ha hE)
    · exact rf_bad hK ha hT hlt (sa_0 hK ha (nI_nq (b := 58) (by have := (hT.2.2 i hlt).2; omega) (by omega) (fun e => h58 ⟨hlt, e⟩)) hE rfl)
theorem cd_s (hK : StK K) (ha : IsAk K a) (hT : TpC m tp V) (hi : i ≤ m) (h4 : V a 4 = nI c) (hc : c < 15) : (i < m ∧ (tp i = 60 ∨ tp i = 61 ∨ tp i = 62) → ∀ (r : Option Value) (V' : SV), Ev G (d + 4) mX0_readFrom 10 [(0, .ref a), (1, .ref 31), (2, .int (nI m)), (3, .int 3), (4, .int (nI (i + 1)))] (K, n, up2 V (a + 2) c (nI (tp i)), J, O) r (K, n, V', J, O) → Ev G (d + 4) mX0_readFrom 10 [(0, .ref a), (1, .ref 31), (2, .int (nI m)), (3, .int 2), (4, .int (nI i))] (K, n, V, J, O) r (K, n, V', J, O)) ∧ (¬ (i < m ∧ (tp i = 60 ∨ tp i = 61 ∨ tp i = 62)) → Ev G (d + 4) mX0_readFrom 10 [(0, .ref a), (1, .ref 31), (2, .int (nI m)), (3, .int 2), (4, .int (nI i))] (K, n, V, J, O) (some (.int (nI i))) (K, n, V, J, O)) := by
  refine ⟨fun q r V' hn => ?_, fun q => ?_⟩
  · have hE := rd_sign (G := G) (d := d + 2) (n := n) (J := J) (O := O) hK ha ((hT.2.2 i q.1).2) h4 hc
    rw [if_pos q.2, if_pos q.2] at hE
    exact rf_go hK ha hT q.1 (by decide) (sa_2 hK ha hE) hn
  · by_cases him : i = m
    · rw [him]
      exact rf_end hK ha (by decide)
    · have hlt : i < m := by omega
      have hE := rd_sign (G := G) (d := d + 2) (n := n) (J := J) (O := O) hK ha ((hT.2.2 i hlt).2) h4 hc
      rw [if_neg (fun z => q ⟨hlt, z⟩), if_neg (fun z => q ⟨hlt, z⟩)] at hE
      exact rf_bad hK ha hT hlt (sa_2 hK ha hE)
theorem cd_v (hK : StK K) (ha : IsAk K a) (hT : TpC m tp V) (hi : i ≤ m) (h4 : V a 4 = nI c) (hc : c < 15) : (i < m ∧ (tp i = 97 ∨ tp i = 98) → ∀ (r : Option Value) (V' : SV), Ev G (d + 4) mX0_readFrom 10 [(0, .ref a), (1, .ref 31), (2, .int (nI m)), (3, .int 5), (4, .int (nI (i + 1)))] (K, n, up2 (up2 V (a + 3) c (nI (vlN (tp i)))) a 4 (nI (c + 1)), J, O) r (K, n, V', J, O) → Ev G (d + 4) mX0_readFrom 10 [(0, .ref a), (1, .ref 31), (2, .int (nI m)), (3, .int 3), (4, .int (nI i))] (K, n, V, J, O) r (K, n, V', J, O)) ∧ (i < m ∧ 48 ≤ tp i ∧ tp i ≤ 57 → ∀ (r : Option Value) (V' : SV), Ev G (d + 4) mX0_readFrom 10 [(0, .ref a), (1, .ref 31), (2, .int (nI m)), (3, .int 4), (4, .int (nI (i + 1)))] (K, n, up2 V (a + 3) c (nI ((tp i - 48) * 10)), J, O) r (K, n, V', J, O) → Ev G (d + 4) mX0_readFrom 10 [(0, .ref a), (1, .ref 31), (2, .int (nI m)), (3, .int 3), (4, .int (nI i))] (K, n, V, J, O) r (K, n, V', J, O)) ∧ (¬ (i < m ∧ (tp i = 97 ∨ tp i = 98)) → ¬ (i < m ∧ 48 ≤ tp i ∧ tp i ≤ 57) → Ev G (d + 4) mX0_readFrom 10 [(0, .ref a), (1, .ref 31), (2, .int (nI m)), (3, .int 3), (4, .int (nI i))] (K, n, V, J, O) (some (.int (nI i))) (K, n, V, J, O)) := by
  refine ⟨fun q r V' hn => ?_, fun q r V' hn => ?_, fun q1 q2 => ?_⟩
  · exact rf_go hK ha hT q.1 (by decide) (sa_3 hK ha (rd_value2 (d := d + 1) hK ha h4 hc q.2)) hn
  · exact rf_go hK ha hT q.1 (by decide) (sa_3 hK ha (rd_value1 (d := d + 1) hK ha h4 hc q.2)) hn
  · by_cases him : i = m
    · rw [him]
      exact rf_end hK ha (by decide)
    · have hlt : i < m := by omega
      exact rf_bad hK ha hT hlt (sa_3 hK ha (rd_value3 (d := d + 1) hK ha (hT.2.2 i hlt).2 (by omega)))
theorem cd_d (hK : StK K) (ha : IsAk K a) (hT : TpC m tp V) (hi : i ≤ m) (h4 : V a 4 = nI c) (hc : c < 15) {w : Nat} (hw : V (a + 3) c = nI w) : (i < m ∧ 48 ≤ tp i ∧ tp i ≤ 57 → ∀ (r : Option Value) (V' : SV), Ev G (d + 4) mX0_readFrom 10 [(0, .ref a), (1, .ref 31), (2, .int (nI m)), (3, .int 5), (4, .int (nI (i + 1)))] (K, n, up2 (up2 V (a + 3) c (nI (w + (tp i - 48)))) a 4 (nI (c + 1)), J, O) r (K, n, V', J, O) → Ev G (d + 4) mX0_readFrom 10 [(0, .ref a), (1, .ref 31), (2, .int (nI m)), (3, .int 4), (4, .int (nI i))] (K, n, V, J, O) r (K, n, V', J, O)) ∧ (¬ (i < m ∧ 48 ≤ tp i ∧ tp i ≤ 57) → Ev G (d + 4) mX0_readFrom 10 [(0, .ref a), (1, .ref 31), (2, .int (nI m)), (3, .int 4), (4, .int (nI i))] (K, n, V, J, O) (some (.int (nI i))) (K, n, V, J, O)) := by
  refine ⟨fun q r V' hn => ?_, fun q2 => ?_⟩
  · exact rf_go hK ha hT q.1 (by decide) (sa_4 hK ha (rd_digit1 (d := d + 1) hK ha h4 hc q.2 hw)) hn
  · by_cases him : i = m
    · rw [him]
      exact rf_end hK ha (by decide)
    · have hlt : i < m := by omega
      exact rf_bad hK ha hT hlt (sa_4 hK ha (rd_digit2 (d := d + 1) hK ha (hT.2.2 i hlt).2 (by omega)))
end
