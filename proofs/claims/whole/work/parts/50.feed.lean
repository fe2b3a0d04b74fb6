/-! ===== feeding the tape ===== -/
/-- the byte of v at place k -/
def byt (v : Int32) (k : Nat) : Nat := (v.toBitVec.toNat >>> (8 * k)) % 256
theorem byt_lt {v : Int32} {k : Nat} : byt v k < 256 := Nat.mod_lt _ (by decide)
theorem bv_byte (w : BitVec 32) (s : Nat) (hs : s ≤ 24) : (w.sshiftRight s) &&& 255#32 = (w >>> s) &&& 255#32 := by
  apply BitVec.eq_of_getLsbD_eq
  intro i hi
  rw [BitVec.getLsbD_and, BitVec.getLsbD_and, BitVec.getLsbD_sshiftRight, BitVec.getLsbD_ushiftRight]
  by_cases h8 : i < 8
  · have h1 : s + i < 32 := by omega
    simp [h1, show ¬ 32 ≤ i by omega]
  · have : (255#32).getLsbD i = false := by
      rw [show (255#32) = BitVec.ofNat 32 (2 ^ 8 - 1) from rfl, BitVec.getLsbD_ofNat, Nat.testBit_two_pow_sub_one]
      simp [h8]
    rw [this, Bool.and_false, Bool.and_false]
theorem bv_low (w : BitVec 32) (s : Nat) : (w >>> s) &&& 255#32 = BitVec.ofNat 32 ((w.toNat >>> s) % 256) := by
  apply BitVec.eq_of_toNat_eq
  rw [BitVec.toNat_and, BitVec.toNat_ushiftRight, show (255#32).toNat = 2 ^ 8 - 1 from rfl, Nat.and_two_pow_sub_one_eq_mod, BitVec.toNat_ofNat]
  have : w.toNat >>> s % 2 ^ 8 < 2 ^ 32 := Nat.lt_of_lt_of_le (Nat.mod_lt _ (by decide)) (by decide)
  exact (Nat.mod_eq_of_lt this).symm
theorem nI_bv {a : Nat} : (nI a).toBitVec = BitVec.ofNat 32 a := rfl
theorem byt_c (v : Int32) {k : Nat} (hk : k < 4) : ((v.toUInt32 >>> ((8 * nI k).toUInt32 &&& Int32.toUInt32 31)).toInt32) &&& 255 = nI (byt v k) := by
  apply Int32.toBitVec_inj.mp
  rw [nI_bv]
  unfold byt
  rw [← bv_low]
  rcases (show k = 0 ∨ k = 1 ∨ k = 2 ∨ k = 3 by omega) with rfl | rfl | rfl | rfl <;> rfl
theorem byt_m (v : Int32) {k : Nat} (hk : k < 4) : (v >>> ((8 * nI k) &&& 31)) &&& 255 = nI (byt v k) := by
  apply Int32.toBitVec_inj.mp
  rw [nI_bv]
  unfold byt
  rw [← bv_low, ← bv_byte _ _ (by omega)]
  rcases (show k = 0 ∨ k = 1 ∨ k = 2 ∨ k = 3 by omega) with rfl | rfl | rfl | rfl <;> rfl
/-- what is on the tape -/
def TpC (m : Nat) (tp : Nat → Nat) (V : SV) : Prop := m ≤ 60 ∧ V 0 3 = nI m ∧ ∀ i, i < m → V 31 i = nI (tp i) ∧ tp i < 256
def TpM (m : Nat) (tp : Nat → Nat) (V : SV) : Prop := m ≤ 60 ∧ V 57 6 = nI m ∧ ∀ i, i < m → V 62 i = nI (tp i) ∧ tp i < 256
/-- the tape after k bytes of v more, from byte j on -/
def fed (tp : Nat → Nat) (m : Nat) (v : Int32) : Nat → Nat := fun i => if i < m then tp i else byt v (i - m)
section
variable {G : Gp} {d : Nat} {K : SK} {n : Nat × Nat} {V V' : SV} {J : SJV} {O : SO} {m : Nat} {tp : Nat → Nat}
theorem c11_feed27 (hK : StK K) {v : Int32} {c m0 : Nat} (hc : c ≤ 4) (h60 : m0 + c ≤ 60) : ∀ (k i : Nat) (V : SV), i + k = c → TpC (m0 + i) (fed tp m0 v) V → ∃ V', Ev G (d + 1) mX11_feed 27 [(0, .ref 0), (1, .int (nI c)), (2, .int v), (3, .int (nI i))] (K, n, V, J, O) (some (.int (nI (m0 + c)))) (K, n, V', J, O) ∧ TpC (m0 + c) (fed tp m0 v) V' ∧ fr (fun a k => a = 31 ∨ (a = 0 ∧ k = 3)) V V' := by
  intro k
  induction k with
  | zero =>
    intro i V e h
    obtain rfl : i = c := by omega
    exact ⟨V, wX11_feed_27 hK (bt (Int32.le_refl _) ⟨by rw [h.2.1], rfl⟩), h, fr_rfl⟩
  | succ k ih =>
    intro i V e h
    obtain ⟨h1, h2, h3⟩ := h
    have g1 : fr (fun a k => a = 31 ∨ (a = 0 ∧ k = 3)) V (up2 (up2 V 31 (m0 + i) (nI (byt v i))) 0 3 (nI (m0 + i + 1))) := fr_up (fr_up fr_rfl (Or.inl rfl)) (Or.inr ⟨rfl, rfl⟩)
    obtain ⟨V', y1, y2, y3⟩ := ih (i + 1) (up2 (up2 V 31 (m0 + i) (nI (byt v i))) 0 3 (nI (m0 + i + 1))) (by omega) ⟨by omega, up2_s, fun j hj => by
      rw [up2_a (by decide)]
      by_cases ej : j = m0 + i
      · rw [ej, up2_s]
        unfold fed
        rw [if_neg (by omega), show m0 + i - m0 = i by omega]
        exact ⟨rfl, byt_lt⟩
      · rw [up2_k ej]
        exact h3 j (by omega)⟩
    refine ⟨V', wX11_feed_27 hK (bf (by rw [nI_le' (by omega) (by omega)]; omega) ⟨?_, ?_⟩), y2, fr_mo (fr_tr g1 y3) (fun a k q => q.elim id id)⟩
    · rw [h2]
      exact nI_v (by omega) (by omega)
    · rw [h2, nI_c (show m0 + i < 100000 by omega), nI_1, nI_1, byt_c v (by omega)]
      exact y1
theorem c12_feed30 (hK : StK K) {v : Int32} {c m0 : Nat} (hc : c ≤ 4) (h60 : m0 + c ≤ 60) : ∀ (k i : Nat) (V : SV), i + k = c → TpM (m0 + i) (fed tp m0 v) V → ∃ V', Ev G (d + 1) mX12_feed 30 [(0, .ref 57), (1, .int (nI c)), (2, .int v), (3, .int (nI i))] (K, n, V, J, O) (some (.int (nI (m0 + c)))) (K, n, V', J, O) ∧ TpM (m0 + c) (fed tp m0 v) V' ∧ fr (fun a k => a = 62 ∨ (a = 57 ∧ k = 6)) V V' := by
  intro k
  induction k with
  | zero =>
    intro i V e h
    obtain rfl : i = c := by omega
    exact ⟨V, wX12_feed_30 hK (bt (Int32.le_refl _) ⟨by rw [h.2.1], rfl⟩), h, fr_rfl⟩
  | succ k ih =>
    intro i V e h
    obtain ⟨h1, h2, h3⟩ := h
    have g1 : fr (fun a k => a = 62 ∨ (a = 57 ∧ k = 6)) V (up2 (up2 V 62 (m0 + i) (nI (byt v i))) 57 6 (nI (m0 + i + 1))) := fr_up (fr_up fr_rfl (Or.inl rfl)) (Or.inr ⟨rfl, rfl⟩)
    obtain ⟨V', y1, y2, y3⟩ := ih (i + 1) (up2 (up2 V 62 (m0 + i) (nI (byt v i))) 57 6 (nI (m0 + i + 1))) (by omega) ⟨by omega, up2_s, fun j hj => by
      rw [up2_a (by decide)]
      by_cases ej : j = m0 + i
      · rw [ej, up2_s]
        unfold fed
        rw [if_neg (by omega), show m0 + i - m0 = i by omega]
        exact ⟨rfl, byt_lt⟩
      · rw [up2_k ej]
        exact h3 j (by omega)⟩
    refine ⟨V', wX12_feed_30 hK (bf (by rw [nI_le' (by omega) (by omega)]; omega) ⟨?_, ?_⟩), y2, fr_mo (fr_tr g1 y3) (fun a k q => q.elim id id)⟩
    · rw [h2]
      exact nI_v (by omega) (by omega)
    · rw [h2, nI_c (show m0 + i < 100000 by omega), nI_1, nI_1, byt_m v (by omega)]
      exact y1
theorem p_feed (hK : StK K) (hc : TpC m tp V) (hm : TpM m tp V) {x1 x2 : Int32} : ∃ (r : Int32) (V1 V2 : SV) (m' : Nat) (tp' : Nat → Nat), Ev G (d + 1) mX11_feed 0 [(0, .ref 0), (1, .int x1), (2, .int x2)] (K, n, V, J, O) (some (.int r)) (K, n, V1, J, O) ∧ Ev G (d + 1) mX12_feed 0 [(0, .ref 57), (1, .int x1), (2, .int x2)] (K, n, V1, J, O) (some (.int r)) (K, n, V2, J, O) ∧ fr (fun a k => a = 31 ∨ a = 62 ∨ (a = 0 ∧ k = 3) ∨ (a = 57 ∧ k = 6)) V V2 ∧ TpC m' tp' V2 ∧ TpM m' tp' V2 := by
  have h60 := hc.1
  by_cases h1 : ∃ c, (1 ≤ c ∧ c ≤ 4) ∧ x1 = nI c
  · obtain ⟨c, ⟨hc1, hc4⟩, rfl⟩ := h1
    have w1 : Ev G d mX11_isWithin 0 [(0, .int (nI c)), (1, .int 1), (2, .int 4)] (K, n, V, J, O) (some (.int 1)) (K, n, V, J, O) := ev_b (c11_isWithin hK) ((btw1_iff (N := 4) (by decide)).mpr ⟨c, ⟨hc1, hc4⟩, rfl⟩)
    have w2 : ∀ {V : SV}, Ev G d mX12_within 0 [(0, .long (nI c).toInt64), (2, .long (1 : Int64)), (4, .long (4 : Int64))] (K, n, V, J, O) (some (.int 1)) (K, n, V, J, O) := ev_b (c12_wi hK (lo := 1) (hi := 4) (by decide) (by decide)) ((btw1_iff (N := 4) (by decide)).mpr ⟨c, ⟨hc1, hc4⟩, rfl⟩)
    have ele : ∀ {W : Int32}, W = nI m → ((W + nI c ≤ 60) = (m + c ≤ 60)) := fun {W} e => by
      rw [e, nI_add]
      show (nI (m + c) ≤ nI 60) = _
      rw [nI_le' (by omega) (by omega)]
    by_cases hle : m + c ≤ 60
    · obtain ⟨V1, y1, y2, y3⟩ := c11_feed27 (G := G) (d := d) (K := K) (n := n) (J := J) (O := O) (tp := tp) (v := x2) (m0 := m) hK hc4 hle c 0 V (by omega) ⟨by omega, hc.2.1, fun i hi => by
        unfold fed
        rw [if_pos (by omega)]
        exact hc.2.2 i (by omega)⟩
      have m1 : TpM m tp V1 := ⟨hm.1, by rw [y3 _ _ (by omega)]; exact hm.2.1, fun i hi => by rw [y3 _ _ (by omega)]; exact hm.2.2 i hi⟩
      obtain ⟨V2, z1, z2, z3⟩ := c12_feed30 (G := G) (d := d) (K := K) (n := n) (J := J) (O := O) (tp := tp) (v := x2) (m0 := m) hK hc4 hle c 0 V1 (by omega) ⟨by omega, m1.2.1, fun i hi => by
        unfold fed
        rw [if_pos (by omega)]
        exact m1.2.2 i (by omega)⟩
      refine ⟨nI (m + c), V1, V2, m + c, fed tp m x2, wX11_feed_0 hK ⟨_, w1, nt one0 ?_⟩, wX12_feed_0 hK ⟨_, w2, nt one0 ?_⟩, fr_mo (fr_tr y3 z3) (fun a k q => by omega), ?_, z2⟩
      · rw [ele hc.2.1]
        exact bt hle y1
      · rw [ele m1.2.1]
        exact bt hle z1
      · exact ⟨y2.1, by rw [z3 _ _ (by omega)]; exact y2.2.1, fun i hi => by rw [z3 _ _ (by omega)]; exact y2.2.2 i hi⟩
    · refine ⟨-3, V, V, m, tp, wX11_feed_0 hK ⟨_, w1, nt one0 ?_⟩, wX12_feed_0 hK ⟨_, w2, nt one0 ?_⟩, fr_rfl, hc, hm⟩
      · rw [ele hc.2.1]
        exact bf hle ⟨rfl, rfl⟩
      · rw [ele hm.2.1]
        exact bf hle ⟨rfl, rfl⟩
  · exact ⟨-1, V, V, m, tp, wX11_feed_0 hK ⟨_, ev_n (c11_isWithin hK) (fun q => h1 ((btw1_iff (N := 4) (by decide)).mp q)), nf rfl ⟨rfl, rfl⟩⟩, wX12_feed_0 hK ⟨_, ev_n (c12_wi hK (lo := 1) (hi := 4) (by decide) (by decide)) (fun q => h1 ((btw1_iff (N := 4) (by decide)).mp q)), nf rfl ⟨rfl, rfl⟩⟩, fr_rfl, hc, hm⟩
end
