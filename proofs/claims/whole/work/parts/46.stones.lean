/-! ===== all stones: the loops of putting and taking ===== -/
/-- what a stone has: what it holds, all looks, the latest looks -/
def SX := GS × Int32 × Int32
def SCi (ad kd ky : Nat → Nat) (fl : Nat → Nat → Nat) (K : SK) (O : SO) (V : SV) (i : Nat) (x : SX) : Prop := ((96 ≤ ad i ∧ kd i ≤ 7 ∧ ky i < 4) ∧ O 33 i = some (ad i) ∧ IsSt K (ad i) (kc (kd i)) (ky i)) ∧ (V (ad i) 1 = nI i ∧ V (ad i) 2 = nI (ky i)) ∧ CR (kd i) (ad i) (fl (ky i)) x.1 V ∧ V (ad i) 6 = x.2.1 ∧ V (ad i) 7 = x.2.2
def SMi (kd ky : Nat → Nat) (V : SV) (i : Nat) (x : SX) : Prop := (kd i ≤ 7 ∧ ky i < 4) ∧ (V 70 i = nI (kd i) ∧ V 71 i = nI (ky i)) ∧ MR (kd i) i x.1 V ∧ V 78 i = x.2.1 ∧ V 79 i = x.2.2
/-- the stones lie apart -/
def SD (nS : Nat) (ad kd : Nat → Nat) : Prop := ∀ i j, i < j → j < nS → ad i + sz (kd i) ≤ ad j
def frS (nS : Nat) (ad kd : Nat → Nat) : Nat → Nat → Prop := fun a k => ∃ i, i < nS ∧ frE (sz (kd i)) (ad i) a k
def stx (x : SX) (g : GS) (c : Nat) : SX := (g, x.2.1 + nI c, nI c)
section
variable {G : Gp} {d : Nat} {K : SK} {n : Nat × Nat} {V V' : SV} {J : SJV} {O : SO}
variable {nS nT t : Nat} {ad kd ky : Nat → Nat} {fl : Nat → Nat → Nat} {x : Nat → SX} {gg : Nat → GS} {cc : Nat → Nat}
theorem SD_ne (h : SD nS ad kd) {i j : Nat} (hi : i < nS) (hj : j < nS) (hn : i ≠ j) : ad i + sz (kd i) ≤ ad j ∨ ad j + sz (kd j) ≤ ad i := by
  rcases Nat.lt_trichotomy i j with q | q | q
  · exact Or.inl (h i j q hj)
  · exact absurd q hn
  · exact Or.inr (h j i q hi)
theorem SCi_fr {i : Nat} {y : SX} (h : SCi ad kd ky fl K O V i y) (hf : fr (fun a _ => ¬ (ad i ≤ a ∧ a < ad i + sz (kd i))) V V') : SCi ad kd ky fl K O V' i y := by
  have hz := sz_ge (kd := kd i)
  obtain ⟨h1, h2, h3, h4, h5⟩ := h
  exact ⟨h1, ⟨by rw [hf _ _ (by omega)]; exact h2.1, by rw [hf _ _ (by omega)]; exact h2.2⟩, CR_fr h1.1.2.1 h3 (fr_mo hf (fun a k q => by omega)), by rw [hf _ _ (by omega)]; exact h4, by rw [hf _ _ (by omega)]; exact h5⟩
theorem c11_put115 (hK : StK K) (hD : SD nS ad kd) (hnS : nS ≤ 10) {x1 x2 x3 x4 : Int32} (hst : ∀ i, i < nS → ∃ M, vt5_38 (kc (kd i)) = some M ∧ stC (sz (kd i)) G (d + 5) K M (ad i) (ky i) nT (fl (ky i)) t (CR (kd i) (ad i) (fl (ky i)) (x i).1) (CR (kd i) (ad i) (fl (ky i)) (gg i)) (cc i)) : ∀ (k i : Nat) (V : SV), i + k = nS → V 0 7 = nI nS → (∀ y, y < 4 → cKe y nT (fl y) V) → (∀ j, j < nS → SCi ad kd ky fl K O V j (if j < i then stx (x j) (gg j) (cc j) else x j)) → ∃ V', Ev G (d + 7) mX11_put 115 [(0, .ref 0), (1, .int x1), (2, .int x2), (3, .int x3), (4, .int x4), (5, .int (nI t)), (6, .int (nI i))] (K, n, V, J, O) (some (.int (nI t))) (K, n, V', J, O) ∧ (∀ j, j < nS → SCi ad kd ky fl K O V' j (stx (x j) (gg j) (cc j))) ∧ fr (frS nS ad kd) V V' := by
  intro k
  induction k with
  | zero =>
    intro i V e h7 hk hS
    refine ⟨V, wX11_put_115 hK (bt (lp_out h7 (by omega) (by omega)) ⟨rfl, rfl⟩), fun j hj => ?_, fr_rfl⟩
    have := hS j hj
    rwa [if_pos (by omega)] at this
  | succ k ih =>
    intro i V e h7 hk hS
    have hi : i < nS := by omega
    have hSi := hS i hi
    have hz := sz_ge (kd := kd i)
    rw [if_neg (by omega)] at hSi
    obtain ⟨⟨⟨h96, hkd, hky⟩, hO, hIs⟩, ⟨n1, n2⟩, hCR, l1, l2⟩ := hSi
    obtain ⟨M, hM, hstC⟩ := hst i hi
    obtain ⟨V1, z1, z2, z3, z4, z5⟩ := c5_enter hK hkd hIs h96 hM hstC n J O V (hk _ hky) hCR
    have hk1 : ∀ y, y < 4 → cKe y nT (fl y) V1 := fun y hy => (hk y hy).fr h96 (fr_mo z5 (fun a k q => by unfold frE at q; omega))
    have hS1 : ∀ j, j < nS → SCi ad kd ky fl K O V1 j (if j < i + 1 then stx (x j) (gg j) (cc j) else x j) := by
      intro j hj
      by_cases ej : j = i
      · rw [if_pos (by omega), ej]
        exact ⟨⟨⟨h96, hkd, hky⟩, hO, hIs⟩, ⟨by rw [z5 _ _ (by unfold frE; omega)]; exact n1, by rw [z5 _ _ (by unfold frE; omega)]; exact n2⟩, z2, by rw [z4, l1]; rfl, z3⟩
      · have hd := SD_ne hD hi hj (fun q => ej q.symm)
        have := SCi_fr (V' := V1) (hS j hj) (fr_mo z5 (fun a k q => by unfold frE at q; omega))
        by_cases q : j < i
        · rw [if_pos q] at this
          rw [if_pos (by omega)]
          exact this
        · rw [if_neg q] at this
          rw [if_neg (by omega)]
          exact this
    obtain ⟨V2, y1, y2, y3⟩ := ih (i + 1) V1 (by omega) (by rw [z5 _ _ (by unfold frE; omega)]; exact h7) hk1 hS1
    refine ⟨V2, wX11_put_115 hK (bf (lp_in h7 (by omega) (by omega)) ⟨nI_v (by omega) (by omega), ad i, kc (kd i), ky i, ?_, hIs, kc_in hkd, V1, z1, ?_⟩), y2, ?_⟩
    · rw [nI_c (by omega)]; exact hO
    · rw [nI_1]; exact y1
    · exact fr_mo (fr_tr z5 y3) (fun a k q => q.elim (fun q => ⟨i, hi, q⟩) id)
theorem c11_take37 (hK : StK K) (hD : SD nS ad kd) (hnS : nS ≤ 10) (hst : ∀ i, i < nS → ∃ M, vt5_48 (kc (kd i)) = some M ∧ stC (sz (kd i)) G (d + 5) K M (ad i) (ky i) nT (fl (ky i)) t (CR (kd i) (ad i) (fl (ky i)) (x i).1) (CR (kd i) (ad i) (fl (ky i)) (gg i)) (cc i)) : ∀ (k i : Nat) (V : SV), i + k = nS → V 0 7 = nI nS → (∀ y, y < 4 → cKe y nT (fl y) V) → (∀ j, j < nS → SCi ad kd ky fl K O V j (if j < i then stx (x j) (gg j) (cc j) else x j)) → ∃ V', Ev G (d + 7) mX11_take 37 [(0, .ref 0), (1, .int (nI t)), (2, .int (nI i))] (K, n, V, J, O) (some (.int 1)) (K, n, V', J, O) ∧ (∀ j, j < nS → SCi ad kd ky fl K O V' j (stx (x j) (gg j) (cc j))) ∧ fr (frS nS ad kd) V V' := by
  intro k
  induction k with
  | zero =>
    intro i V e h7 hk hS
    refine ⟨V, wX11_take_37 hK (bt (lp_out h7 (by omega) (by omega)) ⟨rfl, rfl⟩), fun j hj => ?_, fr_rfl⟩
    have := hS j hj
    rwa [if_pos (by omega)] at this
  | succ k ih =>
    intro i V e h7 hk hS
    have hi : i < nS := by omega
    have hSi := hS i hi
    have hz := sz_ge (kd := kd i)
    rw [if_neg (by omega)] at hSi
    obtain ⟨⟨⟨h96, hkd, hky⟩, hO, hIs⟩, ⟨n1, n2⟩, hCR, l1, l2⟩ := hSi
    obtain ⟨M, hM, hstC⟩ := hst i hi
    obtain ⟨V1, z1, z2, z3, z4, z5⟩ := c5_leave hK hkd hIs h96 hM hstC n J O V (hk _ hky) hCR
    have hk1 : ∀ y, y < 4 → cKe y nT (fl y) V1 := fun y hy => (hk y hy).fr h96 (fr_mo z5 (fun a k q => by unfold frE at q; omega))
    have hS1 : ∀ j, j < nS → SCi ad kd ky fl K O V1 j (if j < i + 1 then stx (x j) (gg j) (cc j) else x j) := by
      intro j hj
      by_cases ej : j = i
      · rw [if_pos (by omega), ej]
        exact ⟨⟨⟨h96, hkd, hky⟩, hO, hIs⟩, ⟨by rw [z5 _ _ (by unfold frE; omega)]; exact n1, by rw [z5 _ _ (by unfold frE; omega)]; exact n2⟩, z2, by rw [z4, l1]; rfl, z3⟩
      · have hd := SD_ne hD hi hj (fun q => ej q.symm)
        have := SCi_fr (V' := V1) (hS j hj) (fr_mo z5 (fun a k q => by unfold frE at q; omega))
        by_cases q : j < i
        · rw [if_pos q] at this
          rw [if_pos (by omega)]
          exact this
        · rw [if_neg q] at this
          rw [if_neg (by omega)]
          exact this
    obtain ⟨V2, y1, y2, y3⟩ := ih (i + 1) V1 (by omega) (by rw [z5 _ _ (by unfold frE; omega)]; exact h7) hk1 hS1
    refine ⟨V2, wX11_take_37 hK (bf (lp_in h7 (by omega) (by omega)) ⟨nI_v (by omega) (by omega), ad i, kc (kd i), ky i, ?_, hIs, kc_in hkd, V1, z1, ?_⟩), y2, ?_⟩
    · rw [nI_c (by omega)]; exact hO
    · rw [nI_1]; exact y1
    · exact fr_mo (fr_tr z5 y3) (fun a k q => q.elim (fun q => ⟨i, hi, q⟩) id)
def frQ (nS : Nat) : Nat → Nat → Prop := fun a k => ((a = 72 ∨ a = 74 ∨ a = 75) ∧ k < 80 * nS) ∨ ((a = 73 ∨ a = 76 ∨ a = 77 ∨ a = 78 ∨ a = 79) ∧ k < nS) ∨ (a = 57 ∧ k = 32)
theorem frPQ {s a k : Nat} (hs : s < nS) (h : frP s a k) : frQ nS a k := by
  unfold frP at h
  unfold frQ
  omega
theorem SMi_fr {i s : Nat} {y : SX} (h : SMi kd ky V i y) (hf : fr (frP s) V V') (hn : s ≠ i) : SMi kd ky V' i y := by
  obtain ⟨h1, h2, h3, h4, h5⟩ := h
  exact ⟨h1, ⟨by rw [hf _ _ (by unfold frP; omega)]; exact h2.1, by rw [hf _ _ (by unfold frP; omega)]; exact h2.2⟩, MR_fr h1.1 h3 (fr_mo hf (fun a k q => by unfold frP at q; omega)), by rw [hf _ _ (by unfold frP; omega)]; exact h4, by rw [hf _ _ (by unfold frP; omega)]; exact h5⟩
theorem SMi_mKe {i : Nat} {y : SX} (hi : i < 10) (h : SMi kd ky V i y) (hT : nT ≤ 80) (hf : ∀ f t, f < 4 → t < nT → V 58 (4 * t + f) = nI (fl f t) ∧ fl f t < 100) : mKe i (ky i) nT (fl (ky i)) V := ⟨hi, h.1.2, hT, h.2.1.2, fun t ht => hf _ t h.1.2 ht⟩
theorem c12_put161 (hK : StK K) (hnS : nS ≤ 10) (hT : nT ≤ 80) {N : Nat} (hN : N - 1 = t ∧ 1 ≤ N ∧ N < 1000) {x1 x2 x3 x4 : Int32} (hst : ∀ i, i < nS → stM G (d + 5) K mX12_putIn (kd i) i (ky i) nT (fl (ky i)) t (MR (kd i) i (x i).1) (MR (kd i) i (gg i)) (cc i)) : ∀ (k i : Nat) (V : SV), i + k = nS → V 57 25 = nI nS → V 57 2 = nI N → (∀ f t, f < 4 → t < nT → V 58 (4 * t + f) = nI (fl f t) ∧ fl f t < 100) → (∀ j, j < nS → SMi kd ky V j (if j < i then stx (x j) (gg j) (cc j) else x j)) → ∃ V', Ev G (d + 6) mX12_put 161 [(0, .ref 57), (1, .int x1), (2, .int x2), (3, .int x3), (4, .int x4), (5, .int (nI i))] (K, n, V, J, O) (some (.int (nI t))) (K, n, V', J, O) ∧ (∀ j, j < nS → SMi kd ky V' j (stx (x j) (gg j) (cc j))) ∧ fr (frQ nS) V V' := by
  intro k
  induction k with
  | zero =>
    intro i V e h25 h2 hf hS
    refine ⟨V, wX12_put_161 hK (bt (lp_out h25 (by omega) (by omega)) ⟨?_, rfl⟩), fun j hj => ?_, fr_rfl⟩
    · rw [h2, nI_m1 hN.2.1, hN.1]
    · have := hS j hj
      rwa [if_pos (by omega)] at this
  | succ k ih =>
    intro i V e h25 h2 hf hS
    have hi : i < nS := by omega
    have hSi := hS i hi
    rw [if_neg (by omega)] at hSi
    obtain ⟨V1, z1, z2, z3, z4, z5⟩ := hst i hi n J O V (SMi_mKe (by omega) hSi hT hf) hSi.2.1.1 hSi.2.2.1
    have hS1 : ∀ j, j < nS → SMi kd ky V1 j (if j < i + 1 then stx (x j) (gg j) (cc j) else x j) := by
      intro j hj
      by_cases ej : j = i
      · rw [if_pos (by omega), ej]
        exact ⟨hSi.1, ⟨by rw [z5 _ _ (by unfold frP; omega)]; exact hSi.2.1.1, by rw [z5 _ _ (by unfold frP; omega)]; exact hSi.2.1.2⟩, z2, by rw [z4, hSi.2.2.2.1]; rfl, z3⟩
      · have := SMi_fr (hS j hj) z5 (fun q => ej q.symm)
        by_cases q : j < i
        · rw [if_pos q] at this
          rw [if_pos (by omega)]
          exact this
        · rw [if_neg q] at this
          rw [if_neg (by omega)]
          exact this
    obtain ⟨V2, y1, y2, y3⟩ := ih (i + 1) V1 (by omega) (by rw [z5 _ _ (by unfold frP; omega)]; exact h25) (by rw [z5 _ _ (by unfold frP; omega)]; exact h2) (fun f t hf' ht => by rw [z5 _ _ (by unfold frP; omega)]; exact hf f t hf' ht) hS1
    refine ⟨V2, wX12_put_161 hK (bf (lp_in h25 (by omega) (by omega)) ⟨V1, ?_, ?_⟩), y2, ?_⟩
    · rw [h2, nI_m1 hN.2.1, hN.1]
      exact z1
    · rw [nI_1]; exact y1
    · exact fr_mo (fr_tr z5 y3) (fun a k q => q.elim (frPQ hi) id)
theorem c12_take31 (hK : StK K) (hnS : nS ≤ 10) (hT : nT ≤ 80) (hst : ∀ i, i < nS → stM G (d + 5) K mX12_takeFrom (kd i) i (ky i) nT (fl (ky i)) t (MR (kd i) i (x i).1) (MR (kd i) i (gg i)) (cc i)) : ∀ (k i : Nat) (V : SV), i + k = nS → V 57 25 = nI nS → (∀ f t, f < 4 → t < nT → V 58 (4 * t + f) = nI (fl f t) ∧ fl f t < 100) → (∀ j, j < nS → SMi kd ky V j (if j < i then stx (x j) (gg j) (cc j) else x j)) → ∃ V', Ev G (d + 6) mX12_take 31 [(0, .ref 57), (1, .int (nI t)), (2, .int (nI i))] (K, n, V, J, O) (some (.int 1)) (K, n, V', J, O) ∧ (∀ j, j < nS → SMi kd ky V' j (stx (x j) (gg j) (cc j))) ∧ fr (frQ nS) V V' := by
  intro k
  induction k with
  | zero =>
    intro i V e h25 hf hS
    refine ⟨V, wX12_take_31 hK (bt (lp_out h25 (by omega) (by omega)) ⟨rfl, rfl⟩), fun j hj => ?_, fr_rfl⟩
    have := hS j hj
    rwa [if_pos (by omega)] at this
  | succ k ih =>
    intro i V e h25 hf hS
    have hi : i < nS := by omega
    have hSi := hS i hi
    rw [if_neg (by omega)] at hSi
    obtain ⟨V1, z1, z2, z3, z4, z5⟩ := hst i hi n J O V (SMi_mKe (by omega) hSi hT hf) hSi.2.1.1 hSi.2.2.1
    have hS1 : ∀ j, j < nS → SMi kd ky V1 j (if j < i + 1 then stx (x j) (gg j) (cc j) else x j) := by
      intro j hj
      by_cases ej : j = i
      · rw [if_pos (by omega), ej]
        exact ⟨hSi.1, ⟨by rw [z5 _ _ (by unfold frP; omega)]; exact hSi.2.1.1, by rw [z5 _ _ (by unfold frP; omega)]; exact hSi.2.1.2⟩, z2, by rw [z4, hSi.2.2.2.1]; rfl, z3⟩
      · have := SMi_fr (hS j hj) z5 (fun q => ej q.symm)
        by_cases q : j < i
        · rw [if_pos q] at this
          rw [if_pos (by omega)]
          exact this
        · rw [if_neg q] at this
          rw [if_neg (by omega)]
          exact this
    obtain ⟨V2, y1, y2, y3⟩ := ih (i + 1) V1 (by omega) (by rw [z5 _ _ (by unfold frP; omega)]; exact h25) (fun f t hf' ht => by rw [z5 _ _ (by unfold frP; omega)]; exact hf f t hf' ht) hS1
    refine ⟨V2, wX12_take_31 hK (bf (lp_in h25 (by omega) (by omega)) ⟨V1, z1, ?_⟩), y2, ?_⟩
    · rw [nI_1]; exact y1
    · exact fr_mo (fr_tr z5 y3) (fun a k q => q.elim (frPQ hi) id)
end
