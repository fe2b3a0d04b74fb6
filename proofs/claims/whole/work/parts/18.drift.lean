/-! ===== the least drift ===== -/
theorem sh_n : ∀ d, d < 32 → ((nI d &&& 31).toBitVec.smod 32).toNat = d := by decide +kernel
theorem shl1 {d : Nat} (h : d < 31) : (1 : Int32) <<< (nI d &&& 31) = nI (2 ^ d) := by
  have h2 : (2 : Nat) ^ d < 2 ^ 31 := Nat.pow_lt_pow_right (by decide) h
  have := pk_shlN (n := 1) (nI d &&& 31) d (sh_n d (by omega)) (by omega)
  rw [Nat.one_mul] at this
  exact this
theorem bit_n {a d : Nat} (ha : a < 100000) (hd : d < 31) : (nI a >>> (nI d &&& 31)) &&& 1 = bI (a.testBit d = true) := by
  rw [pk_shrN (by omega) _ d (sh_n d (by omega)), pk_andN (n := a / 2 ^ d) (Nat.lt_of_le_of_lt (Nat.div_le_self _ _) (by omega)) 1 (by decide)]
  have e : a.testBit d = decide (a / 2 ^ d % 2 = 1) := by rw [Nat.testBit_eq_decide_div_mod_eq]
  rw [e]
  rcases Nat.mod_two_eq_zero_or_one (a / 2 ^ d) with h | h
  · rw [show (2 : Nat) ^ 1 = 2 from rfl, h, bI_f (by simp)]; rfl
  · rw [show (2 : Nat) ^ 1 = 2 from rfl, h, bI_t (by simp)]; rfl
/-- a row of plans as a number -/
def ofB (p : Nat → Bool) : Nat → Nat
  | 0 => 0
  | d + 1 => ofB p d + (if p d = true then 2 ^ d else 0)
theorem ofB_lt (p : Nat → Bool) : ∀ d, ofB p d < 2 ^ d
  | 0 => Nat.zero_lt_one
  | d + 1 => by
    have := ofB_lt p d
    rw [Nat.pow_succ]
    show ofB p d + _ < _
    split <;> omega
theorem ofB_bit (p : Nat → Bool) : ∀ d j, j < d → (ofB p d).testBit j = p j
  | 0, j, h => absurd h (Nat.not_lt_zero _)
  | d + 1, j, h => by
    have h1 := ofB_lt p d
    show (ofB p d + _).testBit j = _
    by_cases e : j = d
    · subst e
      rw [Nat.testBit_eq_decide_div_mod_eq]
      by_cases hp : p j = true
      · rw [if_pos hp, Nat.add_div_right _ (Nat.two_pow_pos j), Nat.div_eq_of_lt h1, hp]
        rfl
      · rw [if_neg hp, Nat.add_zero, Nat.div_eq_of_lt h1]
        simp at hp
        rw [hp]
        rfl
    · have ih := ofB_bit p d j (by omega)
      by_cases hp : p d = true
      · rw [if_pos hp, Nat.add_comm, Nat.testBit_two_pow_add_gt (by omega), ih]
      · rw [if_neg hp, Nat.add_zero, ih]
section
variable {G : Gp} {dd : Nat} {K : SK} {n : Nat × Nat} {V V' : SV} {J J' : SJV} {O O' : SO} {r : Option Value}
variable {nD : Nat} {A B : Nat → Nat}
theorem min_n {a b : Nat} (ha : a < 100000) (hb : b < 100000) : (if nI a < nI b then nI a else nI b) = nI (if a < b then a else b) := by
  by_cases h : a < b
  · rw [if_pos h, if_pos ((nI_l' ha hb).mpr h)]
  · rw [if_neg h, if_neg (fun q => h ((nI_l' ha hb).mp q))]
theorem isL_le {c : Nat} {d : Nat} {b : Bool} {a : Nat} (hc : c ≤ 999) (h : isL c A B d b a) (hb : ∀ j, j < d → A j ≤ 999 ∧ B j ≤ 999) : a ≤ 1998 * d := by
  obtain ⟨p, -, e⟩ := h.2
  rw [e]
  exact cst_le hc hb
theorem c9_ld (hK : StK K) (h : cD nD A B V) {c : Nat} (hc : c ≤ 999) : ∀ (k d a b : Nat), d + k = nD → 0 < d → isL c A B d false a → isL c A B d true b → ∃ m, isM c A B nD m ∧ Ev G dd mX9_leastDrift 7 [(0, .ref 13), (1, .int (nI c)), (2, .int (nI a)), (3, .int (nI b)), (4, .int (nI d))] (K, n, V, J, O) (some (.int (nI m))) (K, n, V, J, O) := by
  intro k
  have h12 := h.1
  have hb : ∀ j, j < nD → A j ≤ 999 ∧ B j ≤ 999 := fun j hj => (h.2.2 j hj).2.2
  induction k with
  | zero =>
    intro d a b e hd h1 h2
    have l1 := isL_le hc h1 fun j hj => hb j (by omega)
    have l2 := isL_le hc h2 fun j hj => hb j (by omega)
    have e : d = nD := e
    subst e
    refine ⟨_, isM_of h1 h2, wX9_leastDrift_7 hK (bt (lp_out h.2.1 (by omega) (by omega)) ?_)⟩
    rw [min_n (by omega) (by omega)]
  | succ k ih =>
    intro d a b e hd h1 h2
    have l1 := isL_le hc h1 fun j hj => hb j (by omega)
    have l2 := isL_le hc h2 fun j hj => hb j (by omega)
    obtain ⟨e1, e2, -, -⟩ := h.2.2 d (by omega)
    have hi := nI_v (a := d) (N := 12) (by omega) (by omega)
    obtain ⟨m, hm, hE⟩ := ih (d + 1) _ _ (by omega) (by omega) (isL_s hd h1 h2) (isL_s hd h2 h1)
    refine ⟨m, hm, wX9_leastDrift_7 hK (bf (lp_in h.2.1 (by omega) (by omega)) ?_)⟩
    have hd0 : nI d ≠ 0 := nI_ne0 hd (by omega)
    refine nt hd0 (nt hd0 ⟨hi, hi, ?_⟩)
    rw [nI_c (by omega), e1, e2, nI_1, nI_add, nI_add, min_n (by omega) (by omega), min_n (by omega) (by omega), nI_add, nI_add]
    exact hE
theorem c9_leastDrift (hK : StK K) (h : cD nD A B V) {c : Nat} (hc : c ≤ 999) (h0 : 0 < nD) : ∃ m, isM c A B nD m ∧ Ev G dd mX9_leastDrift 0 [(0, .ref 13), (1, .int (nI c))] (K, n, V, J, O) (some (.int (nI m))) (K, n, V, J, O) := by
  have h12 := h.1
  obtain ⟨e1, e2, -, -⟩ := h.2.2 0 h0
  obtain ⟨m, hm, hE⟩ := c9_ld (G := G) (dd := dd) (n := n) (J := J) (O := O) hK h hc (nD - 1) 1 _ _ (by omega) (by omega) isL_1 isL_1
  refine ⟨m, hm, wX9_leastDrift_0 hK (wX9_leastDrift_7 hK (bf (lp_in (t := 0) h.2.1 h0 (by omega)) ?_))⟩
  have hi : vp_in (0 : Int32) 12 := nI_v (a := 0) (N := 12) (by omega) (by omega)
  refine nf rfl (nf rfl ⟨hi, hi, ?_⟩)
  have ec : (0 : Int32).toNatClampNeg = 0 := nI_c (a := 0) (by omega)
  rw [ec, e1, e2, Int32.zero_add, Int32.zero_add]
  exact hE
/-! the reference: all rows -/
theorem c12_row (hK : StK K) (h : mD nD A B V) {c w : Nat} {x2 : Int32} (hc : c ≤ 999) (hw : w < 4096) {m : Nat} (hk : ∀ a, a = cst c A B (fun j => w.testBit j) nD → Ev G (dd + 1) mX12_leastDrift 6 [(0, .ref 57), (1, .int (nI c)), (2, .int (if x2 ≤ nI a then x2 else nI a)), (3, .int (nI (w + 1)))] (K, n, V, J, O) (some (.int (nI m))) (K, n, V, J, O)) : ∀ (k d a : Nat), d + k = nD → a = cst c A B (fun j => w.testBit j) d → Ev G (dd + 1) mX12_leastDrift 22 [(0, .ref 57), (1, .int (nI c)), (2, .int x2), (3, .int (nI w)), (4, .int (nI a)), (5, .int (nI d))] (K, n, V, J, O) (some (.int (nI m))) (K, n, V, J, O) := by
  intro k
  have h12 := h.1
  have hb : ∀ j, j < nD → A j ≤ 999 ∧ B j ≤ 999 := fun j hj => (h.2.2 j hj).2.2
  induction k with
  | zero =>
    intro d a e ha
    have e : d = nD := e
    subst e
    have := hk a ha
    refine wX12_leastDrift_22 hK (bt (lp_out h.2.1 (by omega) (by omega)) ⟨fun q => ?_, fun q => ?_⟩)
    · rw [if_pos q] at this
      rw [nI_1]
      exact this
    · rw [if_neg q] at this
      rw [nI_1]
      exact this
  | succ k ih =>
    intro d a e ha
    have la : a ≤ 1998 * d := by rw [ha]; exact cst_le hc fun j hj => hb j (by omega)
    refine wX12_leastDrift_22 hK (bf (lp_in h.2.1 (by omega) (by omega)) ?_)
    rw [bit_n (by omega) (by omega)]
    refine ⟨_, c12_costOf hK h (by omega), ?_⟩
    have hco : (if w.testBit d = true then B d else A d) ≤ 999 := by have := hb d (by omega); split <;> omega
    rw [nI_le0 (by omega), nI_1]
    by_cases hd : d ≤ 0
    · refine bt hd ?_
      rw [Int32.add_zero, nI_add]
      refine ih (d + 1) _ (by omega) ?_
      show _ = cst c A B _ d + _
      rw [← ha, if_neg (show ¬ (0 < d ∧ w.testBit d ≠ w.testBit (d - 1)) from fun q => absurd q.1 (by omega))]
      rfl
    · refine bf hd ?_
      rw [show nI d - 1 = nI (d - 1) from by rw [show (1 : Int32) = nI 1 from rfl, nI_s (by omega)], bit_n (by omega) (by omega)]
      by_cases hx : w.testBit d = w.testBit (d - 1)
      · refine bt (by rw [hx]) ?_
        rw [Int32.add_zero, nI_add]
        refine ih (d + 1) _ (by omega) ?_
        show _ = cst c A B _ d + _
        rw [← ha, if_neg (show ¬ (0 < d ∧ w.testBit d ≠ w.testBit (d - 1)) from fun q => q.2 hx)]
        rfl
      · refine bf (fun q => hx ?_) ?_
        · cases e1 : w.testBit d <;> cases e2 : w.testBit (d - 1) <;> rw [e1, e2] at q <;> first | rfl | exact absurd q (by decide)
        · rw [nI_add, nI_add]
          refine ih (d + 1) _ (by omega) ?_
          show _ = cst c A B _ d + _
          rw [← ha, if_pos (show 0 < d ∧ w.testBit d ≠ w.testBit (d - 1) from ⟨by omega, hx⟩)]
theorem c12_rows (hK : StK K) (h : mD nD A B V) {c m : Nat} (hc : c ≤ 999) (hm : isM c A B nD m) : ∀ (k w : Nat) (x2 : Int32), w + k = 2 ^ nD → (∀ v, v < w → x2 ≤ nI (cst c A B (fun j => v.testBit j) nD)) → ((w = 0 ∧ x2 = 1999999999) ∨ ∃ v, v < w ∧ x2 = nI (cst c A B (fun j => v.testBit j) nD)) → Ev G (dd + 1) mX12_leastDrift 6 [(0, .ref 57), (1, .int (nI c)), (2, .int x2), (3, .int (nI w))] (K, n, V, J, O) (some (.int (nI m))) (K, n, V, J, O) := by
  intro k
  have h12 := h.1
  have hb : ∀ j, j < nD → A j ≤ 999 ∧ B j ≤ 999 := fun j hj => (h.2.2 j hj).2.2
  have hp : (2 : Nat) ^ nD ≤ 4096 := Nat.pow_le_pow_right (n := 2) (by decide) h12
  have hcl : ∀ v : Nat, cst c A B (fun j => v.testBit j) nD ≤ 1998 * nD := fun v => cst_le hc hb
  induction k with
  | zero =>
    intro w x2 e h1 h2
    refine wX12_leastDrift_6 hK ?_
    rw [h.2.1, shl1 (by omega)]
    refine bt (nI_le (by omega) (by omega)) ?_
    have hw0 : 0 < 2 ^ nD := Nat.two_pow_pos nD
    rcases h2 with ⟨h2, -⟩ | ⟨v, hv, rfl⟩
    · omega
    · congr 3
      refine isM_u hm ⟨fun p => ?_, _, rfl⟩
      have h3 := h1 (ofB p nD) (by have := ofB_lt p nD; omega)
      rw [cst_eq (q := p) fun j hj => ofB_bit p nD j hj] at h3
      have h4 : cst c A B p nD ≤ 1998 * nD := cst_le hc hb
      rw [nI_le' (by have := hcl v; omega) (by omega)] at h3
      exact h3
  | succ k ih =>
    intro w x2 e h1 h2
    refine wX12_leastDrift_6 hK ?_
    rw [h.2.1, shl1 (by omega)]
    refine bf (by rw [nI_le' (by omega) (by omega)]; omega) ?_
    refine c12_row hK h hc (by omega) (fun a ha => ?_) nD 0 0 (by omega) rfl
    have hal : a ≤ 1998 * nD := ha ▸ hcl w
    refine ih (w + 1) _ (by omega) (fun v hv => ?_) (Or.inr ?_)
    · by_cases e2 : v = w
      · subst e2
        rw [← ha]
        split
        · assumption
        · exact Int32.le_refl _
      · have h5 := h1 v (by omega)
        split
        · exact h5
        · rename_i q
          exact Int32.le_trans (Int32.le_of_lt (Int32.not_le.mp q)) h5
    · rcases h2 with ⟨h2, h3⟩ | ⟨v, hv, h3⟩
      · refine ⟨w, by omega, ?_⟩
        rw [h3, ← ha]
        rw [if_neg]
        rw [show (1999999999 : Int32) = nI 1999999999 from rfl, nI_leI (by decide) (by omega)]
        omega
      · by_cases q : x2 ≤ nI a
        · rw [if_pos q]
          exact ⟨v, by omega, h3⟩
        · rw [if_neg q]
          exact ⟨w, by omega, by rw [ha]⟩
theorem c12_leastDrift (hK : StK K) (h : mD nD A B V) {c m : Nat} (hc : c ≤ 999) (hm : isM c A B nD m) : Ev G (dd + 1) mX12_leastDrift 0 [(0, .ref 57), (1, .int (nI c))] (K, n, V, J, O) (some (.int (nI m))) (K, n, V, J, O) := wX12_leastDrift_0 hK (c12_rows hK h hc hm (2 ^ nD) 0 _ (by omega) (fun v hv => absurd hv (Nat.not_lt_zero _)) (Or.inl ⟨rfl, rfl⟩))
/-! the calls -/
theorem p_undrift (hK : StK K) (hc : cD nD A B V) (hm : mD nD A B V) : ∃ (r : Int32) (V1 V2 : SV), Ev G dd mX11_undrift 0 [(0, .ref 0)] (K, n, V, J, O) (some (.int r)) (K, n, V1, J, O) ∧ Ev G dd mX12_undrift 0 [(0, .ref 57)] (K, n, V1, J, O) (some (.int r)) (K, n, V2, J, O) ∧ fr (fun a k => (a = 13 ∧ k = 0) ∨ (a = 57 ∧ k = 36)) V V2 ∧ cD 0 A B V2 ∧ mD 0 A B V2 := by
  refine ⟨nI nD, up2 V 13 0 0, up2 (up2 V 13 0 0) 57 36 0, wX11_undrift_0 hK ⟨by rw [hc.2.1], rfl⟩, wX12_undrift_0 hK ⟨?_, rfl⟩, fr_up (fr_up fr_rfl (Or.inl ⟨rfl, rfl⟩)) (Or.inr ⟨rfl, rfl⟩), ⟨Nat.zero_le _, rfl, fun d hd => absurd hd (Nat.not_lt_zero _)⟩, ⟨Nat.zero_le _, rfl, fun d hd => absurd hd (Nat.not_lt_zero _)⟩⟩
  rw [up2_a (by decide), hm.2.1]
theorem p_drifted (hK : StK K) (hc : cD nD A B V) (hm : mD nD A B V) {x1 x2 : Int32} : ∃ r : Int32, Ev G (dd + 2) mX11_drifted 0 [(0, .ref 0), (1, .int x1), (2, .int x2)] (K, n, V, J, O) (some (.int r)) (K, n, V, J, O) ∧ Ev G (dd + 2) mX12_drifted 0 [(0, .ref 57), (1, .int x1), (2, .int x2)] (K, n, V, J, O) (some (.int r)) (K, n, V, J, O) := by
  have h12 := hc.1
  by_cases h1 : ∃ c, c ≤ 999 ∧ x1 = nI c
  · obtain ⟨c, hc9, rfl⟩ := h1
    have y1 := x_wi (G := G) (d := dd + 1) (n := n) (V := V) (J := J) (O := O) (N := 999) hK (by decide) hc9
    have y2 := m_wi (G := G) (d := dd + 1) (n := n) (V := V) (J := J) (O := O) (N := 999) (N' := 999) hK (by decide) (by decide) hc9
    by_cases h0 : nD = 0
    · subst h0
      refine ⟨-1, wX11_drifted_0 hK ⟨_, y1, bf one0 (nf hc.2.1 rfl)⟩, wX12_drifted_0 hK ⟨_, y2, bf one0 ?_⟩⟩
      by_cases h2 : ∃ k, k ≤ 2 ∧ x2 = nI k
      · obtain ⟨k, hk, rfl⟩ := h2
        exact ⟨_, m_wi (N := 2) hK (by decide) (by decide) hk, bf one0 (nf hm.2.1 rfl)⟩
      · exact ⟨_, m_win (N := 2) hK (by decide) (by decide) h2, bt rfl rfl⟩
    · have n1 : V 13 0 ≠ 0 := by rw [hc.2.1]; exact nI_ne0 (by omega) (by omega)
      have n2 : V 57 36 ≠ 0 := by rw [hm.2.1]; exact nI_ne0 (by omega) (by omega)
      by_cases h2 : ∃ k, k ≤ 2 ∧ x2 = nI k
      · obtain ⟨k, hk, rfl⟩ := h2
        have y3 := m_wi (G := G) (d := dd + 1) (n := n) (V := V) (J := J) (O := O) (N := 2) (N' := 2) hK (by decide) (by decide) hk
        rcases (show k = 0 ∨ k = 1 ∨ k = 2 by omega) with rfl | rfl | rfl
        · obtain ⟨m, hm0, hE⟩ := c9_leastDrift (G := G) (dd := dd + 1) (n := n) (J := J) (O := O) hK hc hc9 (by omega)
          exact ⟨nI m, wX11_drifted_0 hK ⟨_, y1, bf one0 (nt n1 ⟨fun _ => ⟨_, hE, rfl⟩, fun q => absurd q (by decide), fun q => absurd q (by decide), fun q => absurd rfl q.1⟩)⟩, wX12_drifted_0 hK ⟨_, y2, bf one0 ⟨_, y3, bf one0 (nt n2 (nf rfl ⟨_, c12_leastDrift hK hm hc9 hm0, rfl⟩))⟩⟩⟩
        · refine ⟨_, wX11_drifted_0 hK ⟨_, y1, bf one0 (nt n1 ⟨fun q => absurd q (by decide), fun _ => ⟨_, wX9_ruledDrift_0 hK (c9_rul hK hc nD 0 false 0 0 0 (by omega)), rfl⟩, fun q => absurd q (by decide), fun q => absurd rfl q.2.1⟩)⟩, wX12_drifted_0 hK ⟨_, y2, bf one0 ⟨_, y3, bf one0 (nt n2 (nt (by decide) ?_))⟩⟩⟩
          exact c12_rul (w := 0) hK hm nD 0 false 0 0 0 (by omega)
        · refine ⟨_, wX11_drifted_0 hK ⟨_, y1, bf one0 (nt n1 ⟨fun q => absurd q (by decide), fun q => absurd q (by decide), fun _ => ⟨_, wX9_ruledDrift_0 hK (c9_rul hK hc nD 0 false 0 0 0 (by omega)), rfl⟩, fun q => absurd rfl q.2.2⟩)⟩, wX12_drifted_0 hK ⟨_, y2, bf one0 ⟨_, y3, bf one0 (nt n2 (nt (by decide) ?_))⟩⟩⟩
          exact c12_rul (w := 1) hK hm nD 0 false 0 0 0 (by omega)
      · refine ⟨-1, wX11_drifted_0 hK ⟨_, y1, bf one0 (nt n1 ⟨fun q => absurd ⟨0, by decide, q⟩ h2, fun q => absurd ⟨1, by decide, q⟩ h2, fun q => absurd ⟨2, by decide, q⟩ h2, fun _ => rfl⟩)⟩, wX12_drifted_0 hK ⟨_, y2, bf one0 ⟨_, m_win (N := 2) hK (by decide) (by decide) h2, bt rfl rfl⟩⟩⟩
  · exact ⟨-1, wX11_drifted_0 hK ⟨_, x_win (N := 999) hK (by decide) h1, bt rfl rfl⟩, wX12_drifted_0 hK ⟨_, m_win (N := 999) hK (by decide) (by decide) h1, bt rfl rfl⟩⟩
theorem p_drift (hK : StK K) (hc : cD nD A B V) (hm : mD nD A B V) {x1 x2 : Int32} : ∃ (r : Int32) (V1 V2 : SV) (nD' : Nat) (A' B' : Nat → Nat), Ev G (dd + 1) mX11_drift 0 [(0, .ref 0), (1, .int x1), (2, .int x2)] (K, n, V, J, O) (some (.int r)) (K, n, V1, J, O) ∧ Ev G (dd + 1) mX12_drift 0 [(0, .ref 57), (1, .int x1), (2, .int x2)] (K, n, V1, J, O) (some (.int r)) (K, n, V2, J, O) ∧ fr (fun a k => (a = 13 ∧ k = 0) ∨ (a = 57 ∧ k = 36) ∨ a = 14 ∨ a = 15 ∨ a = 80 ∨ a = 81) V V2 ∧ cD nD' A' B' V2 ∧ mD nD' A' B' V2 := by
  have h12 := hc.1
  by_cases h1 : ∃ c, c ≤ 999 ∧ x1 = nI c
  · obtain ⟨a, ha, rfl⟩ := h1
    have y1 := x_wi (G := G) (d := dd) (n := n) (V := V) (J := J) (O := O) (N := 999) hK (by decide) ha
    have y2 := fun V => m_wi (G := G) (d := dd) (n := n) (V := V) (J := J) (O := O) (N := 999) (N' := 999) hK (by decide) (by decide) ha
    by_cases h2 : ∃ c, c ≤ 999 ∧ x2 = nI c
    · obtain ⟨b, hb, rfl⟩ := h2
      have z1 := x_wi (G := G) (d := dd) (n := n) (V := V) (J := J) (O := O) (N := 999) hK (by decide) hb
      have z2 := fun V => m_wi (G := G) (d := dd) (n := n) (V := V) (J := J) (O := O) (N := 999) (N' := 999) hK (by decide) (by decide) hb
      by_cases h0 : nD = 12
      · subst h0
        exact ⟨-3, V, V, 12, A, B, wX11_drift_0 hK ⟨_, y1, bf one0 ⟨_, z1, nt one0 (bf (by rw [hc.2.1]; decide) ⟨rfl, rfl⟩)⟩⟩, wX12_drift_0 hK ⟨_, y2 V, bf one0 ⟨_, z2 V, nt one0 (nf hm.2.1 ⟨rfl, rfl⟩)⟩⟩, fr_rfl, hc, hm⟩
      · have hi := nI_v (a := nD) (N := 12) (by omega) (by omega)
        have e1 : nI nD < 12 := by rw [show (12 : Int32) = nI 12 from rfl, nI_l' (by omega) (by omega)]; omega
        have e2 : nI nD ≠ 12 := by rw [show (12 : Int32) = nI 12 from rfl, ne_eq, nI_e' (by omega) (by omega)]; omega
        refine ⟨nI (nD + 1), _, _, nD + 1, fun j => if j = nD then a else A j, fun j => if j = nD then b else B j, wX11_drift_0 hK ⟨_, y1, bf one0 ⟨_, z1, nt one0 (bt (by rw [hc.2.1]; exact e1) ⟨_, _, wX9_addDay_0 hK ⟨by rw [hc.2.1]; exact hi, by rw [hc.2.1]; exact hi, by rw [hc.2.1, nI_1], rfl⟩, rfl, rfl⟩)⟩⟩, wX12_drift_0 hK ⟨_, y2 _, bf one0 ⟨_, z2 _, nt one0 (nt ?_ ⟨?_, ?_, ?_, rfl⟩)⟩⟩, fr_up (fr_up (fr_up (fr_up (fr_up (fr_up fr_rfl ?_) ?_) ?_) ?_) ?_) ?_, ?_, ?_⟩
        all_goals (try (simp only [up2, hc.2.1, hm.2.1, nI_c (show nD < 100000 by omega), nI_1, true_and, and_true, if_true, if_false, true_or, or_true, Nat.reduceEqDiff, false_and, and_false]))
        · exact e2
        · exact hi
        · exact hi
        · refine ⟨by omega, by simp [up2], fun j hj => ?_⟩
          by_cases e : j = nD
          · subst e; simp [up2]; exact ⟨ha, hb⟩
          · have := hc.2.2 j (by omega)
            simpa [up2, e] using this
        · refine ⟨by omega, by simp [up2], fun j hj => ?_⟩
          by_cases e : j = nD
          · subst e; simp [up2]; exact ⟨ha, hb⟩
          · have := hm.2.2 j (by omega)
            simpa [up2, e] using this
    · exact ⟨-1, V, V, nD, A, B, wX11_drift_0 hK ⟨_, y1, bf one0 ⟨_, x_win (N := 999) hK (by decide) h2, nf rfl ⟨rfl, rfl⟩⟩⟩, wX12_drift_0 hK ⟨_, y2 V, bf one0 ⟨_, m_win (N := 999) hK (by decide) (by decide) h2, nf rfl ⟨rfl, rfl⟩⟩⟩, fr_rfl, hc, hm⟩
  · exact ⟨-1, V, V, nD, A, B, wX11_drift_0 hK ⟨_, x_win (N := 999) hK (by decide) h1, bt rfl ⟨rfl, rfl⟩⟩, wX12_drift_0 hK ⟨_, m_win (N := 999) hK (by decide) (by decide) h1, bt rfl ⟨rfl, rfl⟩⟩, fr_rfl, hc, hm⟩
end
