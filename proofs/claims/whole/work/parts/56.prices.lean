/-! ===== putPrice ===== -/
def lvF : Nat → Nat → Nat → Nat
  | 0, _, i => i
  | k + 1, a, i => if a < 2 ^ i then i else lvF k a (i + 1)
/-- L: the least number with 2 to the L above a -/
def lvl (a : Nat) : Nat := lvF 10 a 0
theorem one_sh : ∀ i, i < 12 → (1 : Int32) <<< (nI i &&& 31) = nI (2 ^ i) := by decide
/-- what one put costs -/
def ppI (kd : Nat) (l : Int32) (x : Int32) : Int32 := match kd with
  | 0 => 0
  | 1 => 1
  | 2 => l + x / 2
  | 3 => l
  | 4 => 1
  | 5 => 2 * l
  | 6 => 2
  | _ => l + x / 2
section
variable {G : Gp} {d : Nat} {K : SK} {n : Nat × Nat} {V : SV} {J : SJV} {O : SO} {r : Option Value}
variable {nS nT kd b ky s a : Nat} {ad kds kys : Nat → Nat} {fl : Nat → Nat → Nat} {ke : Nat → Nat} {ins : Nat → Bool} {x : Nat → SX} {g : GS}
theorem c5_levels2 (hK : StK K) (ha : a ≤ 999) : ∀ (k i : Nat), i + k = 10 → Ev G d mX5_levels 2 [(0, .int (nI a)), (1, .int (nI i))] (K, n, V, J, O) (some (.int (nI (lvF k a i)))) (K, n, V, J, O) := by
  intro k
  induction k with
  | zero =>
    intro i e
    obtain rfl : i = 10 := by omega
    refine wX5_levels_2 hK (bf (by decide) (bt ?_ rfl))
    rw [one_sh 10 (by decide), nI_l' (by omega) (by decide)]
    omega
  | succ k ih =>
    intro i e
    have h2 : 2 ^ i < 100000 := Nat.lt_of_le_of_lt (Nat.pow_le_pow_right (by decide) (show i ≤ 10 by omega)) (by decide)
    refine wX5_levels_2 hK (bf (by show ¬ nI 30 ≤ nI i; rw [nI_le' (by omega) (by omega)]; omega) ?_)
    rw [one_sh i (by omega), nI_l' (by omega) h2]
    unfold lvF
    by_cases q : a < 2 ^ i
    · rw [if_pos q]
      exact bt q rfl
    · rw [if_neg q]
      refine bf q ?_
      rw [nI_1]
      exact ih (i + 1) (by omega)
theorem c5_levels (hK : StK K) (ha : a ≤ 999) : Ev G d mX5_levels 0 [(0, .int (nI a))] (K, n, V, J, O) (some (.int (nI (lvl a)))) (K, n, V, J, O) := wX5_levels_0 hK (c5_levels2 hK ha 10 0 (by omega))
theorem c12_levels2 (hK : StK K) (ha : a ≤ 999) : ∀ (k i : Nat), i + k = 10 → Ev G d mX12_levels 2 [(0, .int (nI a)), (1, .int (nI i))] (K, n, V, J, O) (some (.int (nI (lvF k a i)))) (K, n, V, J, O) := by
  intro k
  induction k with
  | zero =>
    intro i e
    obtain rfl : i = 10 := by omega
    refine wX12_levels_2 hK (bt ?_ rfl)
    rw [one_sh 10 (by decide), nI_l' (by omega) (by decide)]
    omega
  | succ k ih =>
    intro i e
    have h2 : 2 ^ i < 100000 := Nat.lt_of_le_of_lt (Nat.pow_le_pow_right (by decide) (show i ≤ 10 by omega)) (by decide)
    refine wX12_levels_2 hK ?_
    rw [one_sh i (by omega), nI_l' (by omega) h2]
    unfold lvF
    by_cases q : a < 2 ^ i
    · rw [if_pos q]
      exact bt q rfl
    · rw [if_neg q]
      refine bf q ?_
      rw [nI_1]
      exact ih (i + 1) (by omega)
theorem c12_levels (hK : StK K) (ha : a ≤ 999) : Ev G d mX12_levels 0 [(0, .int (nI a))] (K, n, V, J, O) (some (.int (nI (lvl a)))) (K, n, V, J, O) := wX12_levels_0 hK (c12_levels2 hK ha 10 0 (by omega))
theorem c_priceOfPut (hK : StK K) (hkd : kd ≤ 7) (ha : IsSt K b (kc kd) ky) (h9 : a ≤ 999) : ∃ M, vt11_241 (kc kd) = some M ∧ Ev G (d + 1) M 0 [(0, .ref b), (1, .int (nI a))] (K, n, V, J, O) (some (.int (ppI kd (nI (lvl a)) (nI a)))) (K, n, V, J, O) := by
  rcases kd_cases hkd with rfl | rfl | rfl | rfl | rfl | rfl | rfl | rfl
  · exact ⟨_, rfl, wX5_priceOfPut_0 hK ha (by decide) rfl⟩
  · exact ⟨_, rfl, wX3_priceOfPut_0 hK ha (by decide) rfl⟩
  · exact ⟨_, rfl, wX4_priceOfPut_0 hK ha (by decide) ⟨_, c5_levels hK h9, rfl⟩⟩
  · exact ⟨_, rfl, wX2_priceOfPut_0 hK ha ⟨_, c5_levels hK h9, rfl⟩⟩
  · exact ⟨_, rfl, wX7_priceOfPut_0 hK ha (by decide) rfl⟩
  · exact ⟨_, rfl, wX10_priceOfPut_0 hK ha ⟨_, c5_levels hK h9, rfl⟩⟩
  · exact ⟨_, rfl, wX1_priceOfPut_0 hK ha rfl⟩
  · exact ⟨_, rfl, wX4_priceOfPut_0 hK ha (by decide) ⟨_, c5_levels hK h9, rfl⟩⟩
theorem c12_putPriceOf (hK : StK K) (hkd : kd ≤ 7) (hs : s < 10) (h70 : V 70 s = nI kd) (h9 : a ≤ 999) : Ev G (d + 1) mX12_putPriceOf 0 [(0, .ref 57), (1, .int (nI s)), (2, .int (nI a))] (K, n, V, J, O) (some (.int (ppI kd (nI (lvl a)) (nI a)))) (K, n, V, J, O) := by
  refine wX12_putPriceOf_0 hK ⟨_, c12_levels hK h9, nI_v hs (by omega), ?_⟩
  rw [nI_c (by omega)]
  rcases kd_cases hkd with rfl | rfl | rfl | rfl | rfl | rfl | rfl | rfl
  · exact sw_0 h70 rfl
  · exact sw_1 h70 rfl
  · exact sw_2 h70 rfl
  · exact sw_3 h70 rfl
  · exact sw_4 h70 rfl
  · exact sw_5 h70 rfl
  · exact sw_6 h70 rfl
  · exact sw_7 h70 rfl
theorem p_putPrice (hK : StK K) (hS : StR nS nT ad kds kys fl ins K O x V) {x1 x2 : Int32} : ∃ r : Int32, Ev G (d + 2) mX11_putPrice 0 [(0, .ref 0), (1, .int x1), (2, .int x2)] (K, n, V, J, O) (some (.int r)) (K, n, V, J, O) ∧ Ev G (d + 2) mX12_putPrice 0 [(0, .ref 57), (1, .int x1), (2, .int x2)] (K, n, V, J, O) (some (.int r)) (K, n, V, J, O) := by
  by_cases h1 : ∃ i, i < nS ∧ x1 = nI i
  · obtain ⟨i, hi, rfl⟩ := h1
    have a1 := c11_stoneAt (G := G) (d := d) (n := n) (J := J) hK hS hi
    have a2 := c12_isStone (G := G) (d := d + 1) (n := n) (J := J) hK hS hi
    obtain ⟨⟨s1, s2, s3, s4⟩, s5, s6, s7⟩ := hS
    obtain ⟨⟨⟨h96, hkd, hky⟩, hO, hIs⟩, -⟩ := s5 i hi
    obtain ⟨-, ⟨m1, m2⟩, -⟩ := s6 i hi
    by_cases h2 : ∃ c, (1 ≤ c ∧ c ≤ 999) ∧ x2 = nI c
    · obtain ⟨c, hc, rfl⟩ := h2
      obtain ⟨M, e1, e2⟩ := c_priceOfPut (G := G) (d := d) (n := n) (V := V) (J := J) (O := O) hK hkd hIs hc.2
      exact ⟨_, wX11_putPrice_0 hK ⟨_, a1, Or.inr ⟨ad i, kc (kds i), kys i, rfl, hIs, kc_in hkd, _, ev_b (c11_isSize hK) ((btw1_iff (N := 999) (by decide)).mpr ⟨c, hc, rfl⟩), nt one0 ⟨M, e1, _, e2, rfl⟩⟩⟩, wX12_putPrice_0 hK ⟨_, a2, bf one0 ⟨_, ev_b (c12_isSize hK) ((btw1_iff (N := 999) (by decide)).mpr ⟨c, hc, rfl⟩), bf one0 ⟨_, c12_putPriceOf hK hkd (by omega) m1 hc.2, rfl⟩⟩⟩⟩
    · exact ⟨-1, wX11_putPrice_0 hK ⟨_, a1, Or.inr ⟨ad i, kc (kds i), kys i, rfl, hIs, kc_in hkd, _, ev_n (c11_isSize hK) (fun q => h2 ((btw1_iff (N := 999) (by decide)).mp q)), nf rfl rfl⟩⟩, wX12_putPrice_0 hK ⟨_, a2, bf one0 ⟨_, ev_n (c12_isSize hK) (fun q => h2 ((btw1_iff (N := 999) (by decide)).mp q)), bt rfl rfl⟩⟩⟩
  · exact ⟨-1, wX11_putPrice_0 hK ⟨_, c11_stoneNo hK hS h1, Or.inl ⟨rfl, rfl⟩⟩, wX12_putPrice_0 hK ⟨_, c12_isStoneNo hK hS h1, bt rfl rfl⟩⟩
end
