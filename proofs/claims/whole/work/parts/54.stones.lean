/-! ===== ofStone ===== -/
theorem sh_amt : ∀ i, i < 32 → (((nI i).toUInt32 &&& Int32.toUInt32 31).toBitVec % 32).toNat = i := by decide
theorem ush_i {a i : Nat} (ha : a < 4294967296) (hi : i < 32) : ((nI a).toUInt32 >>> ((nI i).toUInt32 &&& Int32.toUInt32 31)).toInt32 = nI (a / 2 ^ i) := by
  apply Int32.toBitVec_inj.mp
  show ((nI a).toUInt32 >>> ((nI i).toUInt32 &&& Int32.toUInt32 31)).toBitVec = BitVec.ofNat 32 (a / 2 ^ i)
  rw [UInt32.toBitVec_shiftRight, BitVec.ushiftRight_eq', sh_amt i hi]
  exact bv_ush ha
theorem so_0 {x : Int32} {A0 A1 A2 A3 A4 A5 : Prop} (e : x = 0) (h : A0) : (x = 0 → A0) ∧ (x = 1 → A1) ∧ (x = 2 → A2) ∧ (x = 3 → A3) ∧ (x = 4 → A4) ∧ ((¬ x = 0 ∧ ¬ x = 1 ∧ ¬ x = 2 ∧ ¬ x = 3 ∧ ¬ x = 4) → A5) := by
  subst e
  exact ⟨fun _ => h, fun e => absurd e (by decide), fun e => absurd e (by decide), fun e => absurd e (by decide), fun e => absurd e (by decide), fun e => absurd rfl (e.1)⟩
theorem so_1 {x : Int32} {A0 A1 A2 A3 A4 A5 : Prop} (e : x = 1) (h : A1) : (x = 0 → A0) ∧ (x = 1 → A1) ∧ (x = 2 → A2) ∧ (x = 3 → A3) ∧ (x = 4 → A4) ∧ ((¬ x = 0 ∧ ¬ x = 1 ∧ ¬ x = 2 ∧ ¬ x = 3 ∧ ¬ x = 4) → A5) := by
  subst e
  exact ⟨fun e => absurd e (by decide), fun _ => h, fun e => absurd e (by decide), fun e => absurd e (by decide), fun e => absurd e (by decide), fun e => absurd rfl (e.2.1)⟩
theorem so_2 {x : Int32} {A0 A1 A2 A3 A4 A5 : Prop} (e : x = 2) (h : A2) : (x = 0 → A0) ∧ (x = 1 → A1) ∧ (x = 2 → A2) ∧ (x = 3 → A3) ∧ (x = 4 → A4) ∧ ((¬ x = 0 ∧ ¬ x = 1 ∧ ¬ x = 2 ∧ ¬ x = 3 ∧ ¬ x = 4) → A5) := by
  subst e
  exact ⟨fun e => absurd e (by decide), fun e => absurd e (by decide), fun _ => h, fun e => absurd e (by decide), fun e => absurd e (by decide), fun e => absurd rfl (e.2.2.1)⟩
theorem so_3 {x : Int32} {A0 A1 A2 A3 A4 A5 : Prop} (e : x = 3) (h : A3) : (x = 0 → A0) ∧ (x = 1 → A1) ∧ (x = 2 → A2) ∧ (x = 3 → A3) ∧ (x = 4 → A4) ∧ ((¬ x = 0 ∧ ¬ x = 1 ∧ ¬ x = 2 ∧ ¬ x = 3 ∧ ¬ x = 4) → A5) := by
  subst e
  exact ⟨fun e => absurd e (by decide), fun e => absurd e (by decide), fun e => absurd e (by decide), fun _ => h, fun e => absurd e (by decide), fun e => absurd rfl (e.2.2.2.1)⟩
theorem so_4 {x : Int32} {A0 A1 A2 A3 A4 A5 : Prop} (e : x = 4) (h : A4) : (x = 0 → A0) ∧ (x = 1 → A1) ∧ (x = 2 → A2) ∧ (x = 3 → A3) ∧ (x = 4 → A4) ∧ ((¬ x = 0 ∧ ¬ x = 1 ∧ ¬ x = 2 ∧ ¬ x = 3 ∧ ¬ x = 4) → A5) := by
  subst e
  exact ⟨fun e => absurd e (by decide), fun e => absurd e (by decide), fun e => absurd e (by decide), fun e => absurd e (by decide), fun _ => h, fun e => absurd rfl (e.2.2.2.2)⟩
theorem so_n {x : Int32} {A0 A1 A2 A3 A4 A5 : Prop} (h0 : ¬ x = 0) (h1 : ¬ x = 1) (h2 : ¬ x = 2) (h3 : ¬ x = 3) (h4 : ¬ x = 4) (h : A5) : (x = 0 → A0) ∧ (x = 1 → A1) ∧ (x = 2 → A2) ∧ (x = 3 → A3) ∧ (x = 4 → A4) ∧ ((¬ x = 0 ∧ ¬ x = 1 ∧ ¬ x = 2 ∧ ¬ x = 3 ∧ ¬ x = 4) → A5) := ⟨fun e => absurd e h0, fun e => absurd e h1, fun e => absurd e h2, fun e => absurd e h3, fun e => absurd e h4, fun _ => h⟩
section
variable {G : Gp} {d : Nat} {K : SK} {n : Nat × Nat} {V : SV} {J : SJV} {O : SO} {r : Option Value}
variable {nS nT kd b ky s : Nat} {ad kds kys : Nat → Nat} {fl : Nat → Nat → Nat} {ke : Nat → Nat} {ins : Nat → Bool} {x : Nat → SX} {g : GS}
theorem c12_countOf4 (hK : StK K) {a : Nat} (ha : a < 4294967296) : ∀ (k i : Nat), i + k = 32 → Ev G d mX12_countOf 4 [(0, .int (nI a)), (1, .int (nI (bsum a i))), (2, .int (nI i))] (K, n, V, J, O) (some (.int (nI (pcN a)))) (K, n, V, J, O) := by
  intro k
  induction k with
  | zero =>
    intro i e
    obtain rfl : i = 32 := by omega
    refine wX12_countOf_4 hK (bt (by decide) ?_)
    rw [bsum_pc ha]
  | succ k ih =>
    intro i e
    refine wX12_countOf_4 hK (bf ?_ ?_)
    · show ¬ nI 32 ≤ nI i
      rw [nI_le' (by omega) (by omega)]
      omega
    · have hlt : a / 2 ^ i < 4294967296 := Nat.lt_of_le_of_lt (Nat.div_le_self _ _) ha
      rw [ush_i ha (by omega), show (1 : Int32) = nI 1 from rfl, nI_and hlt (by decide), Nat.and_one_is_mod, nI_add, nI_add]
      exact ih (i + 1) (by omega)
theorem c12_countOf (hK : StK K) {a : Nat} (ha : a < 4294967296) : Ev G d mX12_countOf 0 [(0, .int (nI a))] (K, n, V, J, O) (some (.int (nI (pcN a)))) (K, n, V, J, O) := wX12_countOf_0 hK (c12_countOf4 hK ha 32 0 (by omega))
/-- how many a stone says it holds -/
def hmy (kd : Nat) (g : GS) : Nat := if kd = 0 then 0 else if kd = 6 then pcN g.2.2.2.2.toBitVec.toNat else g.1.length
theorem c_kind (hK : StK K) (hkd : kd ≤ 7) (ha : IsSt K b (kc kd) ky) : ∃ M, vt11_202 (kc kd) = some M ∧ Ev G d M 0 [(0, .ref b)] (K, n, V, J, O) (some (.int (nI kd))) (K, n, V, J, O) := by
  rcases kd_cases hkd with rfl | rfl | rfl | rfl | rfl | rfl | rfl | rfl
  · exact ⟨_, rfl, wX5_kind_0 hK ha (by decide) rfl⟩
  · exact ⟨_, rfl, wX3_kind_0 hK ha (by decide) rfl⟩
  · exact ⟨_, rfl, wX4_kind_0 hK ha (by decide) rfl⟩
  · exact ⟨_, rfl, wX2_kind_0 hK ha rfl⟩
  · exact ⟨_, rfl, wX7_kind_0 hK ha (by decide) rfl⟩
  · exact ⟨_, rfl, wX10_kind_0 hK ha rfl⟩
  · exact ⟨_, rfl, wX1_kind_0 hK ha rfl⟩
  · exact ⟨_, rfl, wX6_kind_0 hK ha rfl⟩
theorem c_howMany (hK : StK K) (hkd : kd ≤ 7) (ha : IsSt K b (kc kd) ky) (hR : CR kd b ke g V) : ∃ M, vt11_208 (kc kd) = some M ∧ Ev G (d + 1) M 0 [(0, .ref b)] (K, n, V, J, O) (some (.int (nI (hmy kd g)))) (K, n, V, J, O) := by
  rcases kd_cases hkd with rfl | rfl | rfl | rfl | rfl | rfl | rfl | rfl
  · exact ⟨_, rfl, wX5_howMany_0 hK ha (by decide) rfl⟩
  · exact ⟨_, rfl, wX3_howMany_0 hK ha (by decide) (by rw [hR.2.1]; rfl)⟩
  · exact ⟨_, rfl, wX3_howMany_0 hK ha (by decide) (by rw [hR.2.1]; rfl)⟩
  · exact ⟨_, rfl, wX3_howMany_0 hK ha (by decide) (by rw [hR.2.1]; rfl)⟩
  · exact ⟨_, rfl, wX7_howMany_0 hK ha (by decide) (by rw [hR.2.1, CL_len]; rfl)⟩
  · exact ⟨_, rfl, wX10_howMany_0 hK ha (by rw [hR.2.1]; rfl)⟩
  · refine ⟨_, rfl, wX1_howMany_0 hK ha ⟨_, ?_, rfl⟩⟩
    rw [show V b 11 = nI g.2.2.2.2.toBitVec.toNat from (show V b 11 = g.2.2.2.2 from hR).trans nI_ext]
    exact j_bitCount hK g.2.2.2.2.toBitVec.isLt
  · exact ⟨_, rfl, wX3_howMany_0 hK ha (by decide) (by rw [hR.1.2.1]; rfl)⟩
theorem m_many (hkd : kd ≤ 7) (h6 : kd ≠ 6) (hR : MR kd s g V) : V 73 s = nI (hmy kd g) := by
  rcases kd_cases hkd with rfl | rfl | rfl | rfl | rfl | rfl | rfl | rfl
  · exact hR
  · exact hR.2.1
  · exact hR.2.1
  · exact hR.2.1
  · exact hR.2.1
  · exact hR.2.1
  · exact absurd rfl h6
  · exact hR.2.1
theorem c11_stoneAt (hK : StK K) (hS : StR nS nT ad kds kys fl ins K O x V) {i : Nat} (hi : i < nS) : Ev G (d + 1) mX11_stoneAt 0 [(0, .ref 0), (1, .int (nI i))] (K, n, V, J, O) (some (.ref (ad i))) (K, n, V, J, O) := by
  obtain ⟨⟨s1, s2, s3, s4⟩, s5, s6, s7⟩ := hS
  obtain ⟨⟨⟨h96, hkd, hky⟩, hO, hIs⟩, -⟩ := s5 i hi
  refine wX11_stoneAt_0 hK ⟨1, ev_b (c11_isWithin hK) (by rw [s3, ix_iff (by omega)]; exact ⟨i, hi, rfl⟩), bf one0 ⟨nI_v (by omega) (by omega), ad i, kc (kds i), kys i, ?_, hIs, kc_in hkd, rfl⟩⟩
  rw [nI_c (by omega)]
  exact hO
theorem c11_stoneNo (hK : StK K) (hS : StR nS nT ad kds kys fl ins K O x V) {x1 : Int32} (h : ¬ ∃ i, i < nS ∧ x1 = nI i) : Ev G (d + 1) mX11_stoneAt 0 [(0, .ref 0), (1, .int x1)] (K, n, V, J, O) (some .null) (K, n, V, J, O) := by
  obtain ⟨⟨s1, s2, s3, s4⟩, -⟩ := hS
  exact wX11_stoneAt_0 hK ⟨0, ev_n (c11_isWithin hK) (by rw [s3, ix_iff (by omega)]; exact h), bt rfl rfl⟩
theorem c12_isStone (hK : StK K) (hS : StR nS nT ad kds kys fl ins K O x V) {i : Nat} (hi : i < nS) : Ev G d mX12_isStone 0 [(0, .ref 57), (1, .int (nI i))] (K, n, V, J, O) (some (.int 1)) (K, n, V, J, O) := by
  obtain ⟨⟨s1, s2, s3, s4⟩, -⟩ := hS
  exact wX12_isStone_0 hK (bf (nI_pos (by omega)) (bf (by rw [s4, nI_le' (by omega) (by omega)]; omega) rfl))
theorem c12_isStoneNo (hK : StK K) (hS : StR nS nT ad kds kys fl ins K O x V) {x1 : Int32} (h : ¬ ∃ i, i < nS ∧ x1 = nI i) : Ev G d mX12_isStone 0 [(0, .ref 57), (1, .int x1)] (K, n, V, J, O) (some (.int 0)) (K, n, V, J, O) := by
  obtain ⟨⟨s1, s2, s3, s4⟩, -⟩ := hS
  refine wX12_isStone_0 hK ?_
  by_cases q : x1 < 0
  · exact bt q rfl
  · refine bf q (bt ?_ rfl)
    rw [s4]
    apply Int32.not_lt.mp
    intro q2
    exact h ((lt_iff (by omega)).mp ⟨Int32.not_lt.mp q, q2⟩)
theorem p_ofStone (hK : StK K) (hS : StR nS nT ad kds kys fl ins K O x V) {x1 x2 : Int32} : ∃ r : Int32, Ev G (d + 2) mX11_ofStone 0 [(0, .ref 0), (1, .int x1), (2, .int x2)] (K, n, V, J, O) (some (.int r)) (K, n, V, J, O) ∧ Ev G (d + 2) mX12_ofStone 0 [(0, .ref 57), (1, .int x1), (2, .int x2)] (K, n, V, J, O) (some (.int r)) (K, n, V, J, O) := by
  by_cases h1 : ∃ i, i < nS ∧ x1 = nI i
  · obtain ⟨i, hi, rfl⟩ := h1
    have a1 := c11_stoneAt (G := G) (d := d) (n := n) (J := J) hK hS hi
    have a2 := c12_isStone (G := G) (d := d + 1) (n := n) (J := J) hK hS hi
    obtain ⟨⟨s1, s2, s3, s4⟩, s5, s6, s7⟩ := hS
    obtain ⟨⟨⟨h96, hkd, hky⟩, hO, hIs⟩, ⟨n1, n2⟩, hCR, l1, l2⟩ := s5 i hi
    obtain ⟨-, ⟨m1, m2⟩, hMR, k1, k2⟩ := s6 i hi
    have hv : vp_in (nI i) 10 := nI_v (by omega) (by omega)
    have hii : (nI i).toNatClampNeg = i := nI_c (by omega)
    have cl := fun (r : Option Value) h => wX11_ofStone_0 (G := G) (d := d + 1) (n := n) (V := V) (J := J) (O := O) (x1 := nI i) (x2 := x2) (r := r) hK ⟨_, a1, Or.inr ⟨ad i, kc (kds i), kys i, rfl, hIs, kc_in hkd, h⟩⟩
    have ml := fun (r : Option Value) h => wX12_ofStone_0 (G := G) (d := d + 1) (n := n) (V := V) (J := J) (O := O) (x1 := nI i) (x2 := x2) (r := r) hK ⟨_, a2, nt one0 h⟩
    rw [hii] at ml
    by_cases q0 : x2 = 0
    · obtain ⟨M, e1, e2⟩ := c_kind (G := G) (d := d + 1) (n := n) (V := V) (J := J) (O := O) hK hkd hIs
      exact ⟨nI (kds i), cl _ (so_0 q0 ⟨M, e1, _, e2, rfl⟩), ml _ (so_0 q0 ⟨hv, by rw [m1]⟩)⟩
    by_cases q1 : x2 = 1
    · exact ⟨nI (kys i), cl _ (so_1 q1 (by rw [n2])), ml _ (so_1 q1 ⟨hv, by rw [m2]⟩)⟩
    by_cases q2 : x2 = 2
    · obtain ⟨M, e1, e2⟩ := c_howMany (G := G) (d := d) (n := n) (J := J) (O := O) hK hkd hIs hCR
      refine ⟨nI (hmy (kds i) (x i).1), cl _ (so_2 q2 ⟨M, e1, _, e2, rfl⟩), ml _ (so_2 q2 ⟨hv, ?_⟩)⟩
      rw [m1]
      by_cases q6 : kds i = 6
      · rw [q6]
        refine nf rfl ⟨hv, _, ?_, rfl⟩
        rw [q6] at hMR
        rw [show V 77 i = nI (x i).1.2.2.2.2.toBitVec.toNat from (show V 77 i = (x i).1.2.2.2.2 from hMR).trans nI_ext]
        exact c12_countOf hK (x i).1.2.2.2.2.toBitVec.isLt
      · exact nt (by show ¬ nI (kds i) = nI 6; rw [nI_e' (by omega) (by omega)]; exact q6) ⟨hv, by rw [m_many hkd q6 hMR]⟩
    by_cases q3 : x2 = 3
    · exact ⟨(x i).2.1, cl _ (so_3 q3 (by rw [l1])), ml _ (so_3 q3 ⟨hv, by rw [k1]⟩)⟩
    by_cases q4 : x2 = 4
    · exact ⟨(x i).2.2, cl _ (so_4 q4 (by rw [l2])), ml _ (so_4 q4 ⟨hv, by rw [k2]⟩)⟩
    exact ⟨-1, cl _ (so_n q0 q1 q2 q3 q4 rfl), ml _ (so_n q0 q1 q2 q3 q4 rfl)⟩
  · exact ⟨-1, wX11_ofStone_0 hK ⟨_, c11_stoneNo hK hS h1, Or.inl ⟨rfl, rfl⟩⟩, wX12_ofStone_0 hK ⟨_, c12_isStoneNo hK hS h1, nf rfl rfl⟩⟩
end
