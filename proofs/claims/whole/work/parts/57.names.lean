/-! ===== nameAt: the rows ===== -/
section
variable {G : Gp} {d : Nat} {K : SK} {n : Nat × Nat} {V : SV} {J : SJV} {O : SO} {r : Option Value}
variable {nS nT kd b ky s m : Nat} {ad kds kys : Nat → Nat} {fl : Nat → Nat → Nat} {ke nm : Nat → Nat} {ins : Nat → Bool} {x : Nat → SX} {g : GS} {ci : Nat}
theorem c3_nameIn (hK : StK K) (ha : IsSt K b ci ky) (hc : ci ∈ [2, 3, 4, 6]) (hR : RowC b m nm V) {j : Nat} (hj : j < m) : Ev G (d + 1) mX3_nameIn 0 [(0, .ref b), (1, .int (nI j))] (K, n, V, J, O) (some (.int (nI (nm j)))) (K, n, V, J, O) := by
  have h80 := hR.1
  refine wX3_nameIn_0 hK ha hc ⟨1, ev_b (c11_isWithin hK) (by rw [hR.2.1, ix_iff (by omega)]; exact ⟨j, hj, rfl⟩), bf one0 ⟨nI_v (by omega) (by omega), ?_⟩⟩
  rw [nI_c (by omega), (hR.2.2 j hj).1]
theorem c3_nameNo (hK : StK K) (ha : IsSt K b ci ky) (hc : ci ∈ [2, 3, 4, 6]) (hR : RowC b m nm V) {x2 : Int32} (h : ¬ ∃ j, j < m ∧ x2 = nI j) : Ev G (d + 1) mX3_nameIn 0 [(0, .ref b), (1, .int x2)] (K, n, V, J, O) (some (.int (-1))) (K, n, V, J, O) := by
  have h80 := hR.1
  exact wX3_nameIn_0 hK ha hc ⟨0, ev_n (c11_isWithin hK) (by rw [hR.2.1, ix_iff (by omega)]; exact h), bt rfl rfl⟩
theorem m_nameIn (hK : StK K) (hS : StR nS nT ad kds kys fl ins K O x V) {i j : Nat} (hi : i < nS) (h70 : V 70 i = nI kd) (hkd : kd = 1 ∨ kd = 2 ∨ kd = 3 ∨ kd = 7) (hR : RowM i m nm V) (hj : j < m) : Ev G (d + 1) mX12_nameAt 0 [(0, .ref 57), (1, .int (nI i)), (2, .int (nI j))] (K, n, V, J, O) (some (.int (nI (nm j)))) (K, n, V, J, O) := by
  have h80 := hR.1
  have a2 := c12_isStone (G := G) (d := d) (n := n) (J := J) hK hS hi
  have s1 := hS.1.1
  have hv : vp_in (nI i) 10 := nI_v (by omega) (by omega)
  have ne : ∀ {c : Nat}, c < 10 → kd ≠ c → ¬ nI kd = nI c := fun hc h => by
    rw [nI_e' (by omega) (by omega)]
    exact h
  refine wX12_nameAt_0 hK ⟨_, a2, bf one0 ⟨hv, ?_⟩⟩
  rw [nI_c (show i < 100000 by omega), h70, hR.2.1, ix80, nI_c (show 80 * i + j < 100000 by omega), (hR.2.2 j hj).1]
  exact bf (ne (c := 0) (by decide) (by omega)) ⟨hv, bf (ne (c := 6) (by decide) (by omega)) (bf (nI_pos (by omega)) ⟨_, a2, bf one0 ⟨hv, bt ((nI_l' (by omega) (by omega)).mpr hj) ⟨hv, nt (ne (c := 5) (by decide) (by omega)) ⟨hv, bf (ne (c := 4) (by decide) (by omega)) ⟨nI_v (by omega) (by omega), rfl⟩⟩⟩⟩⟩)⟩
end
