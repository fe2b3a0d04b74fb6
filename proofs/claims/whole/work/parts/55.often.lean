/-! ===== looks; often ===== -/
/-- the asks lie at aa; how often each is put: of both -/
def AkO (nA : Nat) (aa : Nat → Nat) (of : Nat → Nat) (K : SK) (O : SO) (V : SV) : Prop := (nA ≤ 10 ∧ V 0 5 = nI nA ∧ V 57 14 = nI nA) ∧ (∀ i j, i < j → j < nA → aa i + 4 ≤ aa j) ∧ ∀ i, i < nA → (96 ≤ aa i ∧ O 32 i = some (aa i) ∧ IsAk K (aa i)) ∧ V (aa i) 0 = nI (of i) ∧ V 69 i = nI (of i) ∧ of i ≤ 99
section
variable {G : Gp} {d : Nat} {K : SK} {n : Nat × Nat} {V : SV} {J : SJV} {O : SO} {r : Option Value}
variable {nA : Nat} {aa ofn : Nat → Nat}
theorem p_looks (hK : StK K) (h : V 0 8 = V 57 33) : ∃ r : Int32, Ev G (d + 1) mX11_looks 0 [(0, .ref 0)] (K, n, V, J, O) (some (.int r)) (K, n, V, J, O) ∧ Ev G (d + 1) mX12_looks 0 [(0, .ref 57)] (K, n, V, J, O) (some (.int r)) (K, n, V, J, O) := ⟨V 57 33, wX11_looks_0 hK (by rw [h]), wX12_looks_0 hK rfl⟩
theorem c11_askAt (hK : StK K) (hA : AkO nA aa ofn K O V) {i : Nat} (hi : i < nA) : Ev G (d + 1) mX11_askAt 0 [(0, .ref 0), (1, .int (nI i))] (K, n, V, J, O) (some (.ref (aa i))) (K, n, V, J, O) := by
  obtain ⟨⟨s1, s2, s3⟩, s4, s5⟩ := hA
  obtain ⟨⟨h96, hO, hIs⟩, -⟩ := s5 i hi
  refine wX11_askAt_0 hK ⟨1, ev_b (c11_isWithin hK) (by rw [s2, ix_iff (by omega)]; exact ⟨i, hi, rfl⟩), bf one0 ⟨nI_v (by omega) (by omega), aa i, ?_, hIs, rfl⟩⟩
  rw [nI_c (by omega)]
  exact hO
theorem c11_askNo (hK : StK K) (hA : AkO nA aa ofn K O V) {x1 : Int32} (h : ¬ ∃ i, i < nA ∧ x1 = nI i) : Ev G (d + 1) mX11_askAt 0 [(0, .ref 0), (1, .int x1)] (K, n, V, J, O) (some .null) (K, n, V, J, O) := by
  obtain ⟨⟨s1, s2, s3⟩, -⟩ := hA
  exact wX11_askAt_0 hK ⟨0, ev_n (c11_isWithin hK) (by rw [s2, ix_iff (by omega)]; exact h), bt rfl rfl⟩
theorem c12_isAsk (hK : StK K) (hA : AkO nA aa ofn K O V) {i : Nat} (hi : i < nA) : Ev G d mX12_isAsk 0 [(0, .ref 57), (1, .int (nI i))] (K, n, V, J, O) (some (.int 1)) (K, n, V, J, O) := by
  obtain ⟨⟨s1, s2, s3⟩, -⟩ := hA
  exact wX12_isAsk_0 hK (bf (nI_pos (by omega)) (bf (by rw [s3, nI_le' (by omega) (by omega)]; omega) rfl))
theorem c12_isAskNo (hK : StK K) (hA : AkO nA aa ofn K O V) {x1 : Int32} (h : ¬ ∃ i, i < nA ∧ x1 = nI i) : Ev G d mX12_isAsk 0 [(0, .ref 57), (1, .int x1)] (K, n, V, J, O) (some (.int 0)) (K, n, V, J, O) := by
  obtain ⟨⟨s1, s2, s3⟩, -⟩ := hA
  refine wX12_isAsk_0 hK ?_
  by_cases q : x1 < 0
  · exact bt q rfl
  · refine bf q (bt ?_ rfl)
    rw [s3]
    apply Int32.not_lt.mp
    intro q2
    exact h ((lt_iff (by omega)).mp ⟨Int32.not_lt.mp q, q2⟩)
theorem AkO_fr {V' : SV} (hA : AkO nA aa ofn K O V) (hf : fr (fun a k => (96 ≤ a ∧ ¬ (k = 0 ∧ ∃ i, i < nA ∧ a = aa i)) ∨ (a < 96 ∧ a ≠ 0 ∧ a ≠ 57 ∧ a ≠ 69) ∨ (a = 0 ∧ k ≠ 5) ∨ (a = 57 ∧ k ≠ 14)) V V') : AkO nA aa ofn K O V' := by
  obtain ⟨⟨s1, s2, s3⟩, s4, s5⟩ := hA
  refine ⟨⟨s1, by rw [hf 0 5 (by omega)]; exact s2, by rw [hf 57 14 (by omega)]; exact s3⟩, s4, fun i hi => ?_⟩
  obtain ⟨⟨h96, hO, hIs⟩, e1, e2, e3⟩ := s5 i hi
  refine ⟨⟨h96, hO, hIs⟩, ?_, by rw [hf 69 i (by omega)]; exact e2, e3⟩
  rw [hf (aa i) 0 (fun q => ?_)]
  · exact e1
  · rcases q with q | q | q | q
    · exact q.2 ⟨rfl, i, hi, rfl⟩
    · omega
    · omega
    · omega
theorem p_often (hK : StK K) (hA : AkO nA aa ofn K O V) {x1 x2 : Int32} : ∃ (r : Int32) (V1 V2 : SV) (ofn' : Nat → Nat), Ev G (d + 2) mX11_often 0 [(0, .ref 0), (1, .int x1), (2, .int x2)] (K, n, V, J, O) (some (.int r)) (K, n, V1, J, O) ∧ Ev G (d + 2) mX12_often 0 [(0, .ref 57), (1, .int x1), (2, .int x2)] (K, n, V1, J, O) (some (.int r)) (K, n, V2, J, O) ∧ fr (fun a k => (k = 0 ∧ ∃ i, i < nA ∧ a = aa i) ∨ a = 69) V V2 ∧ AkO nA aa ofn' K O V2 := by
  by_cases h1 : ∃ i, i < nA ∧ x1 = nI i
  · obtain ⟨i, hi, rfl⟩ := h1
    have a1 := c11_askAt (G := G) (d := d) (n := n) (J := J) hK hA hi
    by_cases h2 : ∃ c, c ≤ 99 ∧ x2 = nI c
    · obtain ⟨c, hc, rfl⟩ := h2
      obtain ⟨⟨s1, s2, s3⟩, s4, s5⟩ := hA
      obtain ⟨⟨h96, hO, hIs⟩, e1, e2, e3⟩ := s5 i hi
      have w1 : Ev G (d + 1) mX11_isWithin 0 [(0, .int (nI c)), (1, .int 0), (2, .int 99)] (K, n, V, J, O) (some (.int 1)) (K, n, V, J, O) := x_wi (N := 99) hK (by decide) hc
      have w2 : ∀ {V : SV}, Ev G (d + 1) mX12_isValue 0 [(0, .int (nI c))] (K, n, V, J, O) (some (.int 1)) (K, n, V, J, O) := ev_b (c12_isValue hK) ((btw_iff (N := 99) (by decide)).mpr ⟨c, hc, rfl⟩)
      have w3 : Ev G (d + 1) mX12_isAsk 0 [(0, .ref 57), (1, .int (nI i))] (K, n, up2 V (aa i) 0 (nI c), J, O) (some (.int 1)) (K, n, up2 V (aa i) 0 (nI c), J, O) := wX12_isAsk_0 hK (bf (nI_pos (by omega)) (bf (by rw [up2_a (by omega), s3, nI_le' (by omega) (by omega)]; omega) rfl))
      have hv : vp_in (nI i) 10 := nI_v (by omega) (by omega)
      refine ⟨nI (ofn i), up2 V (aa i) 0 (nI c), up2 (up2 V (aa i) 0 (nI c)) 69 i (nI c), fun j => if j = i then c else ofn j, wX11_often_0 hK ⟨_, a1, Or.inr ⟨aa i, rfl, hIs, _, w1, nt one0 ⟨by rw [e1], rfl⟩⟩⟩, wX12_often_0 hK ⟨_, w3, bf one0 ⟨_, w2, nt one0 ⟨hv, hv, ?_, ?_⟩⟩⟩, fr_up (fr_up fr_rfl (Or.inl ⟨rfl, i, hi, rfl⟩)) (Or.inr rfl), ⟨⟨s1, ?_, ?_⟩, s4, fun j hj => ?_⟩⟩
      · rw [nI_c (by omega), up2_a (by omega), e2]
      · rw [nI_c (by omega)]
      · rw [up2_a (by omega), up2_a (by omega)]
        exact s2
      · rw [up2_a (by omega), up2_a (by omega)]
        exact s3
      · obtain ⟨⟨h96', hO', hIs'⟩, f1, f2, f3⟩ := s5 j hj
        refine ⟨⟨h96', hO', hIs'⟩, ?_⟩
        by_cases e : j = i
        · simp only [if_pos e]
          rw [e, up2_a (by omega), up2_s, up2_s]
          exact ⟨rfl, rfl, hc⟩
        · simp only [if_neg e]
          have hne : aa j ≠ aa i := by
            rcases Nat.lt_trichotomy i j with q | q | q
            · have := s4 i j q hj
              omega
            · exact absurd q.symm e
            · have := s4 j i q hi
              omega
          rw [up2_a (by omega), up2_a hne, up2_k e, up2_a (by omega)]
          exact ⟨f1, f2, f3⟩
    · refine ⟨-1, V, V, ofn, wX11_often_0 hK ⟨_, a1, Or.inr ⟨aa i, rfl, (hA.2.2 i hi).1.2.2, _, x_win (N := 99) hK (by decide) h2, nf rfl ⟨rfl, rfl⟩⟩⟩, wX12_often_0 hK ⟨_, c12_isAsk hK hA hi, bf one0 ⟨_, ev_n (c12_isValue hK) (fun q => h2 ((btw_iff (N := 99) (by decide)).mp q)), nf rfl ⟨rfl, rfl⟩⟩⟩, fr_rfl, hA⟩
  · exact ⟨-1, V, V, ofn, wX11_often_0 hK ⟨_, c11_askNo hK hA h1, Or.inl ⟨rfl, rfl, rfl⟩⟩, wX12_often_0 hK ⟨_, c12_isAskNo hK hA h1, bt rfl ⟨rfl, rfl⟩⟩, fr_rfl, hA⟩
end
