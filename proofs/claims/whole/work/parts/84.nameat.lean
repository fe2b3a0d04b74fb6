/-! ===== nameAt, of both ===== -/
section
variable {G : Gp} {d : Nat} {K : SK} {n : Nat × Nat} {V V' : SV} {J : SJV} {O : SO} {r : Option Value}
variable {nS nT nG b m s kyy i kk : Nat} {ad kd ky : Nat → Nat} {ke nm : Nat → Nat} {fl : Nat → Nat → Nat} {ins : Nat → Bool} {wt : Nat → Nat} {x : Nat → SX} {x2 : Int32}
theorem c7_nameIn (hK : StK K) (ha : IsSt K b 7 kyy) (hR : RowC b m nm V) {j : Nat} (hj : j < m) : Ev G (d + 1) mX7_nameIn 0 [(0, .ref b), (1, .int (nI j))] (K, n, V, J, O) (some (.int (nI (nm j)))) (K, n, V, J, O) := by
  have h80 := hR.1
  refine wX7_nameIn_0 hK ha (by decide) ⟨1, ev_b (c11_isWithin hK) (by rw [hR.2.1, ix_iff (by omega)]; exact ⟨j, hj, rfl⟩), bf one0 ⟨nI_v (N := 80) (by omega) (by omega), ?_⟩⟩
  rw [nI_c (by omega), (hR.2.2 j hj).1]
theorem c7_nameNo (hK : StK K) (ha : IsSt K b 7 kyy) (hR : RowC b m nm V) (h : ¬ ∃ j, j < m ∧ x2 = nI j) : Ev G (d + 1) mX7_nameIn 0 [(0, .ref b), (1, .int x2)] (K, n, V, J, O) (some (.int (-1))) (K, n, V, J, O) := by
  have h80 := hR.1
  exact wX7_nameIn_0 hK ha (by decide) ⟨0, ev_n (c11_isWithin hK) (by rw [hR.2.1, ix_iff (by omega)]; exact h), bt rfl rfl⟩
theorem m_nameNo (hK : StK K) (hS : StR nS nT ad kd ky fl ins K O x V) (hi : i < nS) (h70 : V 70 i = nI kk) (hk1 : kk ≠ 0) (hk2 : kk ≠ 6) (hk3 : kk < 10) (h73 : V 73 i = nI m) (hm : m ≤ 80) (h : ¬ ∃ j, j < m ∧ x2 = nI j) : Ev G (d + 1) mX12_nameAt 0 [(0, .ref 57), (1, .int (nI i)), (2, .int x2)] (K, n, V, J, O) (some (.int (-1))) (K, n, V, J, O) := by
  have a2 := c12_isStone (G := G) (d := d) (n := n) (J := J) hK hS hi
  have s1 := hS.1.1
  have hv : vp_in (nI i) 10 := nI_v (by omega) (by omega)
  refine wX12_nameAt_0 hK ⟨_, a2, bf one0 ⟨hv, ?_⟩⟩
  rw [nI_c (show i < 100000 by omega), h70, h73]
  refine bf (nI_nq (b := 0) (by omega) (by omega) hk1) ⟨hv, bf (nI_nq (b := 6) (by omega) (by omega) hk2) ?_⟩
  by_cases c : x2 < 0
  · exact bt c rfl
  · exact bf c ⟨_, a2, bf one0 ⟨hv, bf (fun z => h ((lt_iff (by omega)).mp ⟨Int32.not_lt.mp c, z⟩)) rfl⟩⟩
theorem m_nameGo (hK : StK K) (hS : StR nS nT ad kd ky fl ins K O x V) (hi : i < nS) (h70 : V 70 i = nI kk) (hk1 : kk ≠ 0) (hk2 : kk ≠ 6) (hk3 : kk < 10) (h73 : V 73 i = nI m) (hm : m ≤ 80) {j : Nat} (hj : j < m) (hv : if kk = 5 then Ev G (d + 1) mX12_nameAt 68 [(0, .ref 57), (1, .int (nI i)), (2, .int (nI j)), (3, .int (nI 0))] (K, n, V, J, O) r (K, n, V, J, O) else if kk = 4 then Ev G (d + 1) mX12_nameAt 122 [(0, .ref 57), (1, .int (nI i)), (2, .int (nI j)), (3, .int (nI j)), (4, .int (nI 0))] (K, n, V, J, O) r (K, n, V, J, O) else r = some (.int (V 72 (80 * i + j)))) : Ev G (d + 1) mX12_nameAt 0 [(0, .ref 57), (1, .int (nI i)), (2, .int (nI j))] (K, n, V, J, O) r (K, n, V, J, O) := by
  have a2 := c12_isStone (G := G) (d := d) (n := n) (J := J) hK hS hi
  have s1 := hS.1.1
  have hv10 : vp_in (nI i) 10 := nI_v (by omega) (by omega)
  refine wX12_nameAt_0 hK ⟨_, a2, bf one0 ⟨hv10, ?_⟩⟩
  rw [nI_c (show i < 100000 by omega), h70, h73, ix80, nI_c (show 80 * i + j < 100000 by omega)]
  refine bf (nI_nq (b := 0) (by omega) (by omega) hk1) ⟨hv10, bf (nI_nq (b := 6) (by omega) (by omega) hk2) (bf (nI_pos (by omega)) ⟨_, a2, bf one0 ⟨hv10, bt ((nI_l' (by omega) (by omega)).mpr hj) ⟨hv10, ?_⟩⟩⟩)⟩
  by_cases c5 : kk = 5
  · rw [if_pos c5] at hv
    exact nf (by rw [c5]; rfl) hv
  · rw [if_neg c5] at hv
    refine nt (nI_nq (b := 5) (by omega) (by omega) c5) ⟨hv10, ?_⟩
    by_cases c4 : kk = 4
    · rw [if_pos c4] at hv
      exact bt (by rw [c4]; rfl) hv
    · rw [if_neg c4] at hv
      exact bf (nI_nq (b := 4) (by omega) (by omega) c4) ⟨nI_v (by omega) (by omega), hv⟩
theorem nmP_of {L : List Nat} {j : Nat} (hj : j < L.length) : nmP L (nI j) (nI (nmL L j)) := Or.inl ⟨j, hj, rfl, rfl⟩
theorem nmP_no {L : List Nat} (h : ¬ ∃ j, j < L.length ∧ x2 = nI j) : nmP L x2 (-1) := Or.inr ⟨fun j hj e => h ⟨j, hj, e⟩, rfl⟩
theorem p_nameAt (hK : StK K) (hc : cT nT nG fl ins wt V) (hm : mT nT fl ins V) (hS : StR nS nT ad kd ky fl ins K O x V) {x1 x2 : Int32} : ∃ (r : Int32) (V1 : SV), Ev G (d + 4) mX11_nameAt 0 [(0, .ref 0), (1, .int x1), (2, .int x2)] (K, n, V, J, O) (some (.int r)) (K, n, V1, J, O) ∧ Ev G (d + 4) mX12_nameAt 0 [(0, .ref 57), (1, .int x1), (2, .int x2)] (K, n, V1, J, O) (some (.int r)) (K, n, V1, J, O) ∧ fr (frS nS ad kd) V V1 ∧ StR nS nT ad kd ky fl ins K O x V1 := by
  by_cases h1 : ∃ i, i < nS ∧ x1 = nI i
  · obtain ⟨i, hi, rfl⟩ := h1
    have a1 := c11_stoneAt (G := G) (d := d + 2) (n := n) (J := J) hK hS hi
    have a2 := c12_isStone (G := G) (d := d + 3) (n := n) (J := J) hK hS hi
    have hC := hS.2.1 i hi
    have hM := hS.2.2.1 i hi
    have hg := hS.2.2.2 i hi
    obtain ⟨⟨⟨h96, hkd, hky⟩, hO, hIs⟩, -, hCR, -⟩ := hC
    obtain ⟨-, ⟨h70, h71⟩, hMR, -⟩ := hM
    have h80 := hc.1.1
    have s1 := hS.1.1
    have hmk : mKe i (ky i) nT (fl (ky i)) V := ⟨by omega, hky, h80, h71, fun t ht => hm.2.2.1 (ky i) t hky ht⟩
    have same : ∀ (rr : Int32) (M : AM), vt11_217 (kc (kd i)) = some M → Ev G (d + 3) M 0 [(0, .ref (ad i)), (1, .int x2)] (K, n, V, J, O) (some (.int rr)) (K, n, V, J, O) → Ev G (d + 4) mX12_nameAt 0 [(0, .ref 57), (1, .int (nI i)), (2, .int x2)] (K, n, V, J, O) (some (.int rr)) (K, n, V, J, O) → ∃ (r : Int32) (V1 : SV), Ev G (d + 4) mX11_nameAt 0 [(0, .ref 0), (1, .int (nI i)), (2, .int x2)] (K, n, V, J, O) (some (.int r)) (K, n, V1, J, O) ∧ Ev G (d + 4) mX12_nameAt 0 [(0, .ref 57), (1, .int (nI i)), (2, .int x2)] (K, n, V1, J, O) (some (.int r)) (K, n, V1, J, O) ∧ fr (frS nS ad kd) V V1 ∧ StR nS nT ad kd ky fl ins K O x V1 := fun rr M e1 e2 e3 => ⟨rr, V, wX11_nameAt_0 hK ⟨_, a1, Or.inr ⟨ad i, kc (kd i), ky i, rfl, hIs, kc_in hkd, M, e1, rr, V, e2, rfl, rfl⟩⟩, e3, fr_rfl, hS⟩
    have hv : vp_in (nI i) 10 := nI_v (by omega) (by omega)
    have row : ∀ {L : List Nat}, RowC (ad i) L.length (nmL L) V → RowM i L.length (nmL L) V → (kd i = 1 ∨ kd i = 2 ∨ kd i = 3 ∨ kd i = 7) → kc (kd i) ∈ [2, 3, 4, 6] → vt11_217 (kc (kd i)) = some mX3_nameIn → ∃ (r : Int32) (V1 : SV), Ev G (d + 4) mX11_nameAt 0 [(0, .ref 0), (1, .int (nI i)), (2, .int x2)] (K, n, V, J, O) (some (.int r)) (K, n, V1, J, O) ∧ Ev G (d + 4) mX12_nameAt 0 [(0, .ref 57), (1, .int (nI i)), (2, .int x2)] (K, n, V1, J, O) (some (.int r)) (K, n, V1, J, O) ∧ fr (frS nS ad kd) V V1 ∧ StR nS nT ad kd ky fl ins K O x V1 := by
      intro L r1 r2 r3 r4 r5
      by_cases hj : ∃ j, j < L.length ∧ x2 = nI j
      · obtain ⟨j, hj, rfl⟩ := hj
        exact same _ _ r5 (c3_nameIn hK hIs r4 r1 hj) (m_nameIn hK hS hi h70 r3 r2 hj)
      · exact same _ _ r5 (c3_nameNo hK hIs r4 r1 hj) (m_nameNo hK hS hi h70 (by omega) (by omega) (by omega) r2.2.1 r2.1 hj)
    rcases kd_cases hkd with e | e | e | e | e | e | e | e
    · rw [e] at hIs
      refine same (-1) mX5_nameIn (by rw [e]; rfl) (wX5_nameIn_0 hK hIs (by decide) rfl) (wX12_nameAt_0 hK ⟨_, a2, bf one0 ⟨hv, bt ?_ rfl⟩⟩)
      rw [nI_c (by omega), h70, e]
      rfl
    · rw [e] at hCR hMR
      exact row hCR hMR (Or.inl e) (by rw [e]; decide) (by rw [e]; rfl)
    · rw [e] at hCR hMR
      exact row hCR hMR (Or.inr (Or.inl e)) (by rw [e]; decide) (by rw [e]; rfl)
    · rw [e] at hCR hMR
      exact row hCR hMR (Or.inr (Or.inr (Or.inl e))) (by rw [e]; decide) (by rw [e]; rfl)
    · rw [e] at hCR hMR hg
      have hIs' := hIs
      rw [e] at hIs'
      have hR : RowC (ad i) (CL (fl (ky i)) (x i).1.1).length (nmL (CL (fl (ky i)) (x i).1.1)) V := hCR
      have hRM : RowM i (x i).1.1.length (nmL (x i).1.1) V := hMR
      have hh : hld (inS nT ins) (x i).1.1 := hg
      have hl : (CL (fl (ky i)) (x i).1.1).length = (x i).1.1.length := CL_len
      by_cases hj : ∃ j, j < (CL (fl (ky i)) (x i).1.1).length ∧ x2 = nI j
      · obtain ⟨j, hj, rfl⟩ := hj
        refine same _ mX7_nameIn (by rw [e]; rfl) (c7_nameIn hK hIs' hR hj) (m_nameGo (kk := kd i) hK hS hi h70 (by omega) (by omega) (by omega) hRM.2.1 hRM.1 (by omega) ?_)
        rw [if_neg (by omega), if_pos e]
        have h8 := hRM.1
        exact m_name122 hK hmk hRM (fun u hu => ((hh.2 u).mp hu).1) (fun u hu => (hm.2.2.1 (ky i) u hky ((hh.2 u).mp hu).1).2) 8 0 j (by omega) (by omega) hj
      · exact same _ mX7_nameIn (by rw [e]; rfl) (c7_nameNo hK hIs' hR hj) (m_nameNo (kk := kd i) hK hS hi h70 (by omega) (by omega) (by omega) hRM.2.1 hRM.1 (by rw [hl] at hj; exact hj))
    · have hIs' := hIs
      rw [e] at hIs' hCR hMR hg
      have hT : TrC (ad i) (x i).1.1.length (x i).1.2.1 (x i).1.2.2.1 (x i).1.2.2.2.1 V := hCR
      have hTM : TrM i (x i).1.1.length (x i).1.2.1 (x i).1.2.2.1 (x i).1.2.2.2.1 V := hMR
      have hh : hld (inS nT ins) (x i).1.1 ∧ srt (fl (ky i)) (x i).1.1 ∧ TS (x i).1.2.1 (x i).1.2.2.1 80 (x i).1.2.2.2.1 (x i).1.1 := hg
      have go : ∀ (rr : Int32), nmP (x i).1.1 x2 rr → (∀ V1, StR nS nT ad kd ky fl ins K O x V1 → mT nT fl ins V1 → Ev G (d + 4) mX12_nameAt 0 [(0, .ref 57), (1, .int (nI i)), (2, .int x2)] (K, n, V1, J, O) (some (.int rr)) (K, n, V1, J, O)) → ∃ (r : Int32) (V1 : SV), Ev G (d + 4) mX11_nameAt 0 [(0, .ref 0), (1, .int (nI i)), (2, .int x2)] (K, n, V, J, O) (some (.int r)) (K, n, V1, J, O) ∧ Ev G (d + 4) mX12_nameAt 0 [(0, .ref 57), (1, .int (nI i)), (2, .int x2)] (K, n, V1, J, O) (some (.int r)) (K, n, V1, J, O) ∧ fr (frS nS ad kd) V V1 ∧ StR nS nT ad kd ky fl ins K O x V1 := by
        intro rr hr hme
        have e0 : (x i).1.1 ++ tfl [] = (x i).1.1 := by simp [tfl]
        obtain ⟨V1, z1, z2⟩ := c10_name13 (G := G) (d := d + 2) (n := n) (J := J) (O := O) (x1 := x2) (rr := rr) hK hIs' h96 (2 * (x i).1.1.length) [] (x i).1.2.2.2.1 (x i).1.1 x2 0 V (by omega) (by rw [e0]; rfl) (by rw [e0]; exact hT.1.1) hh.2.2 (fun p hp => absurd hp (by simp)) (by rw [e0]; exact fun u hu => by have := ((hh.1.2 u).mp hu).1; omega) (fun j hj => absurd hj (by simp)) hT (by rw [e0]; exact hr)
        have f9 : fr (fun a _ => 96 ≤ a) V V1 := fr_mo z2 (fun a k q => by omega)
        have hS1 : StR nS nT ad kd ky fl ins K O x V1 := by
          obtain ⟨⟨t1, t2, t3, t4⟩, t5, t6, t7⟩ := hS
          refine ⟨⟨t1, t2, by rw [f9 _ _ (by omega)]; exact t3, by rw [f9 _ _ (by omega)]; exact t4⟩, fun j hj => ?_, fun j hj => SMi_o (t6 j hj) (fr_mo f9 (fun a k q => by omega)), t7⟩
          by_cases ej : j = i
          · subst ej
            obtain ⟨u1, u2, u3, u4⟩ := t5 j hj
            refine ⟨u1, ⟨by rw [z2 _ _ (by omega)]; exact u2.1, by rw [z2 _ _ (by omega)]; exact u2.2⟩, ?_, by rw [z2 _ _ (by omega)]; exact u4.1, by rw [z2 _ _ (by omega)]; exact u4.2⟩
            rw [e]
            exact TrC_o hT (fr_mo z2 (fun a k q => by omega))
          · refine SCi_fr (t5 j hj) (fr_mo z2 (fun a k q => ?_))
            have := SD_ne t2 hj hi ej
            rw [show sz (kd i) = 5 from by rw [e]; rfl] at this
            omega
        refine ⟨rr, V1, wX11_nameAt_0 hK ⟨_, a1, Or.inr ⟨ad i, kc (kd i), ky i, rfl, hIs, kc_in hkd, mX10_nameIn, by rw [e]; rfl, rr, V1, wX10_nameIn_0 hK hIs' ?_, rfl, rfl⟩⟩, hme V1 hS1 (mT_fr hm (fr_mo f9 (fun a k q => by omega))), fr_mo z2 (fun a k q => ⟨i, hi, Or.inl (by rw [e]; show ad i + 2 ≤ a ∧ a < ad i + 5; omega)⟩), hS1⟩
        rw [hT.2.2.1]
        exact z1
      by_cases hj : ∃ j, j < (x i).1.1.length ∧ x2 = nI j
      · obtain ⟨j, hj, rfl⟩ := hj
        refine go _ (nmP_of hj) (fun V1 hS1 hm1 => ?_)
        obtain ⟨-, ⟨g70, g71⟩, gMR, -⟩ := hS1.2.2.1 i hi
        rw [e] at gMR
        have gTM : TrM i (x i).1.1.length (x i).1.2.1 (x i).1.2.2.1 (x i).1.2.2.2.1 V1 := gMR
        refine m_nameGo (kk := kd i) hK hS1 hi g70 (by omega) (by omega) (by omega) gTM.2.1 gTM.1.1 hj ?_
        rw [if_pos e]
        have hmk1 : mKe i (ky i) nT (fl (ky i)) V1 := ⟨by omega, hky, h80, g71, fun t ht => hm1.2.2.1 (ky i) t hky ht⟩
        obtain ⟨A, B, eL⟩ := hld_split hh.1 (t := nmL (x i).1.1 j) ((hh.1.2 _).mp (nmL_mem hj))
        have hnd := hh.1.1
        have eA : A.length = j := by
          have y1 := nmL_at (A := A) (B := B) (t := nmL (x i).1.1 j)
          rw [← eL] at y1
          have hA : A.length < (x i).1.1.length := by
            rw [eL, List.length_append, List.length_cons]
            omega
          rw [nmL_get hA, nmL_get hj] at y1
          exact (List.getElem_inj hnd).mp y1
        have := m_name68 (G := G) (d := d) (n := n) (J := J) (O := O) (A := A) (B := B) (t := nmL (x i).1.1 j) hK hmk1 hm1 (by rw [← eL]; exact hh.1) (by rw [← eL]; exact hh.2.1) (nmL (x i).1.1 j) 0 (by omega)
        rw [eA] at this
        exact this
      · refine go _ (nmP_no hj) (fun V1 hS1 hm1 => ?_)
        obtain ⟨-, ⟨g70, g71⟩, gMR, -⟩ := hS1.2.2.1 i hi
        rw [e] at gMR
        have gTM : TrM i (x i).1.1.length (x i).1.2.1 (x i).1.2.2.1 (x i).1.2.2.2.1 V1 := gMR
        exact m_nameNo (kk := kd i) hK hS1 hi g70 (by omega) (by omega) (by omega) gTM.2.1 gTM.1.1 hj
    · rw [e] at hIs
      refine same (-1) mX1_nameIn (by rw [e]; rfl) (wX1_nameIn_0 hK hIs rfl) (wX12_nameAt_0 hK ⟨_, a2, bf one0 ⟨hv, bf ?_ ⟨hv, bt ?_ rfl⟩⟩⟩)
      · rw [nI_c (by omega), h70, e]
        decide
      · rw [nI_c (by omega), h70, e]
        rfl
    · rw [e] at hCR hMR
      exact row hCR.1 hMR (Or.inr (Or.inr (Or.inr e))) (by rw [e]; decide) (by rw [e]; rfl)
  · exact ⟨-1, V, wX11_nameAt_0 hK ⟨_, c11_stoneNo hK hS h1, Or.inl ⟨rfl, rfl, rfl⟩⟩, wX12_nameAt_0 hK ⟨_, c12_isStoneNo hK hS h1, bt rfl rfl⟩, fr_rfl, hS⟩
end
