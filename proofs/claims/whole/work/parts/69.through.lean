/-! ===== through; firstUnlike ===== -/
def AP (nS nA : Nat) (ad kd aa : Nat → Nat) : Prop := ∀ i j, i < nS → j < nA → apart (sz (kd i)) (aa j) (ad i)
/-- what runs change in the class: the asks' running parts, the stones' looks -/
def frC (nS nA : Nat) (ad kd aa : Nat → Nat) : Nat → Nat → Prop := fun x k => (∃ i, i < nA ∧ x = aa i ∧ 7 ≤ k) ∨ (∃ i, i < nS ∧ ((x = ad i ∧ k = 8) ∨ (ad i + 4 ≤ x ∧ x < ad i + sz (kd i))))
def frR (nS nA : Nat) (ad kd aa : Nat → Nat) : Nat → Nat → Prop := fun x k => frC nS nA ad kd aa x k ∨ (x = 57 ∧ 27 ≤ k ∧ k ≤ 33) ∨ (x = 0 ∧ k = 8)
section
variable {G : Gp} {d : Nat} {K : SK} {n : Nat × Nat} {V V' : SV} {J : SJV} {O : SO} {r : Option Value}
variable {nS nT nA nG : Nat} {ad kd ky aa ofn : Nat → Nat} {fl : Nat → Nat → Nat} {ins : Nat → Bool} {wt : Nat → Nat} {x : Nat → SX} {qq : Nat → QD} {A B : Nat}
theorem CR_run {k b : Nat} {ke : Nat → Nat} {g : GS} (hkd : k ≤ 7) (h : CR k b ke g V) (hf' : fr (fun x j => (x = b ∧ j = 8) ∨ (b + 4 ≤ x ∧ x < b + sz k) ∨ ¬ (b ≤ x ∧ x < b + sz k)) V V') : CR k b ke g V' := by
  have hz := sz_ge (kd := k)
  have hf : ∀ {z : Nat}, sz k = z → fr (fun x j => (x = b ∧ j = 8) ∨ (b + 4 ≤ x ∧ x < b + z) ∨ ¬ (b ≤ x ∧ x < b + z)) V V' := fun e => e ▸ hf'
  have hrow : ∀ {m : Nat} {nm : Nat → Nat}, 3 ≤ sz k → RowC b m nm V → RowC b m nm V' := fun h3 h => ⟨h.1, by rw [hf' b 10 (by omega)]; exact h.2.1, fun i hi => by rw [hf' (b + 2) i (by omega)]; exact h.2.2 i hi⟩
  rcases kd_cases hkd with rfl | rfl | rfl | rfl | rfl | rfl | rfl | rfl
  · trivial
  · exact hrow (by decide) h
  · exact hrow (by decide) h
  · exact hrow (by decide) h
  · exact hrow (by decide) h
  · exact ⟨h.1, by rw [hf (z := 5) rfl b 13 (by omega)]; exact h.2.1, by rw [hf (z := 5) rfl b 12 (by omega)]; exact h.2.2.1, fun t ht => by rw [hf (z := 5) rfl (b + 2) t (by omega), hf (z := 5) rfl (b + 3) t (by omega)]; exact h.2.2.2 t ht⟩
  · show V' b 11 = _
    rw [hf (z := 3) rfl b 11 (by omega)]
    exact h
  · exact ⟨hrow (by decide) h.1, fun j hj => by rw [hf (z := 4) rfl (b + 3) j (by omega)]; exact h.2 j hj⟩
theorem SCi_run {i : Nat} {y : SX} (h : SCi ad kd ky fl K O V i y) (hf : fr (fun x j => (x = ad i ∧ j = 8) ∨ (ad i + 4 ≤ x ∧ x < ad i + sz (kd i)) ∨ ¬ (ad i ≤ x ∧ x < ad i + sz (kd i))) V V') : SCi ad kd ky fl K O V' i y := by
  have hz := sz_ge (kd := kd i)
  obtain ⟨h1, h2, h3, h4, h5⟩ := h
  exact ⟨h1, ⟨by rw [hf _ _ (by omega)]; exact h2.1, by rw [hf _ _ (by omega)]; exact h2.2⟩, CR_run h1.1.2.1 h3 hf, by rw [hf _ _ (by omega)]; exact h4, by rw [hf _ _ (by omega)]; exact h5⟩
theorem frC_lo (h1 : ∀ i, i < nS → 96 ≤ ad i) (h2 : ∀ i, i < nA → 96 ≤ aa i) {y k : Nat} (h : frC nS nA ad kd aa y k) : 96 ≤ y := by
  rcases h with ⟨i, hi, e, -⟩ | ⟨i, hi, e⟩
  · have := h2 i hi
    omega
  · have := h1 i hi
    omega
theorem frC_st (hD : SD nS ad kd) (hP : AP nS nA ad kd aa) {i : Nat} (hi : i < nS) {y k : Nat} (h : frC nS nA ad kd aa y k) : (y = ad i ∧ k = 8) ∨ (ad i + 4 ≤ y ∧ y < ad i + sz (kd i)) ∨ ¬ (ad i ≤ y ∧ y < ad i + sz (kd i)) := by
  rcases h with ⟨j, hj, e, -⟩ | ⟨j, hj, e⟩
  · have := hP i j hi hj
    unfold apart at this
    omega
  · have hz := sz_ge (kd := kd j)
    by_cases ej : j = i
    · subst ej
      omega
    · have := SD_ne hD hj hi ej
      omega
theorem frC_ak (hA : AkO nA aa ofn K O V) (hP : AP nS nA ad kd aa) {i : Nat} (hi : i < nA) {y k : Nat} (h : frC nS nA ad kd aa y k) : y ≠ aa i + 1 ∧ y ≠ aa i + 2 ∧ y ≠ aa i + 3 ∧ (y = aa i → 7 ≤ k) := by
  rcases h with ⟨j, hj, e, e7⟩ | ⟨j, hj, e⟩
  · obtain ⟨y1, y2, y3⟩ := AkO_ap hA hj hi e
    exact ⟨y1, y2, y3, fun _ => e7⟩
  · have := hP j i hj hi
    have hz := sz_ge (kd := kd j)
    unfold apart at this
    omega
theorem StR_R (hS : StR nS nT ad kd ky fl ins K O x V) (hA : AkO nA aa ofn K O V) (hP : AP nS nA ad kd aa) (hf : fr (frR nS nA ad kd aa) V V') : StR nS nT ad kd ky fl ins K O x V' := by
  obtain ⟨⟨s1, s2, s3, s4⟩, s5, s6, s7⟩ := hS
  have h1 : ∀ i, i < nS → 96 ≤ ad i := fun i hi => (s5 i hi).1.1.1
  have h2 : ∀ i, i < nA → 96 ≤ aa i := fun i hi => (hA.2.2 i hi).1.1
  have lo : ∀ {y k : Nat}, frR nS nA ad kd aa y k → 96 ≤ y ∨ (y = 57 ∧ 27 ≤ k ∧ k ≤ 33) ∨ (y = 0 ∧ k = 8) := fun h => h.imp (frC_lo h1 h2) id
  refine ⟨⟨s1, s2, by rw [hf 0 7 (fun q => by have := lo q; omega)]; exact s3, by rw [hf 57 25 (fun q => by have := lo q; omega)]; exact s4⟩, fun i hi => SCi_run (s5 i hi) (fr_mo hf (fun y k q => ?_)), fun i hi => SMi_o (s6 i hi) (fr_mo hf (fun y k q => by have := lo q; omega)), s7⟩
  have := h1 i hi
  rcases q with q | q
  · exact frC_st s2 hP hi q
  · omega
theorem AkO_R (hA : AkO nA aa ofn K O V) (h1 : ∀ i, i < nS → 96 ≤ ad i) (hP : AP nS nA ad kd aa) (hf : fr (frR nS nA ad kd aa) V V') : AkO nA aa ofn K O V' := by
  have h2 : ∀ i, i < nA → 96 ≤ aa i := fun i hi => (hA.2.2 i hi).1.1
  refine AkO_fr hA (fr_mo hf (fun y k q => ?_))
  rcases q with q | q
  · refine Or.inl ⟨frC_lo h1 h2 q, ?_⟩
    rintro ⟨e, i, hi, e2⟩
    have := (frC_ak hA hP hi q).2.2.2 e2
    omega
  · rcases q with ⟨e, q⟩ | ⟨e, q⟩
    · exact Or.inr (Or.inr (Or.inr ⟨e, by omega⟩))
    · exact Or.inr (Or.inr (Or.inl ⟨e, by omega⟩))
theorem AskR_R (hQ : AskR nA aa qq V) (hA : AkO nA aa ofn K O V) (h1 : ∀ i, i < nS → 96 ≤ ad i) (hP : AP nS nA ad kd aa) (hf : fr (frR nS nA ad kd aa) V V') : AskR nA aa qq V' := by
  have h2 : ∀ i, i < nA → 96 ≤ aa i := fun i hi => (hA.2.2 i hi).1.1
  refine AskR_fr hQ (fr_mo hf (fun y k q => ?_))
  rcases q with q | q
  · have := frC_lo h1 h2 q
    exact ⟨fun i hi => frC_ak hA hP hi q, by omega⟩
  · refine ⟨fun i hi => ?_, by omega⟩
    have := h2 i hi
    omega
theorem cT_R (hc : cT nT nG fl ins wt V) (h1 : ∀ i, i < nS → 96 ≤ ad i) (h2 : ∀ i, i < nA → 96 ≤ aa i) (hf : fr (frR nS nA ad kd aa) V V') : cT nT nG fl ins wt V' := cT_fr hc (fr_mo hf (fun y k q => by
  rcases q with q | q
  · have := frC_lo h1 h2 q
    omega
  · omega))
theorem mT_R (hm : mT nT fl ins V) (h1 : ∀ i, i < nS → 96 ≤ ad i) (h2 : ∀ i, i < nA → 96 ≤ aa i) (hf : fr (frR nS nA ad kd aa) V V') : mT nT fl ins V' := mT_fr hm (fr_mo hf (fun y k q => by
  rcases q with q | q
  · have := frC_lo h1 h2 q
    omega
  · omega))
theorem c11_at (hK : StK K) {k b a y nT' : Nat} {M : AM} {g : GS} {q : QD} {r : Int32} {c : Nat} (hkd : k ≤ 7) (hi' : IsSt K b (kc k) y) (ha : IsAk K a) (hb : 96 ≤ b) (h96 : 96 ≤ a) (hab : apart (sz k) a b) (hM : vt11_230 (kc k) = some M) (hk : Qok q) (hC : QC a q V) (hF : FC nT fl V) (hR : CR k b (fl y) g V) (h2 : V b 2 = nI y) (hA : A ≤ 99) (hB : B ≤ 99) (ht : tyC (sz k) G (d + 5) K M b a y nT q fl A B (CR k b (fl y) g) r c) : ∃ V', Ev G (d + 6) mX11_answerThrough 0 [(0, .ref b), (1, .ref a), (2, .int (nI A)), (3, .int (nI B))] (K, n, V, J, O) (some (.int r)) (K, n, V', J, O) ∧ V' b 8 = nI c ∧ fr (fun x j => (x = a ∧ 7 ≤ j) ∨ (x = b ∧ j = 8) ∨ (b + 4 ≤ x ∧ x < b + sz k)) V V' := by
  have hz := sz_ge (kd := k)
  have hab' := hab
  unfold apart at hab'
  obtain ⟨V1, z1, z2, z3, z4⟩ := c0_begin (G := G) (d := d + 5) (n := n) (J := J) (O := O) (A := A) (B := B) hK ha hk hC hF hA hB h96
  have f1 : fr (fun x j => x = b ∧ j = 8) V1 (up2 V1 b 8 0) := fr_up fr_rfl ⟨rfl, rfl⟩
  have f2 := fr_tr z4 f1
  obtain ⟨V2, y1, y2, y3⟩ := ht n J O (up2 V1 b 8 0) (AkRun_fr z2 (fr_mo f1 (fun x j q => by omega))) (RC_fr z3 (fr_mo f1 (fun x j q => by omega))) (CR_run hkd hR (fr_mo f2 (fun x j q => by omega))) (by rw [up2_s]; rfl) (by rw [f2 _ _ (by omega)]; exact h2)
  exact ⟨V2, wX11_answerThrough_0 hK hi' (kc_in hkd) ha ⟨V1, z1, M, hM, _, _, y1, rfl, rfl⟩, y2, fr_mo (fr_tr f2 y3) (fun x j q => by unfold frU at q; omega)⟩
/-- both, through the stone i, the ask p -/
def RUN (G : Gp) (K : SK) (ad kd ky aa : Nat → Nat) (nT : Nat) (q : QD) (fl : Nat → Nat → Nat) (A B i p : Nat) (g : GS) (r : Int32) (c : Nat) (M : AM) : Prop := vt11_230 (kc (kd i)) = some M ∧ (∀ d, tyC (sz (kd i)) G (d + 5) K M (ad i) (aa p) (ky i) nT q fl A B (CR (kd i) (ad i) (fl (ky i)) g) (if canB q (kd i) (ky i) = true then r else -2) c) ∧ (canB q (kd i) (ky i) = true → r ≠ -2 ∧ ∀ d, tyM G (d + 86) K (kd i) i p (ky i) nT q fl A B (MR (kd i) i g) r c)
theorem run_any (hK : StK K) (hS : StR nS nT ad kd ky fl ins K O x V) (hA : AkO nA aa ofn K O V) (hQ : AskR nA aa qq V) (hP : AP nS nA ad kd aa) (hc : cT nT nG fl ins wt V) {i p : Nat} (hi : i < nS) (hp : p < nA) : ∃ r c M, RUN G K ad kd ky aa nT (qq p) fl A B i p (x i).1 r c M := by
  obtain ⟨⟨s1, s2, s3, s4⟩, s5, s6, s7⟩ := hS
  obtain ⟨⟨⟨h96, hkd, hky⟩, hO, hIs⟩, -⟩ := s5 i hi
  exact thr_any hK hkd hIs (hA.2.2 p hp).1.2.2 h96 (hP i p hi hp) (by omega) hky (s7 i hi) (fun u hu => hu.1) hc.1.1 (fun f t hf ht => (hc.2.2.2.1 f t hf ht).2) (hQ p hp).1
theorem c11_atS (hK : StK K) (hS : StR nS nT ad kd ky fl ins K O x V) (hA : AkO nA aa ofn K O V) (hQ : AskR nA aa qq V) (hP : AP nS nA ad kd aa) (hc : cT nT nG fl ins wt V) {i p : Nat} (hi : i < nS) (hp : p < nA) (hA9 : A ≤ 99) (hB9 : B ≤ 99) {r : Int32} {c : Nat} {M : AM} (hr : RUN G K ad kd ky aa nT (qq p) fl A B i p (x i).1 r c M) : ∃ V', Ev G (d + 6) mX11_answerThrough 0 [(0, .ref (ad i)), (1, .ref (aa p)), (2, .int (nI A)), (3, .int (nI B))] (K, n, V, J, O) (some (.int (if canB (qq p) (kd i) (ky i) = true then r else -2))) (K, n, V', J, O) ∧ V' (ad i) 8 = nI c ∧ fr (frC nS nA ad kd aa) V V' := by
  obtain ⟨⟨s1, s2, s3, s4⟩, s5, s6, s7⟩ := hS
  obtain ⟨⟨⟨h96, hkd, hky⟩, hO, hIs⟩, ⟨n1, n2⟩, hCR, l1, l2⟩ := s5 i hi
  obtain ⟨V1, z1, z2, z3⟩ := c11_at (G := G) (d := d) (n := n) (J := J) (O := O) (nT' := 0) hK hkd hIs (hA.2.2 p hp).1.2.2 h96 (hA.2.2 p hp).1.1 (hP i p hi hp) hr.1 (hQ p hp).1 (hQ p hp).2.1 (cT_FC hc) hCR n2 hA9 hB9 (hr.2.1 d)
  refine ⟨V1, z1, z2, fr_mo z3 (fun y k q => ?_)⟩
  rcases q with q | q
  · exact Or.inl ⟨p, hp, q⟩
  · exact Or.inr ⟨i, hi, q⟩
theorem m12_atS (hS : StR nS nT ad kd ky fl ins K O x V) (hQ : AskR nA aa qq V) (hm : mT nT fl ins V) {i p : Nat} (hi : i < nS) (hp : p < nA) (hp10 : nA ≤ 10) (hA9 : A ≤ 99) (hB9 : B ≤ 99) {r : Int32} {c : Nat} {M : AM} (hr : RUN G K ad kd ky aa nT (qq p) fl A B i p (x i).1 r c M) (hcan : canB (qq p) (kd i) (ky i) = true) : ∃ V', Ev G (d + 86) mX12_throughOf 0 [(0, .ref 57), (1, .int (nI i)), (2, .int (nI p)), (3, .int (nI A)), (4, .int (nI B))] (K, n, V, J, O) (some (.int r)) (K, n, V', J, O) ∧ V' 57 33 = nI c ∧ fr frV V V' := by
  obtain ⟨⟨s1, s2, s3, s4⟩, s5, s6, s7⟩ := hS
  exact (hr.2.2 hcan).2 d n J O V (hQ p hp).1 (hQ p hp).2.2 (mT_FM hm) hA9 hB9 (by omega) (SMi_mKe (by omega) (s6 i hi) hm.1 hm.2.2.1) (s6 i hi).2.1.1 (s6 i hi).2.2.1
theorem frV_R {y k : Nat} (h : frV y k) : frR nS nA ad kd aa y k := Or.inr (Or.inl h)
theorem p_through (hK : StK K) (hS : StR nS nT ad kd ky fl ins K O x V) (hA : AkO nA aa ofn K O V) (hQ : AskR nA aa qq V) (hP : AP nS nA ad kd aa) (hc : cT nT nG fl ins wt V) (hm : mT nT fl ins V) (h33 : V 0 8 = V 57 33) {x1 x2 x3 x4 : Int32} : ∃ (r : Int32) (V1 V2 : SV), Ev G (d + 87) mX11_through 0 [(0, .ref 0), (1, .int x1), (2, .int x2), (3, .int x3), (4, .int x4)] (K, n, V, J, O) (some (.int r)) (K, n, V1, J, O) ∧ Ev G (d + 87) mX12_through 0 [(0, .ref 57), (1, .int x1), (2, .int x2), (3, .int x3), (4, .int x4)] (K, n, V1, J, O) (some (.int r)) (K, n, V2, J, O) ∧ fr (frR nS nA ad kd aa) V V2 ∧ V2 0 8 = V2 57 33 := by
  have h96 : ∀ i, i < nS → 96 ≤ ad i := fun i hi => (hS.2.1 i hi).1.1.1
  have h96a : ∀ i, i < nA → 96 ≤ aa i := fun i hi => (hA.2.2 i hi).1.1
  by_cases h1 : ∃ i, i < nS ∧ x1 = nI i
  · obtain ⟨i, hi, rfl⟩ := h1
    have a1 := c11_stoneAt (G := G) (d := d + 85) (n := n) (J := J) hK hS hi
    have a2 := c12_isStone (G := G) (d := d + 86) (n := n) (J := J) hK hS hi
    have hIs := (hS.2.1 i hi).1.2.2
    have hkd := (hS.2.1 i hi).1.1.2.1
    by_cases h2 : ∃ p, p < nA ∧ x2 = nI p
    · obtain ⟨p, hp, rfl⟩ := h2
      have b1 := c11_askAt (G := G) (d := d + 85) (n := n) (J := J) hK hA hp
      have b2 := c12_isAsk (G := G) (d := d + 86) (n := n) (J := J) hK hA hp
      have hIa := (hA.2.2 p hp).1.2.2
      by_cases h3 : ∃ c, c ≤ 99 ∧ x3 = nI c
      · obtain ⟨A, hA9, rfl⟩ := h3
        have w1 : ∀ {V : SV}, Ev G (d + 86) mX11_isValue 0 [(0, .int (nI A))] (K, n, V, J, O) (some (.int 1)) (K, n, V, J, O) := ev_b (c11_isValue hK) ((btw_iff (N := 99) (by decide)).mpr ⟨A, hA9, rfl⟩)
        have w2 : ∀ {V : SV}, Ev G (d + 86) mX12_isValue 0 [(0, .int (nI A))] (K, n, V, J, O) (some (.int 1)) (K, n, V, J, O) := ev_b (c12_isValue hK) ((btw_iff (N := 99) (by decide)).mpr ⟨A, hA9, rfl⟩)
        by_cases h4 : ∃ c, c ≤ 99 ∧ x4 = nI c
        · obtain ⟨B, hB9, rfl⟩ := h4
          have w3 : ∀ {V : SV}, Ev G (d + 86) mX11_isValue 0 [(0, .int (nI B))] (K, n, V, J, O) (some (.int 1)) (K, n, V, J, O) := ev_b (c11_isValue hK) ((btw_iff (N := 99) (by decide)).mpr ⟨B, hB9, rfl⟩)
          have w4 : ∀ {V : SV}, Ev G (d + 86) mX12_isValue 0 [(0, .int (nI B))] (K, n, V, J, O) (some (.int 1)) (K, n, V, J, O) := ev_b (c12_isValue hK) ((btw_iff (N := 99) (by decide)).mpr ⟨B, hB9, rfl⟩)
          obtain ⟨r, c, M, hr⟩ := run_any (G := G) (A := A) (B := B) hK hS hA hQ hP hc hi hp
          obtain ⟨V1, z1, z2, z3⟩ := c11_atS (G := G) (d := d + 80) (n := n) (J := J) hK hS hA hQ hP hc hi hp hA9 hB9 hr
          have can := fun (V : SV) (hS : StR nS nT ad kd ky fl ins K O x V) (hQ : AskR nA aa qq V) => c12_can (G := G) (d := d + 84) (n := n) (J := J) (O := O) hK (hQ p hp).1 (hQ p hp).2.2 (show p < 10 by have := hA.1.1; omega) (show i < 10 by have := hS.1.1; omega) (hS.2.2.1 i hi).1.2 hkd (hS.2.2.1 i hi).2.1.1 (hS.2.2.1 i hi).2.1.2
          by_cases hcan : canB (qq p) (kd i) (ky i) = true
          · rw [if_pos hcan] at z1
            have hr2 := (hr.2.2 hcan).1
            have f1 : fr (frR nS nA ad kd aa) V (up2 V1 0 8 (V1 (ad i) 8)) := fr_up (fr_mo z3 (fun y k q => Or.inl q)) (Or.inr (Or.inr ⟨rfl, rfl⟩))
            generalize hVX : up2 V1 0 8 (V1 (ad i) 8) = VX at f1
            have e8 : VX 0 8 = nI c := by rw [← hVX, up2_s, z2]
            have hSX := StR_R hS hA hP f1
            have hQX := AskR_R hQ hA h96 hP f1
            have hAX := AkO_R hA h96 hP f1
            obtain ⟨V2, y1, y2, y3⟩ := m12_atS (G := G) (d := d) (n := n) (J := J) hSX hQX (mT_R hm h96 h96a f1) hi hp hA.1.1 hA9 hB9 hr hcan
            refine ⟨r, VX, V2, wX11_through_0 hK ⟨_, a1, Or.inr ⟨ad i, kc (kd i), ky i, rfl, hIs, kc_in hkd, _, b1, Or.inr ⟨aa p, rfl, hIa, _, w1, bf one0 ⟨_, w3, nt one0 ⟨_, _, z1, bf hr2 ⟨rfl, hVX.symm⟩⟩⟩⟩⟩⟩, wX12_through_0 hK ⟨_, c12_isStone hK hSX hi, bf one0 ⟨_, c12_isAsk hK hAX hp, bf one0 ⟨_, w2, bf one0 ⟨_, w4, nt one0 ⟨_, can VX hSX hQX, bz_y hcan ⟨_, _, y1, rfl, rfl⟩⟩⟩⟩⟩⟩, fr_mo (fr_tr f1 y3) (fun y k q => q.elim id frV_R), ?_⟩
            rw [y2, y3 _ _ (by unfold frV; omega), e8]
          · rw [if_neg hcan] at z1
            have f1 : fr (frR nS nA ad kd aa) V V1 := fr_mo z3 (fun y k q => Or.inl q)
            have hSX := StR_R hS hA hP f1
            have hQX := AskR_R hQ hA h96 hP f1
            have hAX := AkO_R hA h96 hP f1
            refine ⟨-2, V1, V1, wX11_through_0 hK ⟨_, a1, Or.inr ⟨ad i, kc (kd i), ky i, rfl, hIs, kc_in hkd, _, b1, Or.inr ⟨aa p, rfl, hIa, _, w1, bf one0 ⟨_, w3, nt one0 ⟨_, _, z1, bt rfl ⟨rfl, rfl⟩⟩⟩⟩⟩⟩, wX12_through_0 hK ⟨_, c12_isStone hK hSX hi, bf one0 ⟨_, c12_isAsk hK hAX hp, bf one0 ⟨_, w2, bf one0 ⟨_, w4, nt one0 ⟨_, can V1 hSX hQX, bz_n hcan ⟨rfl, rfl⟩⟩⟩⟩⟩⟩, f1, ?_⟩
            rw [z3 _ _ (fun q => by have := frC_lo h96 h96a q; omega), z3 _ _ (fun q => by have := frC_lo h96 h96a q; omega)]
            exact h33
        · exact ⟨-2000000000, V, V, wX11_through_0 hK ⟨_, a1, Or.inr ⟨ad i, kc (kd i), ky i, rfl, hIs, kc_in hkd, _, b1, Or.inr ⟨aa p, rfl, hIa, _, w1, bf one0 ⟨_, ev_n (c11_isValue hK) (fun q => h4 ((btw_iff (N := 99) (by decide)).mp q)), nf rfl ⟨rfl, rfl⟩⟩⟩⟩⟩, wX12_through_0 hK ⟨_, a2, bf one0 ⟨_, b2, bf one0 ⟨_, w2, bf one0 ⟨_, ev_n (c12_isValue hK) (fun q => h4 ((btw_iff (N := 99) (by decide)).mp q)), nf rfl ⟨rfl, rfl⟩⟩⟩⟩⟩, fr_rfl, h33⟩
      · exact ⟨-2000000000, V, V, wX11_through_0 hK ⟨_, a1, Or.inr ⟨ad i, kc (kd i), ky i, rfl, hIs, kc_in hkd, _, b1, Or.inr ⟨aa p, rfl, hIa, _, ev_n (c11_isValue hK) (fun q => h3 ((btw_iff (N := 99) (by decide)).mp q)), bt rfl ⟨rfl, rfl⟩⟩⟩⟩, wX12_through_0 hK ⟨_, a2, bf one0 ⟨_, b2, bf one0 ⟨_, ev_n (c12_isValue hK) (fun q => h3 ((btw_iff (N := 99) (by decide)).mp q)), bt rfl ⟨rfl, rfl⟩⟩⟩⟩, fr_rfl, h33⟩
    · exact ⟨-2000000000, V, V, wX11_through_0 hK ⟨_, a1, Or.inr ⟨ad i, kc (kd i), ky i, rfl, hIs, kc_in hkd, _, c11_askNo hK hA h2, Or.inl ⟨rfl, rfl, rfl⟩⟩⟩, wX12_through_0 hK ⟨_, a2, bf one0 ⟨_, c12_isAskNo hK hA h2, bt rfl ⟨rfl, rfl⟩⟩⟩, fr_rfl, h33⟩
  · refine ⟨-2000000000, V, V, wX11_through_0 hK ⟨_, c11_stoneNo hK hS h1, Or.inl ⟨rfl, ?_⟩⟩, wX12_through_0 hK ⟨_, c12_isStoneNo hK hS h1, bt rfl ⟨rfl, rfl⟩⟩, fr_rfl, h33⟩
    by_cases h2 : ∃ p, p < nA ∧ x2 = nI p
    · obtain ⟨p, hp, rfl⟩ := h2
      exact ⟨_, c11_askAt (G := G) (d := d + 85) (n := n) (J := J) hK hA hp, Or.inr ⟨aa p, rfl, (hA.2.2 p hp).1.2.2, rfl, rfl⟩⟩
    · exact ⟨_, c11_askNo hK hA h2, Or.inl ⟨rfl, rfl, rfl⟩⟩
end
