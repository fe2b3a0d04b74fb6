/-! ===== firstUnlike ===== -/
def fuD (bad : Nat → Bool) : Nat → Int32 → Int32
  | 0, y => y
  | J + 1, y => fuD bad J (if bad J = true then nI J else y)
theorem ffst_snoc {p : Nat → Bool} {k : Nat} : ffst p (k + 1) 0 = if ffst p k 0 < k then ffst p k 0 else if p k = true then k else k + 1 := by
  have a := ffst_le p k 0
  by_cases c : ffst p k 0 < k
  · rw [if_pos c]
    exact ffst_un (Nat.zero_le _) (by omega) (fun j h1 h2 => ffst_no p k 0 j h1 h2) (fun _ => ffst_yes p k 0 (by omega))
  · rw [if_neg c]
    have e : ffst p k 0 = k := by omega
    by_cases c2 : p k = true
    · rw [if_pos c2]
      exact ffst_un (Nat.zero_le _) (by omega) (fun j h1 h2 => ffst_no p k 0 j h1 (by omega)) (fun _ => c2)
    · rw [if_neg c2]
      refine ffst_un (Nat.zero_le _) (by omega) (fun j h1 h2 => ?_) (fun h => by omega)
      by_cases ej : j = k
      · rw [ej]
        simpa using c2
      · exact ffst_no p k 0 j h1 (by omega)
theorem fuD_eq {bad : Nat → Bool} : ∀ {J : Nat} {y : Int32}, fuD bad J y = if ffst bad J 0 < J then nI (ffst bad J 0) else y
  | 0, y => by
    rw [if_neg (by omega)]
    rfl
  | J + 1, y => by
    have a := ffst_le bad J 0
    show fuD bad J (if bad J = true then nI J else y) = _
    rw [fuD_eq, ffst_snoc]
    by_cases c : ffst bad J 0 < J
    · rw [if_pos c, if_pos c, if_pos (by omega)]
    · rw [if_neg c, if_neg c]
      by_cases c2 : bad J = true
      · rw [if_pos c2, if_pos c2, if_pos (by omega)]
      · rw [if_neg c2, if_neg c2, if_neg (by omega)]
section
variable {G : Gp} {d : Nat} {K : SK} {n : Nat × Nat} {V V' : SV} {J : SJV} {O : SO} {r : Option Value}
variable {nS nT nA nG : Nat} {ad kd ky aa ofn : Nat → Nat} {fl : Nat → Nat → Nat} {ins : Nat → Bool} {wt : Nat → Nat} {x : Nat → SX} {qq : Nat → QD} {A B : Nat}
/-- whether the stone's answer is unlike -/
def bad (q : QD) (kd ky : Nat → Nat) (rr : Nat → Int32) (due : Int32) (i : Nat) : Bool := canB q (kd i) (ky i) && (decide (rr i ≠ -6) && decide (rr i ≠ due))
theorem bad_y {q : QD} {rr : Nat → Int32} {due : Int32} {i : Nat} (h1 : canB q (kd i) (ky i) = true) (h2 : rr i ≠ -6) (h3 : rr i ≠ due) : bad q kd ky rr due i = true := by
  unfold bad
  rw [h1, decide_eq_true h2, decide_eq_true h3]
  rfl
theorem bad_n {q : QD} {rr : Nat → Int32} {due : Int32} {i : Nat} (h : ¬ (canB q (kd i) (ky i) = true ∧ rr i ≠ -6 ∧ rr i ≠ due)) : bad q kd ky rr due i = false := by
  cases e : bad q kd ky rr due i with
  | false => rfl
  | true =>
    unfold bad at e
    simp only [Bool.and_eq_true, decide_eq_true_eq] at e
    exact absurd e h
theorem c11_fu41 (hK : StK K) (hP : AP nS nA ad kd aa) {p : Nat} (hp : p < nA) (hA9 : A ≤ 99) (hB9 : B ≤ 99) {rr : Nat → Int32} {cc : Nat → Nat} {MM : Nat → AM} (hr : ∀ i, i < nS → RUN G K ad kd ky aa nT (qq p) fl A B i p (x i).1 (rr i) (cc i) (MM i)) {x1 due : Int32} : ∀ (k i : Nat) (V : SV), i + k = nS → StR nS nT ad kd ky fl ins K O x V → AkO nA aa ofn K O V → AskR nA aa qq V → cT nT nG fl ins wt V → ∃ V', Ev G (d + 7) mX11_firstUnlike 41 [(0, .ref 0), (1, .int x1), (2, .int (nI A)), (3, .int (nI B)), (4, .ref (aa p)), (5, .int due), (6, .int (nI i))] (K, n, V, J, O) (some (.int (if ffst (bad (qq p) kd ky rr due) k i < nS then nI (ffst (bad (qq p) kd ky rr due) k i) else -2))) (K, n, V', J, O) ∧ fr (frC nS nA ad kd aa) V V' := by
  intro k
  induction k with
  | zero =>
    intro i V e hS hA hQ hc
    refine ⟨V, wX11_firstUnlike_41 hK (hA.2.2 p hp).1.2.2 (bt (lp_out hS.1.2.2.1 (by omega) (by have := hS.1.1; omega)) ⟨?_, rfl⟩), fr_rfl⟩
    unfold ffst
    rw [if_neg (by omega)]
  | succ k ih =>
    intro i V e hS hA hQ hc
    have hi : i < nS := by omega
    have h10 := hS.1.1
    have h96 : ∀ i, i < nS → 96 ≤ ad i := fun i hi => (hS.2.1 i hi).1.1.1
    have h96a : ∀ i, i < nA → 96 ≤ aa i := fun i hi => (hA.2.2 i hi).1.1
    have hO := (hS.2.1 i hi).1.2.1
    have hIs := (hS.2.1 i hi).1.2.2
    have hkd := (hS.2.1 i hi).1.1.2.1
    obtain ⟨V1, z1, z2, z3⟩ := c11_atS (G := G) (d := d) (n := n) (J := J) hK hS hA hQ hP hc hi hp hA9 hB9 (hr i hi)
    have f1 : fr (frR nS nA ad kd aa) V V1 := fr_mo z3 (fun y k q => Or.inl q)
    obtain ⟨V2, y1, y2⟩ := ih (i + 1) V1 (by omega) (StR_R hS hA hP f1) (AkO_R hA h96 hP f1) (AskR_R hQ hA h96 hP f1) (cT_R hc h96 h96a f1)
    have start := fun (V' : SV) (r : Option Value) hh => wX11_firstUnlike_41 (G := G) (d := d + 6) (K := K) (n := n) (V := V) (V' := V') (J := J) (O := O) (r := r) (x1 := x1) (x2 := nI A) (x3 := nI B) (x5 := due) (x6 := nI i) hK (hA.2.2 p hp).1.2.2 (bf (lp_in hS.1.2.2.1 (by omega) (by omega)) ⟨nI_v (by omega) (by omega), ad i, kc (kd i), ky i, by rw [nI_c (by omega)]; exact hO, hIs, kc_in hkd, _, V1, z1, hh⟩)
    rw [ffst_s]
    have cont : bad (qq p) kd ky rr due i = false → Ev G (d + 7) mX11_firstUnlike 41 [(0, .ref 0), (1, .int x1), (2, .int (nI A)), (3, .int (nI B)), (4, .ref (aa p)), (5, .int due), (6, .int (nI i + 1))] (K, n, V1, J, O) (some (.int (if (if bad (qq p) kd ky rr due i = true then i else ffst (bad (qq p) kd ky rr due) k (i + 1)) < nS then nI (if bad (qq p) kd ky rr due i = true then i else ffst (bad (qq p) kd ky rr due) k (i + 1)) else -2))) (K, n, V2, J, O) := fun hb => by
      have e0 : (if bad (qq p) kd ky rr due i = true then i else ffst (bad (qq p) kd ky rr due) k (i + 1)) = ffst (bad (qq p) kd ky rr due) k (i + 1) := if_neg (by rw [hb]; decide)
      rw [e0, nI_1]
      exact y1
    by_cases hcan : canB (qq p) (kd i) (ky i) = true
    · have e1 : (if canB (qq p) (kd i) (ky i) = true then rr i else -2) = rr i := if_pos hcan
      rw [e1] at start
      by_cases h6 : rr i = -6
      · exact ⟨V2, start _ _ (bf ((hr i hi).2.2 hcan).1 (bt h6 (cont (bad_n (fun z => z.2.1 h6))))), fr_mo (fr_tr z3 y2) (fun y k q => q.elim id id)⟩
      · by_cases hd : rr i = due
        · exact ⟨V2, start _ _ (bf ((hr i hi).2.2 hcan).1 (bf h6 (bt hd (cont (bad_n (fun z => z.2.2 hd)))))), fr_mo (fr_tr z3 y2) (fun y k q => q.elim id id)⟩
        · refine ⟨V1, start _ _ (bf ((hr i hi).2.2 hcan).1 (bf h6 (bf hd ⟨?_, rfl⟩))), z3⟩
          have hb := bad_y (kd := kd) (ky := ky) (rr := rr) (due := due) (i := i) hcan h6 hd
          simp only [if_pos hb, if_pos hi]
    · have e1 : (if canB (qq p) (kd i) (ky i) = true then rr i else -2) = -2 := if_neg hcan
      rw [e1] at start
      exact ⟨V2, start _ _ (bt rfl (cont (bad_n (fun z => hcan z.1)))), fr_mo (fr_tr z3 y2) (fun y k q => q.elim id id)⟩
theorem m12_fu51 (hK : StK K) (hP : AP nS nA ad kd aa) {p : Nat} (hp : p < nA) (hA9 : A ≤ 99) (hB9 : B ≤ 99) {rr : Nat → Int32} {cc : Nat → Nat} {MM : Nat → AM} (hr : ∀ i, i < nS → RUN G K ad kd ky aa nT (qq p) fl A B i p (x i).1 (rr i) (cc i) (MM i)) {x4 due : Int32} : ∀ (k : Nat) (V : SV) (y : Int32), k ≤ nS → StR nS nT ad kd ky fl ins K O x V → AkO nA aa ofn K O V → AskR nA aa qq V → mT nT fl ins V → ∃ V', Ev G (d + 87) mX12_firstUnlike 51 [(0, .ref 57), (1, .int (nI p)), (2, .int (nI A)), (3, .int (nI B)), (4, .int x4), (5, .int due), (6, .int y), (7, .int (nI k - 1))] (K, n, V, J, O) (some (.int (fuD (bad (qq p) kd ky rr due) k y))) (K, n, V', J, O) ∧ V' 57 33 = x4 ∧ fr frV V V' := by
  intro k
  induction k with
  | zero =>
    intro V y e hS hA hQ hm
    exact ⟨_, wX12_firstUnlike_51 hK (bt (by decide) ⟨rfl, rfl⟩), up2_s, fr_up fr_rfl ⟨rfl, by omega⟩⟩
  | succ k ih =>
    intro V y e hS hA hQ hm
    have hi : k < nS := by omega
    have h10 := hS.1.1
    have h96 : ∀ i, i < nS → 96 ≤ ad i := fun i hi => (hS.2.1 i hi).1.1.1
    have h96a : ∀ i, i < nA → 96 ≤ aa i := fun i hi => (hA.2.2 i hi).1.1
    have hkd := (hS.2.1 k hi).1.1.2.1
    have can := c12_can (G := G) (d := d + 84) (n := n) (J := J) (O := O) hK (hQ p hp).1 (hQ p hp).2.2 (show p < 10 by have := hA.1.1; omega) (show k < 10 by omega) (hS.2.2.1 k hi).1.2 hkd (hS.2.2.1 k hi).2.1.1 (hS.2.2.1 k hi).2.1.2
    rw [nI_pred]
    have en : nI k + (-1) = nI k - 1 := by rw [Int32.sub_eq_add_neg]
    show ∃ V', Ev G (d + 87) mX12_firstUnlike 51 _ _ (some (.int (fuD (bad (qq p) kd ky rr due) k (if bad (qq p) kd ky rr due k = true then nI k else y)))) _ ∧ _
    by_cases hcan : canB (qq p) (kd k) (ky k) = true
    · obtain ⟨V1, z1, z2, z3⟩ := m12_atS (G := G) (d := d) (n := n) (J := J) hS hQ hm hi hp hA.1.1 hA9 hB9 (hr k hi) hcan
      have f1 : fr (frR nS nA ad kd aa) V V1 := fr_mo z3 (fun y k q => frV_R q)
      obtain ⟨V2, y1, y2, y3⟩ := ih V1 (if bad (qq p) kd ky rr due k = true then nI k else y) (by omega) (StR_R hS hA hP f1) (AkO_R hA h96 hP f1) (AskR_R hQ hA h96 hP f1) (mT_R hm h96 h96a f1)
      refine ⟨V2, wX12_firstUnlike_51 hK (bf (nI_pos (by omega)) ⟨_, can, bz_y hcan ⟨_, V1, z1, ?_⟩⟩), y2, fr_mo (fr_tr z3 y3) (fun y k q => q.elim id id)⟩
      rw [en]
      by_cases h6 : rr k = -6
      · have hb := bad_n (kd := kd) (ky := ky) (q := qq p) (rr := rr) (due := due) (i := k) (fun z => z.2.1 h6)
        rw [if_neg (by rw [hb]; decide)] at y1 ⊢
        exact bt h6 y1
      · by_cases hd : rr k = due
        · have hb := bad_n (kd := kd) (ky := ky) (q := qq p) (rr := rr) (due := due) (i := k) (fun z => z.2.2 hd)
          rw [if_neg (by rw [hb]; decide)] at y1 ⊢
          exact bf h6 (bt hd y1)
        · have hb := bad_y (kd := kd) (ky := ky) (rr := rr) (due := due) (i := k) hcan h6 hd
          rw [if_pos hb] at y1 ⊢
          exact bf h6 (bf hd y1)
    · have hb := bad_n (kd := kd) (ky := ky) (q := qq p) (rr := rr) (due := due) (i := k) (fun z => hcan z.1)
      obtain ⟨V2, y1, y2, y3⟩ := ih V (if bad (qq p) kd ky rr due k = true then nI k else y) (by omega) hS hA hQ hm
      refine ⟨V2, wX12_firstUnlike_51 hK (bf (nI_pos (by omega)) ⟨_, can, bz_n hcan ?_⟩), y2, y3⟩
      rw [en]
      rw [if_neg (by rw [hb]; decide)] at y1 ⊢
      exact y1
theorem p_firstUnlike (hK : StK K) (hS : StR nS nT ad kd ky fl ins K O x V) (hA : AkO nA aa ofn K O V) (hQ : AskR nA aa qq V) (hP : AP nS nA ad kd aa) (hc : cT nT nG fl ins wt V) (hm : mT nT fl ins V) (h33 : V 0 8 = V 57 33) {x1 x2 x3 : Int32} : ∃ (r : Int32) (V1 V2 : SV), Ev G (d + 88) mX11_firstUnlike 0 [(0, .ref 0), (1, .int x1), (2, .int x2), (3, .int x3)] (K, n, V, J, O) (some (.int r)) (K, n, V1, J, O) ∧ Ev G (d + 88) mX12_firstUnlike 0 [(0, .ref 57), (1, .int x1), (2, .int x2), (3, .int x3)] (K, n, V1, J, O) (some (.int r)) (K, n, V2, J, O) ∧ fr (frR nS nA ad kd aa) V V2 ∧ V2 0 8 = V2 57 33 := by
  have h96 : ∀ i, i < nS → 96 ≤ ad i := fun i hi => (hS.2.1 i hi).1.1.1
  have h96a : ∀ i, i < nA → 96 ≤ aa i := fun i hi => (hA.2.2 i hi).1.1
  by_cases h2 : ∃ p, p < nA ∧ x1 = nI p
  · obtain ⟨p, hp, rfl⟩ := h2
    have b1 := c11_askAt (G := G) (d := d + 86) (n := n) (J := J) hK hA hp
    have b2 := c12_isAsk (G := G) (d := d + 87) (n := n) (J := J) hK hA hp
    have hIa := (hA.2.2 p hp).1.2.2
    have hA10 := hA.1.1
    by_cases h3 : ∃ c, c ≤ 99 ∧ x2 = nI c
    · obtain ⟨A, hA9, rfl⟩ := h3
      have w1 : ∀ {V : SV}, Ev G (d + 87) mX11_isValue 0 [(0, .int (nI A))] (K, n, V, J, O) (some (.int 1)) (K, n, V, J, O) := ev_b (c11_isValue hK) ((btw_iff (N := 99) (by decide)).mpr ⟨A, hA9, rfl⟩)
      have w2 : ∀ {V : SV}, Ev G (d + 87) mX12_isValue 0 [(0, .int (nI A))] (K, n, V, J, O) (some (.int 1)) (K, n, V, J, O) := ev_b (c12_isValue hK) ((btw_iff (N := 99) (by decide)).mpr ⟨A, hA9, rfl⟩)
      by_cases h4 : ∃ c, c ≤ 99 ∧ x3 = nI c
      · obtain ⟨B, hB9, rfl⟩ := h4
        have w3 : ∀ {V : SV}, Ev G (d + 87) mX11_isValue 0 [(0, .int (nI B))] (K, n, V, J, O) (some (.int 1)) (K, n, V, J, O) := ev_b (c11_isValue hK) ((btw_iff (N := 99) (by decide)).mpr ⟨B, hB9, rfl⟩)
        have w4 : ∀ {V : SV}, Ev G (d + 87) mX12_isValue 0 [(0, .int (nI B))] (K, n, V, J, O) (some (.int 1)) (K, n, V, J, O) := ev_b (c12_isValue hK) ((btw_iff (N := 99) (by decide)).mpr ⟨B, hB9, rfl⟩)
        have hch : ∀ i, ∃ w : Int32 × Nat × AM, i < nS → RUN G K ad kd ky aa nT (qq p) fl A B i p (x i).1 w.1 w.2.1 w.2.2 := by
          intro i
          by_cases hi : i < nS
          · obtain ⟨r, c, M, h⟩ := run_any (G := G) (A := A) (B := B) hK hS hA hQ hP hc hi hp
            exact ⟨(r, c, M), fun _ => h⟩
          · exact ⟨(0, 0, mX5_run), fun h => absurd h hi⟩
        obtain ⟨f, hf⟩ := Classical.axiomOfChoice hch
        obtain ⟨V1, z1, z2⟩ := c11_plain (G := G) (d := d + 84) (n := n) (J := J) (O := O) hK hIa (h96a p hp) (hQ p hp).1 (hQ p hp).2.1 hc hA9 hB9
        have f1C : fr (frC nS nA ad kd aa) V V1 := fr_mo z2 (fun y k q => Or.inl ⟨p, hp, q⟩)
        have f1 : fr (frR nS nA ad kd aa) V V1 := fr_mo f1C (fun y k q => Or.inl q)
        obtain ⟨V2, y1, y2⟩ := c11_fu41 (G := G) (d := d + 81) (n := n) (J := J) (x1 := nI p) (due := plA (qq p) fl ins nT A B) hK hP hp hA9 hB9 (rr := fun i => (f i).1) (cc := fun i => (f i).2.1) (MM := fun i => (f i).2.2) hf nS 0 V1 (by omega) (StR_R hS hA hP f1) (AkO_R hA h96 hP f1) (AskR_R hQ hA h96 hP f1) (cT_R hc h96 h96a f1)
        have f2C : fr (frC nS nA ad kd aa) V V2 := fr_mo (fr_tr f1C y2) (fun y k q => q.elim id id)
        have f2 : fr (frR nS nA ad kd aa) V V2 := fr_mo f2C (fun y k q => Or.inl q)
        have hS2 := StR_R hS hA hP f2
        have hA2 := AkO_R hA h96 hP f2
        have hQ2 := AskR_R hQ hA h96 hP f2
        have hm2 := mT_R hm h96 h96a f2
        obtain ⟨V3, u1, u2⟩ := c12_answerOf (G := G) (d := d + 84) (n := n) (J := J) (O := O) hK (hQ2 p hp).1 (hQ2 p hp).2.2 (show p < 10 by omega) hm2 hA9 hB9
        have f3 : fr (frR nS nA ad kd aa) V2 V3 := fr_mo u2 (fun y k q => by unfold frMb at q; exact Or.inr (Or.inl (by omega)))
        obtain ⟨V4, t1, t2, t3⟩ := m12_fu51 (G := G) (d := d + 1) (n := n) (J := J) (x4 := V2 57 33) (due := plA (qq p) fl ins nT A B) hK hP hp hA9 hB9 (rr := fun i => (f i).1) (cc := fun i => (f i).2.1) (MM := fun i => (f i).2.2) hf nS V3 (-2) (Nat.le_refl _) (StR_R hS2 hA2 hP f3) (AkO_R hA2 h96 hP f3) (AskR_R hQ2 hA2 h96 hP f3) (mT_R hm2 h96 h96a f3)
        have e25 : V3 57 25 = nI nS := by rw [u2 _ _ (by unfold frMb; omega)]; exact hS2.1.2.2.2
        have lo : ∀ {y k : Nat}, frC nS nA ad kd aa y k → 96 ≤ y := fun q => frC_lo h96 h96a q
        refine ⟨fuD (bad (qq p) kd ky (fun i => (f i).1) (plA (qq p) fl ins nT A B)) nS (-2), V2, V4, wX11_firstUnlike_0 hK ⟨_, b1, Or.inr ⟨aa p, rfl, hIa, _, w1, bf one0 ⟨_, w3, nt one0 ⟨_, V1, z1, by rw [fuD_eq]; exact y1⟩⟩⟩⟩, wX12_firstUnlike_0 hK ⟨_, c12_isAsk hK hA2 hp, bf one0 ⟨_, w2, bf one0 ⟨_, w4, nt one0 ⟨_, V3, u1, by rw [e25]; exact t1⟩⟩⟩⟩, fr_mo (fr_tr (fr_tr f2 f3) t3) (fun y k q => q.elim (fun q => q.elim id id) frV_R), ?_⟩
        rw [t2, t3 _ _ (by unfold frV; omega), u2 _ _ (by unfold frMb; omega), f2C _ _ (fun q => by have := lo q; omega), f2C _ _ (fun q => by have := lo q; omega)]
        exact h33
      · exact ⟨-1, V, V, wX11_firstUnlike_0 hK ⟨_, b1, Or.inr ⟨aa p, rfl, hIa, _, w1, bf one0 ⟨_, ev_n (c11_isValue hK) (fun q => h4 ((btw_iff (N := 99) (by decide)).mp q)), nf rfl ⟨rfl, rfl⟩⟩⟩⟩, wX12_firstUnlike_0 hK ⟨_, b2, bf one0 ⟨_, w2, bf one0 ⟨_, ev_n (c12_isValue hK) (fun q => h4 ((btw_iff (N := 99) (by decide)).mp q)), nf rfl ⟨rfl, rfl⟩⟩⟩⟩, fr_rfl, h33⟩
    · exact ⟨-1, V, V, wX11_firstUnlike_0 hK ⟨_, b1, Or.inr ⟨aa p, rfl, hIa, _, ev_n (c11_isValue hK) (fun q => h3 ((btw_iff (N := 99) (by decide)).mp q)), bt rfl ⟨rfl, rfl⟩⟩⟩, wX12_firstUnlike_0 hK ⟨_, b2, bf one0 ⟨_, ev_n (c12_isValue hK) (fun q => h3 ((btw_iff (N := 99) (by decide)).mp q)), bt rfl ⟨rfl, rfl⟩⟩⟩, fr_rfl, h33⟩
  · exact ⟨-1, V, V, wX11_firstUnlike_0 hK ⟨_, c11_askNo hK hA h2, Or.inl ⟨rfl, rfl, rfl⟩⟩, wX12_firstUnlike_0 hK ⟨_, c12_isAskNo hK hA h2, bt rfl ⟨rfl, rfl⟩⟩, fr_rfl, h33⟩
end
