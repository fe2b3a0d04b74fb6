/-! ===== plans: plan, goesThrough ===== -/
section
variable {G : Gp} {d : Nat} {K : SK} {n : Nat × Nat} {V V' : SV} {J : SJV} {O : SO} {r : Option Value}
variable {nS nT nA nG av puts bits : Nat} {ad kd ky aa ofn : Nat → Nat} {fl : Nat → Nat → Nat} {ins : Nat → Bool} {wt : Nat → Nat} {x : Nat → SX} {qq : Nat → QD} {A B : Nat}
theorem c11_planned93 (hK : StK K) {P : Nat → Nat → Option Nat} {pp : Nat → Nat} (hP : PT nS nA P pp V) (hpp : ∀ i, pp i ≤ 600) (h9 : puts ≤ 999) (hS10 : nS ≤ 10) {L : List Nat} (hL : ∀ j, j < L.length → V 46 j = nI (nmL L j)) (hLS : ∀ u, u ∈ L → u < nS) (hl : L.length ≤ 10) {x1 : Int32} : ∀ (k j y : Nat), j + k = L.length → y ≤ 1000000 + 599400 * j → Ev G (d + 1) mX11_planned 93 [(0, .ref 0), (1, .int x1), (2, .int (nI puts)), (3, .int (nI L.length)), (4, .long (nI y).toInt64), (6, .int (nI j))] (K, n, V, J, O) (some (.int (nI (itr (fun j y => y + puts * pp (nmL L j)) k j y)))) (K, n, V, J, O) := by
  intro k
  induction k with
  | zero =>
    intro j y e hy
    refine wX11_planned_93 hK (bt (by rw [nI_le' (by omega) (by omega)]; omega) ⟨?_, rfl⟩)
    rw [if_neg (j_held (by omega)), Int32.toInt32_toInt64]
    rfl
  | succ k ih =>
    intro j y e hy
    have hj : j < L.length := by omega
    have hu := hLS _ (nmL_mem hj)
    have hm : puts * pp (nmL L j) ≤ 999 * 600 := Nat.mul_le_mul h9 (hpp _)
    have := hpp (nmL L j)
    refine wX11_planned_93 hK (bf (by rw [nI_le' (by omega) (by omega)]; omega) ⟨nI_v (by omega) (by omega), ?_⟩)
    rw [nI_c (show j < 100000 by omega), hL j hj, nI_c (show nmL L j < 100000 by omega), hP.1 _ hu, j_mul (by omega) (by omega) (by omega), j_add (by omega), nI_1]
    exact ⟨nI_v (by omega) (by omega), ih (j + 1) _ (by omega) (by omega)⟩
theorem c11_planned12 (hK : StK K) (hA : AkO nA aa ofn K O V) {P : Nat → Nat → Option Nat} {pp : Nat → Nat} (hP : PT nS nA P pp V) (hPv : ∀ p i v, p < nA → P p i = some v → v ≤ 1009) (hpp : ∀ i, pp i ≤ 600) (h9 : puts ≤ 999) (hS10 : nS ≤ 10) (hL : ∀ j, j < (chL bits nS 0).length → V 46 j = nI (nmL (chL bits nS 0) j)) {x1 : Int32} : ∀ (k p y : Nat), p + k = nA → y ≤ 99891 * p → Ev G (d + 2) mX11_planned 12 [(0, .ref 0), (1, .int x1), (2, .int (nI puts)), (3, .int (nI (chL bits nS 0).length)), (4, .long (nI y).toInt64), (6, .int (nI p))] (K, n, V, J, O) (some (.int (opI ((plQ P ofn bits nS k p y).map (plS pp bits puts nS 0))))) (K, n, V, J, O) := by
  have hA10 := hA.1.1
  have hl := chL_len (bits := bits) (k := nS) (i := 0)
  have hLS : ∀ u, u ∈ chL bits nS 0 → u < nS := fun u hu => by have := chL_in hu; omega
  intro k
  induction k with
  | zero =>
    intro p y e hy
    have z := c11_planned93 (G := G) (d := d + 1) (n := n) (J := J) (O := O) (x1 := x1) hK hP hpp h9 hS10 hL hLS (by omega) (chL bits nS 0).length 0 y (by omega) (by omega)
    rw [itr_L0 (f := fun t y => y + puts * pp t), chL_s] at z
    exact wX11_planned_12 hK (bt (lp_out hA.1.2.1 (by omega) (by omega)) z)
  | succ k ih =>
    intro p y e hy
    have hp : p < nA := by omega
    obtain ⟨⟨ha96, hOa, hIa⟩, o1, o2, o3⟩ := hA.2.2 p hp
    have hvp : vp_in (nI p) 10 := nI_v (by omega) (by omega)
    have hcp : (nI p).toNatClampNeg = p := nI_c (by omega)
    refine wX11_planned_12 hK (bf (lp_in hA.1.2.1 (by omega) (by omega)) ⟨hvp, aa p, by rw [hcp]; exact hOa, hIa, ?_⟩)
    rw [o1, nI_1]
    unfold plQ
    by_cases c : ofn p = 0
    · rw [if_pos c]
      exact nf (leqI (c := 0) rfl c) (ih (p + 1) y (by omega) (by omega))
    · rw [if_neg c]
      refine nt (lne (c := 0) rfl (by omega) (by omega) c) ⟨_, c11_cheapest hK hP hPv hS10 hA10 hL hp, ?_⟩
      cases eb : upR (btC bits (P p)) nS 0 none with
      | none => exact nf rfl ⟨rfl, rfl⟩
      | some b =>
        obtain ⟨hb, v, hv⟩ := upR_in eb
        have hbt : bits.testBit b = true := by
          unfold btC at hv
          by_cases c2 : bits.testBit b = true
          · exact c2
          · rw [if_neg c2] at hv
            cases hv
        have hPb : P p b = some v := by
          unfold btC at hv
          rw [if_pos hbt] at hv
          exact hv
        have hv9 := hPv p b v hp hPb
        have hm : ofn p * v ≤ 99 * 1009 := Nat.mul_le_mul o3 hv9
        refine nt ?_ ⟨hvp, aa p, by rw [hcp]; exact hOa, hIa, hvp, nI_v (by omega) (by omega), ?_⟩
        · rw [ne_eq, opI_m2 (fun v h => by cases h; omega)]
          simp
        · rw [show (opI (some b)).toNatClampNeg = b from nI_c (by omega), hcp, o1, hP.2 p b hp hb, hPb]
          show Ev G (d + 2) mX11_planned 12 [_, _, _, _, (4, .long ((nI y).toInt64 + (nI (ofn p)).toInt64 * (nI v).toInt64)), _] _ _ _
          rw [j_mul (by omega) (by omega) (by omega), j_add (by omega)]
          have := ih (p + 1) (y + ofn p * v) (by omega) (by omega)
          dsimp only
          rw [hPb]
          exact this
theorem PT_46 {P : Nat → Nat → Option Nat} {pp : Nat → Nat} (hA10 : nA ≤ 10) (hP : PT nS nA P pp V) (hf : fr (fun a _ => a = 46) V V') : PT nS nA P pp V' := ⟨fun i hi => by rw [hf _ _ (by omega)]; exact hP.1 i hi, fun p i hp hi => by rw [hf _ _ (by omega)]; exact hP.2 p i hp hi⟩
theorem AkO_46 (hA : AkO nA aa ofn K O V) (hf : fr (fun a _ => 35 ≤ a ∧ a ≤ 46) V V') : AkO nA aa ofn K O V' := AkO_fr hA (fr_mo hf (fun a k q => Or.inr (Or.inl ⟨by omega, by omega, by omega, by omega⟩)))
theorem AskR_46 (hQ : AskR nA aa qq V) (hA : AkO nA aa ofn K O V) (hf : fr (fun a _ => 35 ≤ a ∧ a ≤ 46) V V') : AskR nA aa qq V' := AskR_fr hQ (fr_mo hf (fun a k q => ⟨fun i hi => by have := (hA.2.2 i hi).1.1; omega, by omega⟩))
theorem StR_46 (hS : StR nS nT ad kd ky fl ins K O x V) (hf : fr (fun a _ => 35 ≤ a ∧ a ≤ 46) V V') : StR nS nT ad kd ky fl ins K O x V' := by
  obtain ⟨⟨s1, s2, s3, s4⟩, s5, s6, s7⟩ := hS
  exact ⟨⟨s1, s2, by rw [hf _ _ (by omega)]; exact s3, by rw [hf _ _ (by omega)]; exact s4⟩, fun i hi => SCi_o (s5 i hi) (fr_mo hf (fun a k q => by omega)), fun i hi => SMi_o (s6 i hi) (fr_mo hf (fun a k q => by omega)), s7⟩
theorem c11_planned (hK : StK K) (h7 : V 0 7 = nI nS) (hA : AkO nA aa ofn K O V) {P : Nat → Nat → Option Nat} {pp : Nat → Nat} (hP : PT nS nA P pp V) (hPv : ∀ p i v, p < nA → P p i = some v → v ≤ 1009) (hpp : ∀ i, pp i ≤ 600) (h9 : puts ≤ 999) (hS10 : nS ≤ 10) (hb : bits < 100000) : ∃ V', Ev G (d + 2) mX11_planned 0 [(0, .ref 0), (1, .int (nI bits)), (2, .int (nI puts))] (K, n, V, J, O) (some (.int (opI (planN P pp ofn nS nA bits puts)))) (K, n, V', J, O) ∧ fr (fun a _ => a = 46) V V' := by
  obtain ⟨V', g1, g2, g3⟩ := c11_choose (G := G) (d := d) (K := K) (n := n) (J := J) (O := O) hK hS10 hb h7
  exact ⟨V', wX11_planned_0 hK ⟨_, V', g1, c11_planned12 (G := G) (d := d) hK (AkO_46 hA (fr_mo g3 (fun a k q => by omega))) (PT_46 hA.1.1 hP g3) hPv hpp h9 hS10 g2 nA 0 0 (by omega) (Nat.zero_le _)⟩, g3⟩
/-! the reference -/
theorem c12_cheap12 (hK : StK K) {P : Nat → Nat → Option Nat} (hPv : ∀ p i v, p < nA → P p i = some v → v ≤ 1009) (hS10 : nS ≤ 10) (hb : bits < 100000) {p : Nat} (hp : p < nA) (hpr : ∀ i, i < nS → Ev G (d + 3) mX12_priceOf 0 [(0, .ref 57), (1, .int (nI i)), (2, .int (nI p)), (3, .int (nI av))] (K, n, V, J, O) (some (.int (opI (P p i)))) (K, n, V, J, O)) : ∀ (j : Nat) (o : Option Nat), j ≤ nS → (∀ b, o = some b → b < nS ∧ bits.testBit b = true ∧ P p b ≠ none) → Ev G (d + 4) mX12_cheapest 12 [(0, .ref 57), (1, .int (nI bits)), (2, .int (nI p)), (3, .int (nI av)), (4, .int (opI o)), (5, .int (nI j - 1))] (K, n, V, J, O) (some (.int (opI (dnL (btC bits (P p)) j o)))) (K, n, V, J, O) := by
  intro j
  induction j with
  | zero =>
    intro o _ _
    exact wX12_cheapest_12 hK (bt (by decide) rfl)
  | succ j ih =>
    intro o hj ho
    have hbit := bit_1 (i := j) hb (show j < 31 by omega)
    have en : nI j + (-1) = nI j - 1 := by rw [Int32.sub_eq_add_neg]
    have eo : (opI o < 0) = (o = none) := opI_neg (fun v h => by have := (ho v h).1; omega)
    have eP : (opI (P p j) < 0) = (P p j = none) := opI_neg (fun v h => by have := hPv p _ v hp h; omega)
    rw [nI_pred]
    refine wX12_cheapest_12 hK (bf (nI_pos (by omega)) ?_)
    rw [ne_eq, hbit, en]
    show (_ → Ev G (d + 4) mX12_cheapest 12 _ _ (some (.int (opI (dnL (btC bits (P p)) j (dnS (btC bits (P p)) o j))))) _) ∧ _
    by_cases c : bits.testBit j = true
    · have ec : btC bits (P p) j = P p j := if_pos c
      refine ⟨fun z => absurd c z, fun _ => ⟨_, hpr j (by omega), ?_⟩⟩
      rw [eP, eo]
      show (_ → Ev G (d + 4) mX12_cheapest 12 _ _ (some (.int (opI (dnL (btC bits (P p)) j (dnS (btC bits (P p)) o j))))) _) ∧ (_ → (_ → Ev G (d + 4) mX12_cheapest 12 _ _ (some (.int (opI (dnL (btC bits (P p)) j (dnS (btC bits (P p)) o j))))) _) ∧ _)
      cases ep : P p j with
      | none =>
        have e1 : dnS (btC bits (P p)) o j = o := by unfold dnS; rw [ec, ep]
        rw [e1]
        exact ⟨fun _ => ih o (by omega) ho, fun z => absurd rfl z⟩
      | some w =>
        refine ⟨fun z => (by cases z), fun _ => ?_⟩
        cases o with
        | none =>
          have e1 : dnS (btC bits (P p)) none j = some j := by unfold dnS; rw [ec, ep]
          rw [e1]
          exact ⟨fun _ => ih (some j) (by omega) (fun b h => by cases h; exact ⟨by omega, c, by rw [ep]; simp⟩), fun z => absurd rfl z⟩
        | some b =>
          obtain ⟨hb1, hb2, hb3⟩ := ho b rfl
          have ecb : btC bits (P p) b = P p b := if_pos hb2
          refine ⟨fun z => (by cases z), fun _ => ⟨_, hpr j (by omega), _, hpr b hb1, ?_⟩⟩
          rw [ep]
          have e1 : dnS (btC bits (P p)) (some b) j = if w ≤ (P p b).getD 0 then some j else some b := by unfold dnS; rw [ec, ep]; dsimp only; rw [ecb]
          show (_ → Ev G (d + 4) mX12_cheapest 12 _ _ (some (.int (opI (dnL (btC bits (P p)) j (dnS (btC bits (P p)) (some b) j))))) _) ∧ (_ → Ev G (d + 4) mX12_cheapest 12 _ _ (some (.int (opI (dnL (btC bits (P p)) j (dnS (btC bits (P p)) (some b) j))))) _)
          rw [e1]
          have hw := hPv p _ w hp ep
          cases eb : P p b with
          | none =>
            exact absurd eb hb3
          | some v =>
            have hv := hPv p _ v hp eb
            show (nI v < nI w → _) ∧ (¬ nI v < nI w → _)
            rw [nI_l' (by omega) (by omega)]
            by_cases c2 : w ≤ v
            · rw [if_pos (show w ≤ (some v).getD 0 from c2)]
              exact bf (by omega) (ih (some j) (by omega) (fun b h => by cases h; exact ⟨by omega, c, by rw [ep]; simp⟩))
            · rw [if_neg (show ¬ w ≤ (some v).getD 0 from c2)]
              exact bt (by omega) (ih (some b) (by omega) ho)
    · have e1 : dnS (btC bits (P p)) o j = o := by unfold dnS; rw [show btC bits (P p) j = none from if_neg c]
      rw [e1]
      exact ⟨fun _ => ih o (by omega) ho, fun z => absurd z c⟩
theorem c12_cheapest (hK : StK K) (h25 : V 57 25 = nI nS) {P : Nat → Nat → Option Nat} (hPv : ∀ p i v, p < nA → P p i = some v → v ≤ 1009) (hS10 : nS ≤ 10) (hb : bits < 100000) {p : Nat} (hp : p < nA) (hpr : ∀ i, i < nS → Ev G (d + 3) mX12_priceOf 0 [(0, .ref 57), (1, .int (nI i)), (2, .int (nI p)), (3, .int (nI av))] (K, n, V, J, O) (some (.int (opI (P p i)))) (K, n, V, J, O)) : Ev G (d + 4) mX12_cheapest 0 [(0, .ref 57), (1, .int (nI bits)), (2, .int (nI p)), (3, .int (nI av))] (K, n, V, J, O) (some (.int (opI (upR (btC bits (P p)) nS 0 none)))) (K, n, V, J, O) := by
  have z := c12_cheap12 (G := G) (d := d) (n := n) (J := J) (O := O) hK hPv hS10 hb hp hpr nS none (Nat.le_refl _) (fun b h => by cases h)
  rw [← up_dn] at z
  exact wX12_cheapest_0 hK (by rw [h25]; exact z)
theorem c12_plan94 (hK : StK K) (h25 : V 57 25 = nI nS) {pp : Nat → Nat} (hpp : ∀ i, pp i ≤ 600) (h9 : puts ≤ 999) (hS10 : nS ≤ 10) (hb : bits < 100000) (hpr : ∀ i, i < nS → Ev G d mX12_putPriceOf 0 [(0, .ref 57), (1, .int (nI i)), (2, .int (nI av))] (K, n, V, J, O) (some (.int (nI (pp i)))) (K, n, V, J, O)) : ∀ (k i y : Nat), i + k = nS → y ≤ 1000000 + 599400 * i → Ev G (d + 1) mX12_planOf 94 [(0, .ref 57), (1, .int (nI bits)), (2, .int (nI av)), (3, .int (nI puts)), (4, .long (nI y).toInt64), (6, .int (nI i))] (K, n, V, J, O) (some (.int (nI (plS pp bits puts k i y)))) (K, n, V, J, O) := by
  intro k
  induction k with
  | zero =>
    intro i y e hy
    refine wX12_planOf_94 hK (bt (lp_out h25 (by omega) (by omega)) (bt ?_ ?_))
    · apply Int32.not_lt.mp
      intro z
      exact j_held (s := y) (by omega) ((lg_cmp_gt _ _).mp z)
    · rw [Int32.toInt32_toInt64]
      rfl
  | succ k ih =>
    intro i y e hy
    have hi : i < nS := by omega
    have hbit := bit_1 (i := i) hb (show i < 31 by omega)
    have hm : puts * pp i ≤ 999 * 600 := Nat.mul_le_mul h9 (hpp _)
    have := hpp i
    refine wX12_planOf_94 hK (bf (lp_in h25 (by omega) (by omega)) ?_)
    rw [ne_eq, hbit, nI_1, j_a0]
    unfold plS
    by_cases c : bits.testBit i = true
    · rw [if_pos c]
      refine ⟨fun z => absurd c z, fun _ => ⟨_, hpr i hi, ?_⟩⟩
      rw [j_mul (by omega) (by omega) (by omega), j_add (by omega)]
      exact ih (i + 1) _ (by omega) (by omega)
    · rw [if_neg c]
      exact ⟨fun _ => ih (i + 1) y (by omega) (by omega), fun z => absurd z c⟩
theorem nI_le00 {a : Nat} (h : a < 100000) : (nI a ≤ 0) = (a = 0) := by
  rw [show (0 : Int32) = nI 0 from rfl, nI_le' h (by omega)]
  apply propext
  omega
theorem c12_plan6 (hK : StK K) (hA : AkO nA aa ofn K O V) (h25 : V 57 25 = nI nS) {P : Nat → Nat → Option Nat} {pp : Nat → Nat} (hPv : ∀ p i v, p < nA → P p i = some v → v ≤ 1009) (hpp : ∀ i, pp i ≤ 600) (h9 : puts ≤ 999) (hS10 : nS ≤ 10) (hb : bits < 100000) (hpr : ∀ p i, p < nA → i < nS → ∀ d, Ev G (d + 3) mX12_priceOf 0 [(0, .ref 57), (1, .int (nI i)), (2, .int (nI p)), (3, .int (nI av))] (K, n, V, J, O) (some (.int (opI (P p i)))) (K, n, V, J, O)) (hput : ∀ i, i < nS → ∀ d, Ev G (d + 1) mX12_putPriceOf 0 [(0, .ref 57), (1, .int (nI i)), (2, .int (nI av))] (K, n, V, J, O) (some (.int (nI (pp i)))) (K, n, V, J, O)) : ∀ (k p y : Nat), p + k = nA → y ≤ 99891 * p → Ev G (d + 5) mX12_planOf 6 [(0, .ref 57), (1, .int (nI bits)), (2, .int (nI av)), (3, .int (nI puts)), (4, .long (nI y).toInt64), (6, .int (nI p))] (K, n, V, J, O) (some (.int (opI ((plQ P ofn bits nS k p y).map (plS pp bits puts nS 0))))) (K, n, V, J, O) := by
  have hA10 := hA.1.1
  intro k
  induction k with
  | zero =>
    intro p y e hy
    exact wX12_planOf_6 hK (bt (lp_out hA.1.2.2 (by omega) (by omega)) (c12_plan94 (d := d + 4) hK h25 hpp h9 hS10 hb (fun i hi => hput i hi (d + 3)) nS 0 y (by omega) (by omega)))
  | succ k ih =>
    intro p y e hy
    have hp : p < nA := by omega
    obtain ⟨-, o1, o2, o3⟩ := hA.2.2 p hp
    have hvp : vp_in (nI p) 10 := nI_v (by omega) (by omega)
    have hcp : (nI p).toNatClampNeg = p := nI_c (by omega)
    refine wX12_planOf_6 hK (bf (lp_in hA.1.2.2 (by omega) (by omega)) ⟨hvp, ?_⟩)
    rw [hcp, o2, nI_le00 (by omega), nI_1, j_a0]
    unfold plQ
    by_cases c : ofn p = 0
    · rw [if_pos c]
      exact bt c ⟨hvp, bt c (ih (p + 1) y (by omega) (by omega))⟩
    · rw [if_neg c]
      refine bf c ⟨_, c12_cheapest hK h25 hPv hS10 hb hp (fun i hi => hpr p i hp hi d), ?_⟩
      cases eb : upR (btC bits (P p)) nS 0 none with
      | none => exact bf (by decide) rfl
      | some b =>
        obtain ⟨hb', v, hv⟩ := upR_in eb
        have hbt : bits.testBit b = true := by
          unfold btC at hv
          by_cases c2 : bits.testBit b = true
          · exact c2
          · rw [if_neg c2] at hv
            cases hv
        have hPb : P p b = some v := by
          unfold btC at hv
          rw [if_pos hbt] at hv
          exact hv
        have hv9 := hPv p b v hp hPb
        have hm : ofn p * v ≤ 99 * 1009 := Nat.mul_le_mul o3 hv9
        have hpb := hpr p b hp hb' (d + 1)
        rw [hPb] at hpb
        refine bt (nI_pos' (by omega)) ⟨hvp, bf c ⟨hvp, _, hpb, ?_⟩⟩
        show Ev G (d + 5) mX12_planOf 6 [_, _, _, _, (4, .long ((nI y).toInt64 + (nI (ofn p)).toInt64 * (nI v).toInt64)), _] _ _ _
        rw [j_mul (by omega) (by omega) (by omega), j_add (by omega)]
        have := ih (p + 1) (y + ofn p * v) (by omega) (by omega)
        dsimp only
        rw [hPb]
        exact this
/-- what the reference's prices are, in a state -/
def PrM (G : Gp) (K : SK) (V : SV) (J : SJV) (O : SO) (nS nA av : Nat) (P : Nat → Nat → Option Nat) (pp : Nat → Nat) : Prop := (∀ p i, p < nA → i < nS → ∀ (d : Nat) (n : Nat × Nat), Ev G (d + 3) mX12_priceOf 0 [(0, .ref 57), (1, .int (nI i)), (2, .int (nI p)), (3, .int (nI av))] (K, n, V, J, O) (some (.int (opI (P p i)))) (K, n, V, J, O)) ∧ ∀ i, i < nS → ∀ (d : Nat) (n : Nat × Nat), Ev G (d + 1) mX12_putPriceOf 0 [(0, .ref 57), (1, .int (nI i)), (2, .int (nI av))] (K, n, V, J, O) (some (.int (nI (pp i)))) (K, n, V, J, O)
theorem PrM_any (hK : StK K) (hS : StR nS nT ad kd ky fl ins K O x V) (hA : AkO nA aa ofn K O V) (hQ : AskR nA aa qq V) (hav : av ≤ 999) : PrM G K V J O nS nA av (fun p i => prN (qq p) (kd i) (ky i) av) (fun i => ppN (kd i) av) := by
  have hA10 := hA.1.1
  have hS10 := hS.1.1
  refine ⟨fun p i hp hi d n => ?_, fun i hi d n => ?_⟩
  · obtain ⟨⟨hkd, hky⟩, ⟨m1, m2⟩, -⟩ := hS.2.2.1 i hi
    exact c12_priceOf hK (hQ p hp).1 (hQ p hp).2.2 (by omega) (by omega) hky hkd m1 m2 hav
  · obtain ⟨⟨hkd, hky⟩, ⟨m1, m2⟩, -⟩ := hS.2.2.1 i hi
    have := c12_putPriceOf (G := G) (d := d) (n := n) (J := J) (O := O) hK hkd (show i < 10 by omega) m1 hav
    rw [ppI_N hkd hav] at this
    exact this
theorem c12_planOf (hK : StK K) (hA : AkO nA aa ofn K O V) (h25 : V 57 25 = nI nS) {P : Nat → Nat → Option Nat} {pp : Nat → Nat} (hPv : ∀ p i v, p < nA → P p i = some v → v ≤ 1009) (hpp : ∀ i, pp i ≤ 600) (h9 : puts ≤ 999) (hS10 : nS ≤ 10) (hb : bits < 100000) (hP : PrM G K V J O nS nA av P pp) : Ev G (d + 5) mX12_planOf 0 [(0, .ref 57), (1, .int (nI bits)), (2, .int (nI av)), (3, .int (nI puts))] (K, n, V, J, O) (some (.int (opI (planN P pp ofn nS nA bits puts)))) (K, n, V, J, O) := wX12_planOf_0 hK (c12_plan6 (d := d) hK hA h25 hPv hpp h9 hS10 hb (fun p i hp hi d => hP.1 p i hp hi d n) (fun i hi d => hP.2 i hi d n) nA 0 0 (by omega) (Nat.zero_le _))
theorem pow_le {m : Nat} (h : m ≤ 10) : 2 ^ m ≤ 1024 := Nat.le_trans (Nat.pow_le_pow_right (by decide) h) (by decide)
theorem c11_isPlan (hK : StK K) (h7 : V 0 7 = nI nS) (hS10 : nS ≤ 10) {y : Int32} : Ev G (d + 1) mX11_isPlan 0 [(0, .ref 0), (1, .int y)] (K, n, V, J, O) (some (.int (bI (btw 0 y (nI (2 ^ nS) - 1))))) (K, n, V, J, O) := by
  have h2 := pow_le hS10
  refine wX11_isPlan_0 hK ⟨_, ?_, bI_z, rfl⟩
  rw [h7, shl1 (by omega)]
  exact c11_isWithin hK
theorem plan_iff {y : Int32} {m : Nat} (hm : m ≤ 10) : btw 0 y (nI (2 ^ m) - 1) ↔ ∃ b, b < 2 ^ m ∧ y = nI b := ix_iff (by have := pow_le hm; omega)
theorem c12_isPlanY (hK : StK K) (h25 : V 57 25 = nI nS) (hS10 : nS ≤ 10) (hb : bits < 2 ^ nS) : Ev G d mX12_isPlan 0 [(0, .ref 57), (1, .int (nI bits))] (K, n, V, J, O) (some (.int 1)) (K, n, V, J, O) := by
  have h2 := pow_le hS10
  refine wX12_isPlan_0 hK (bf (nI_pos (by omega)) ?_)
  rw [h25, pk_shrN (by omega) _ nS (sh_n nS (by omega)), Nat.div_eq_of_lt hb]
  exact nf rfl rfl
theorem c12_isPlanN (hK : StK K) (h25 : V 57 25 = nI nS) (hS10 : nS ≤ 10) {y : Int32} (h : ¬ ∃ b, b < 2 ^ nS ∧ y = nI b) : Ev G d mX12_isPlan 0 [(0, .ref 57), (1, .int y)] (K, n, V, J, O) (some (.int 0)) (K, n, V, J, O) := by
  refine wX12_isPlan_0 hK ?_
  by_cases c : y < 0
  · exact bt c rfl
  · refine bf c ?_
    obtain ⟨j, hj, rfl⟩ := nI_of c
    rw [h25, pk_shrN hj _ nS (sh_n nS (by omega))]
    refine nt ?_ rfl
    show ¬ nI (j / 2 ^ nS) = nI 0
    rw [nI_eq (Nat.lt_of_le_of_lt (Nat.div_le_self _ _) hj) (by omega)]
    intro z
    apply h
    refine ⟨j, ?_, rfl⟩
    rcases Nat.div_eq_zero_iff.mp z with z | z
    · have := Nat.two_pow_pos nS
      omega
    · exact z
theorem prN_all {qq : Nat → QD} (hS : StR nS nT ad kd ky fl ins K O x V) (hav : av ≤ 999) : ∀ p i v, p < nA → (fun p i => if i < nS then prN (qq p) (kd i) (ky i) av else none) p i = some v → v ≤ 1009 := by
  intro p i v hp h
  dsimp only at h
  by_cases hi : i < nS
  · rw [if_pos hi] at h
    exact prN_le hav (hS.2.1 i hi).1.1.2.1 h
  · rw [if_neg hi] at h
    cases h
theorem p_plan (hK : StK K) (hS : StR nS nT ad kd ky fl ins K O x V) (hA : AkO nA aa ofn K O V) (hQ : AskR nA aa qq V) {x1 x2 x3 : Int32} : ∃ (r : Int32) (V1 : SV), Ev G (d + 6) mX11_plan 0 [(0, .ref 0), (1, .int x1), (2, .int x2), (3, .int x3)] (K, n, V, J, O) (some (.int r)) (K, n, V1, J, O) ∧ Ev G (d + 6) mX12_plan 0 [(0, .ref 57), (1, .int x1), (2, .int x2), (3, .int x3)] (K, n, V1, J, O) (some (.int r)) (K, n, V1, J, O) ∧ fr (fun a _ => 35 ≤ a ∧ a ≤ 46) V V1 := by
  have hS10 := hS.1.1
  have h2p := pow_le hS10
  have h7 := hS.1.2.2.1
  have h25 := hS.1.2.2.2
  by_cases h1 : ∃ b, b < 2 ^ nS ∧ x1 = nI b
  · obtain ⟨bits, hb, rfl⟩ := h1
    have y1 : Ev G (d + 5) mX11_isPlan 0 [(0, .ref 0), (1, .int (nI bits))] (K, n, V, J, O) (some (.int 1)) (K, n, V, J, O) := ev_b (c11_isPlan hK h7 hS10) ((plan_iff hS10).mpr ⟨bits, hb, rfl⟩)
    by_cases h2 : ∃ c, (1 ≤ c ∧ c ≤ 999) ∧ x2 = nI c
    · obtain ⟨av, hc, rfl⟩ := h2
      have w1 : ∀ {V : SV}, Ev G (d + 5) mX11_isSize 0 [(0, .int (nI av))] (K, n, V, J, O) (some (.int 1)) (K, n, V, J, O) := ev_b (c11_isSize hK) ((btw1_iff (N := 999) (by decide)).mpr ⟨av, hc, rfl⟩)
      have w2 : ∀ {V : SV}, Ev G (d + 5) mX12_isSize 0 [(0, .int (nI av))] (K, n, V, J, O) (some (.int 1)) (K, n, V, J, O) := ev_b (c12_isSize hK) ((btw1_iff (N := 999) (by decide)).mpr ⟨av, hc, rfl⟩)
      by_cases h3 : ∃ c, c ≤ 999 ∧ x3 = nI c
      · obtain ⟨puts, h9, rfl⟩ := h3
        have w3 : ∀ {V : SV}, Ev G (d + 5) mX11_isWithin 0 [(0, .int (nI puts)), (1, .int 0), (2, .int 999)] (K, n, V, J, O) (some (.int 1)) (K, n, V, J, O) := x_wi (N := 999) hK (by decide) h9
        have w4 : ∀ {V : SV}, Ev G (d + 5) mX12_within 0 [(0, .long (nI puts).toInt64), (2, .long (0 : Int64)), (4, .long (999 : Int64))] (K, n, V, J, O) (some (.int 1)) (K, n, V, J, O) := m_wi (N := 999) hK (by decide) (by decide) h9
        obtain ⟨V1, z1, z2, z3⟩ := c11_learn (G := G) (d := d) (n := n) (J := J) hK hS hA hQ hc.2
        have f1 : fr (fun a _ => 35 ≤ a ∧ a ≤ 46) V V1 := fr_mo z3 (fun a k q => by omega)
        have z2' : PT nS nA (fun p i => if i < nS then prN (qq p) (kd i) (ky i) av else none) (fun i => ppN (kd i) av) V1 := ⟨z2.1, fun p i hp hi => by rw [z2.2 p i hp hi]; dsimp only; rw [if_pos hi]⟩
        have hPv := prN_all (nA := nA) (qq := qq) hS hc.2
        obtain ⟨V2, y2, y3⟩ := c11_planned (G := G) (d := d + 3) (n := n) (J := J) (O := O) (bits := bits) hK (by rw [f1 _ _ (by omega)]; exact h7) (AkO_46 hA f1) z2' hPv (fun i => ppN_le hc.2) h9 hS10 (by omega)
        have f2 : fr (fun a _ => 35 ≤ a ∧ a ≤ 46) V V2 := fr_mo (fr_tr f1 y3) (fun a k q => by omega)
        have hS2 := StR_46 hS f2
        have hA2 := AkO_46 hA f2
        have hP2 := PrM_any (G := G) (J := J) hK hS2 hA2 (AskR_46 hQ hA f2) hc.2
        have hP2' : PrM G K V2 J O nS nA av (fun p i => if i < nS then prN (qq p) (kd i) (ky i) av else none) (fun i => ppN (kd i) av) := ⟨fun p i hp hi d n => by dsimp only; rw [if_pos hi]; exact hP2.1 p i hp hi d n, hP2.2⟩
        exact ⟨_, V2, wX11_plan_0 hK ⟨_, y1, bf one0 ⟨_, w1, bf one0 ⟨_, w3, nt one0 ⟨V1, z1, _, V2, y2, rfl, rfl⟩⟩⟩⟩, wX12_plan_0 hK ⟨_, c12_isPlanY hK hS2.1.2.2.2 hS10 hb, bf one0 ⟨_, w2, bf one0 ⟨_, w4, bf one0 ⟨_, c12_planOf hK hA2 hS2.1.2.2.2 hPv (fun i => ppN_le hc.2) h9 hS10 (by omega) hP2', rfl⟩⟩⟩⟩, f2⟩
      · exact ⟨-1, V, wX11_plan_0 hK ⟨_, y1, bf one0 ⟨_, w1, bf one0 ⟨_, x_win (N := 999) hK (by decide) h3, nf rfl ⟨rfl, rfl⟩⟩⟩⟩, wX12_plan_0 hK ⟨_, c12_isPlanY hK h25 hS10 hb, bf one0 ⟨_, w2, bf one0 ⟨_, m_win (N := 999) hK (by decide) (by decide) h3, bt rfl rfl⟩⟩⟩, fr_rfl⟩
    · exact ⟨-1, V, wX11_plan_0 hK ⟨_, y1, bf one0 ⟨_, ev_n (c11_isSize hK) (fun q => h2 ((btw1_iff (N := 999) (by decide)).mp q)), bt rfl ⟨rfl, rfl⟩⟩⟩, wX12_plan_0 hK ⟨_, c12_isPlanY hK h25 hS10 hb, bf one0 ⟨_, ev_n (c12_isSize hK) (fun q => h2 ((btw1_iff (N := 999) (by decide)).mp q)), bt rfl rfl⟩⟩, fr_rfl⟩
  · exact ⟨-1, V, wX11_plan_0 hK ⟨_, ev_n (c11_isPlan hK h7 hS10) (fun q => h1 ((plan_iff hS10).mp q)), bt rfl ⟨rfl, rfl⟩⟩, wX12_plan_0 hK ⟨_, c12_isPlanN hK h25 hS10 h1, bt rfl rfl⟩, fr_rfl⟩
theorem p_goes (hK : StK K) (hS : StR nS nT ad kd ky fl ins K O x V) (hA : AkO nA aa ofn K O V) (hQ : AskR nA aa qq V) {x1 x2 x3 : Int32} : ∃ (r : Int32) (V1 : SV), Ev G (d + 6) mX11_goesThrough 0 [(0, .ref 0), (1, .int x1), (2, .int x2), (3, .int x3)] (K, n, V, J, O) (some (.int r)) (K, n, V1, J, O) ∧ Ev G (d + 6) mX12_goesThrough 0 [(0, .ref 57), (1, .int x1), (2, .int x2), (3, .int x3)] (K, n, V1, J, O) (some (.int r)) (K, n, V1, J, O) ∧ fr (fun a _ => 35 ≤ a ∧ a ≤ 46) V V1 := by
  have hS10 := hS.1.1
  have hA10 := hA.1.1
  have h2p := pow_le hS10
  have h7 := hS.1.2.2.1
  have h25 := hS.1.2.2.2
  by_cases h1 : ∃ b, b < 2 ^ nS ∧ x1 = nI b
  · obtain ⟨bits, hb, rfl⟩ := h1
    have y1 : Ev G (d + 5) mX11_isPlan 0 [(0, .ref 0), (1, .int (nI bits))] (K, n, V, J, O) (some (.int 1)) (K, n, V, J, O) := ev_b (c11_isPlan hK h7 hS10) ((plan_iff hS10).mpr ⟨bits, hb, rfl⟩)
    by_cases h3 : ∃ p, p < nA ∧ x2 = nI p
    · obtain ⟨p, hp, rfl⟩ := h3
      have b1 := c11_askAt (G := G) (d := d + 4) (n := n) (J := J) hK hA hp
      have hIa := (hA.2.2 p hp).1.2.2
      by_cases h2 : ∃ c, (1 ≤ c ∧ c ≤ 999) ∧ x3 = nI c
      · obtain ⟨av, hc, rfl⟩ := h2
        have w1 : ∀ {V : SV}, Ev G (d + 5) mX11_isSize 0 [(0, .int (nI av))] (K, n, V, J, O) (some (.int 1)) (K, n, V, J, O) := ev_b (c11_isSize hK) ((btw1_iff (N := 999) (by decide)).mpr ⟨av, hc, rfl⟩)
        have w2 : ∀ {V : SV}, Ev G (d + 5) mX12_isSize 0 [(0, .int (nI av))] (K, n, V, J, O) (some (.int 1)) (K, n, V, J, O) := ev_b (c12_isSize hK) ((btw1_iff (N := 999) (by decide)).mpr ⟨av, hc, rfl⟩)
        obtain ⟨V1, z1, z2, z3⟩ := c11_learn (G := G) (d := d) (n := n) (J := J) hK hS hA hQ hc.2
        have f1 : fr (fun a _ => 35 ≤ a ∧ a ≤ 46) V V1 := fr_mo z3 (fun a k q => by omega)
        have z2' : PT nS nA (fun p i => if i < nS then prN (qq p) (kd i) (ky i) av else none) (fun i => ppN (kd i) av) V1 := ⟨z2.1, fun p i hp hi => by rw [z2.2 p i hp hi]; dsimp only; rw [if_pos hi]⟩
        have hPv := prN_all (nA := nA) (qq := qq) hS hc.2
        obtain ⟨V2, g1, g2, g3⟩ := c11_choose (G := G) (d := d + 4) (K := K) (n := n) (J := J) (O := O) (bits := bits) hK hS10 (by omega) (show V1 0 7 = nI nS by rw [f1 _ _ (by omega)]; exact h7)
        have y2 := c11_cheapest (G := G) (d := d + 4) (n := n) (J := J) (O := O) hK (PT_46 hA10 z2' g3) hPv hS10 hA10 g2 hp
        have f2 : fr (fun a _ => 35 ≤ a ∧ a ≤ 46) V V2 := fr_mo (fr_tr f1 g3) (fun a k q => by omega)
        have hS2 := StR_46 hS f2
        have hA2 := AkO_46 hA f2
        have hP2 := PrM_any (G := G) (J := J) hK hS2 hA2 (AskR_46 hQ hA f2) hc.2
        exact ⟨_, V2, wX11_goesThrough_0 hK ⟨_, y1, bf one0 ⟨_, b1, Or.inr ⟨aa p, rfl, hIa, _, w1, nt one0 ⟨V1, z1, _, V2, g1, _, y2, rfl, rfl⟩⟩⟩⟩, wX12_goesThrough_0 hK ⟨_, c12_isPlanY hK hS2.1.2.2.2 hS10 hb, bf one0 ⟨_, c12_isAsk hK hA2 hp, bf one0 ⟨_, w2, bf one0 ⟨_, c12_cheapest (d := d + 1) hK hS2.1.2.2.2 hPv hS10 (by omega) hp (fun i hi => by rw [if_pos hi]; exact hP2.1 p i hp hi (d + 1) n), rfl⟩⟩⟩⟩, f2⟩
      · exact ⟨-1, V, wX11_goesThrough_0 hK ⟨_, y1, bf one0 ⟨_, b1, Or.inr ⟨aa p, rfl, hIa, _, ev_n (c11_isSize hK) (fun q => h2 ((btw1_iff (N := 999) (by decide)).mp q)), nf rfl ⟨rfl, rfl⟩⟩⟩⟩, wX12_goesThrough_0 hK ⟨_, c12_isPlanY hK h25 hS10 hb, bf one0 ⟨_, c12_isAsk hK hA hp, bf one0 ⟨_, ev_n (c12_isSize hK) (fun q => h2 ((btw1_iff (N := 999) (by decide)).mp q)), bt rfl rfl⟩⟩⟩, fr_rfl⟩
    · exact ⟨-1, V, wX11_goesThrough_0 hK ⟨_, y1, bf one0 ⟨_, c11_askNo hK hA h3, Or.inl ⟨rfl, rfl, rfl⟩⟩⟩, wX12_goesThrough_0 hK ⟨_, c12_isPlanY hK h25 hS10 hb, bf one0 ⟨_, c12_isAskNo hK hA h3, bt rfl rfl⟩⟩, fr_rfl⟩
  · exact ⟨-1, V, wX11_goesThrough_0 hK ⟨_, ev_n (c11_isPlan hK h7 hS10) (fun q => h1 ((plan_iff hS10).mp q)), bt rfl ⟨rfl, rfl⟩⟩, wX12_goesThrough_0 hK ⟨_, c12_isPlanN hK h25 hS10 h1, bt rfl rfl⟩, fr_rfl⟩
end
