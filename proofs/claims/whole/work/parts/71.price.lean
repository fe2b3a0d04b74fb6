/-! ===== price ===== -/
/-- of ordered stones -/
def ordN (q : QD) (ky a : Nat) : Nat := if eqI q ky < qm q then lvl a + 2 else if abI q ky = true then lvl a + a / 4 + 1 else a + lvl a
/-- the price of an ask through a stone; none, if it can't -/
def prN (q : QD) (kd ky a : Nat) : Option Nat := match kd with
  | 0 => none
  | 1 => some a
  | 2 => some (ordN q ky a)
  | 3 => some (if qm q = 0 ∧ qw q = 109 ∧ qr q = ky then 1 else a)
  | 4 => some (if eqI q ky < qm q then a / 8 + 1 else a)
  | 5 => some (ordN q ky a)
  | 6 => if canB q 6 ky = true then some 2 else none
  | _ => some (if fsB q (qr q) ky = true then 2 * lvl a else ordN q ky a)
theorem prN_3 {q : QD} {ky a : Nat} : prN q 3 ky a = some (if qm q = 0 ∧ qw q = 109 ∧ qr q = ky then 1 else a) := rfl
theorem prN_4 {q : QD} {ky a : Nat} : prN q 4 ky a = some (if eqI q ky < qm q then a / 8 + 1 else a) := rfl
theorem prN_6 {q : QD} {ky a : Nat} : prN q 6 ky a = if canB q 6 ky = true then some 2 else none := rfl
theorem prN_7 {q : QD} {ky a : Nat} : prN q 7 ky a = some (if fsB q (qr q) ky = true then 2 * lvl a else ordN q ky a) := rfl
def opI (o : Option Nat) : Int32 := match o with
  | none => -2
  | some v => nI v
theorem lvF_le {a : Nat} : ∀ (k i : Nat), lvF k a i ≤ i + k
  | 0, i => Nat.le_refl _
  | k + 1, i => by
    unfold lvF
    split
    · omega
    · have := lvF_le (a := a) k (i + 1)
      omega
theorem lvl_le {a : Nat} : lvl a ≤ 10 := by
  have := lvF_le (a := a) 10 0
  unfold lvl
  omega
theorem ordN_le {q : QD} {ky a : Nat} (ha : a ≤ 999) : ordN q ky a ≤ 1009 := by
  have := lvl_le (a := a)
  unfold ordN
  split
  · omega
  · split <;> omega
theorem prN_le {q : QD} {kd ky a : Nat} (ha : a ≤ 999) (hkd : kd ≤ 7) {v : Nat} (h : prN q kd ky a = some v) : v ≤ 1009 := by
  have hl := lvl_le (a := a)
  have ho := ordN_le (q := q) (ky := ky) ha
  rcases kd_cases hkd with rfl | rfl | rfl | rfl | rfl | rfl | rfl | rfl
  · cases h
  · cases h; omega
  · cases h; omega
  · cases h
    split <;> omega
  · cases h
    split <;> omega
  · cases h; omega
  · rw [prN_6] at h
    split at h
    · cases h; omega
    · cases h
  · cases h
    split <;> omega
theorem canB_6 {q : QD} {ky : Nat} : (canB q 6 ky = true) = (qw q = 110 ∧ qm q = 1 ∧ eqI q ky < qm q) := by
  unfold canB
  rw [if_pos rfl]
  simp
theorem pt_1 {x : Int32} {A1 A2 A3 A4 A5 A6 A7 AD : Prop} (e : x = nI 1) (h : A1) : (x = 1 → A1) ∧ (x = 2 → A2) ∧ (x = 3 → A3) ∧ (x = 4 → A4) ∧ (x = 5 → A5) ∧ (x = 6 → A6) ∧ (x = 7 → A7) ∧ ((¬ x = 1 ∧ ¬ x = 2 ∧ ¬ x = 3 ∧ ¬ x = 4 ∧ ¬ x = 5 ∧ ¬ x = 6 ∧ ¬ x = 7) → AD) := sw_1 e h
section
variable {G : Gp} {d : Nat} {K : SK} {n : Nat × Nat} {V V' : SV} {J : SJV} {O : SO} {r : Option Value}
variable {a b ky p sn kd av : Nat} {q : QD}
theorem div_n {a c : Nat} (ha : a < 100000) (h0 : 0 < c) (hc : c < 1000) : nI a / nI c = nI (a / c) := pk_div (by omega) h0 (by omega)
theorem c5_ordered (hK : StK K) (ha : IsAk K a) (hq : Qok q) (hC : QC a q V) (hky : ky < 4) (hav : av ≤ 999) : Ev G (d + 2) mX5_orderedPrice 0 [(0, .ref a), (1, .int (nI ky)), (2, .int (nI av))] (K, n, V, J, O) (some (.int (nI (ordN q ky av)))) (K, n, V, J, O) := by
  have hl := lvl_le (a := av)
  refine wX5_orderedPrice_0 hK ha ⟨_, c5_levels hK hav, _, c0_hasEqual hK ha hq hC hky, ?_⟩
  unfold ordN
  by_cases c1 : eqI q ky < qm q
  · rw [if_pos c1]
    refine bz_y c1 ?_
    rw [show nI (lvl av) + 2 = nI (lvl av + 2) from nI_add _ 2]
  · rw [if_neg c1]
    refine bz_n c1 ⟨_, c0_isAbout hK ha hq hC hky, ?_⟩
    by_cases c2 : abI q ky = true
    · rw [if_pos c2]
      refine bz_y c2 ?_
      rw [show nI av / 4 = nI (av / 4) from div_n (c := 4) (by omega) (by omega) (by omega), nI_add, nI_1]
    · rw [if_neg c2]
      refine bz_n c2 ?_
      rw [nI_add]
theorem c_priceFor (hK : StK K) (hkd : kd ≤ 7) (hb : IsSt K b (kc kd) ky) (ha : IsAk K a) (hq : Qok q) (hC : QC a q V) (hky : ky < 4) (h2 : V b 2 = nI ky) (hav : av ≤ 999) : ∃ M, vt11_237 (kc kd) = some M ∧ Ev G (d + 4) M 0 [(0, .ref b), (1, .ref a), (2, .int (nI av))] (K, n, V, J, O) (some (.int (opI (prN q kd ky av)))) (K, n, V, J, O) := by
  have ord := c5_ordered (G := G) (d := d) (n := n) (J := J) (O := O) hK ha hq hC hky hav
  have ord1 := c5_ordered (G := G) (d := d + 1) (n := n) (J := J) (O := O) hK ha hq hC hky hav
  rcases kd_cases hkd with rfl | rfl | rfl | rfl | rfl | rfl | rfl | rfl
  · exact ⟨_, rfl, wX5_priceFor_0 hK hb (by decide) ha rfl⟩
  · exact ⟨_, rfl, wX3_priceFor_0 hK hb (by decide) ha rfl⟩
  · exact ⟨_, rfl, wX4_priceFor_0 hK hb (by decide) ha ⟨_, by rw [h2]; exact ord1, rfl⟩⟩
  · refine ⟨_, rfl, wX2_priceFor_0 hK hb ha ⟨_, by rw [h2]; exact c0_isLeast hK ha hq hC hky, ?_⟩⟩
    show _ ∧ _
    by_cases c : qm q = 0 ∧ qw q = 109 ∧ qc q = ky
    · have c' : qm q = 0 ∧ qw q = 109 ∧ qr q = ky := ⟨c.1, c.2.1, by rw [← hq.2.2.2.2 (by omega)]; exact c.2.2⟩
      refine bz_y c ?_
      rw [prN_3]
      rw [if_pos c']
      rfl
    · have c' : ¬ (qm q = 0 ∧ qw q = 109 ∧ qr q = ky) := fun z => c ⟨z.1, z.2.1, by rw [hq.2.2.2.2 (by omega)]; exact z.2.2⟩
      refine bz_n c ?_
      rw [prN_3]
      rw [if_neg c']
      rfl
  · refine ⟨_, rfl, wX7_priceFor_0 hK hb (by decide) ha ⟨_, by rw [h2]; exact c0_hasEqual hK ha hq hC hky, ?_⟩⟩
    rw [prN_4]
    by_cases c : eqI q ky < qm q
    · rw [if_pos c]
      refine bz_y c ?_
      rw [show nI av / 8 = nI (av / 8) from div_n (c := 8) (by omega) (by omega) (by omega), nI_1]
      rfl
    · rw [if_neg c]
      exact bz_n c rfl
  · exact ⟨_, rfl, wX10_priceFor_0 hK hb ha ⟨_, by rw [h2]; exact ord1, rfl⟩⟩
  · refine ⟨_, rfl, wX1_priceFor_0 hK hb ha ⟨_, by rw [h2]; exact c0_isOne hK ha hq hC hky, ?_⟩⟩
    rw [prN_6]
    by_cases c : qw q = 110 ∧ qm q = 1 ∧ eqI q ky < qm q
    · rw [if_pos (by rw [canB_6]; exact c)]
      exact bz_y c rfl
    · rw [if_neg (by rw [canB_6]; exact c)]
      exact bz_n c rfl
  · refine ⟨_, rfl, wX6_priceFor_0 hK hb ha ⟨_, by rw [h2]; exact c0_fromSums hK ha hq hC hky, ?_⟩⟩
    rw [prN_7]
    rw [fsB_c hq]
    by_cases c : fsB q (qr q) ky = true
    · rw [if_pos c]
      refine bz_y c ⟨_, c5_levels hK hav, ?_⟩
      rw [show (2 : Int32) = nI 2 from rfl, nI_mul]
      rfl
    · rw [if_neg c]
      exact bz_n c ⟨_, wX4_priceFor_0 hK hb (by decide) ha ⟨_, by rw [h2]; exact ord, rfl⟩, rfl⟩
theorem c12_146 (hK : StK K) (hq : Qok q) (hC : QM p q V) (hp : p < 10) (hs : sn < 10) (hky : ky < 4) (hkd : kd ≤ 7) (h70 : V 70 sn = nI kd) (h71 : V 71 sn = nI ky) : Ev G (d + 3) mX12_priceOf 146 [(0, .ref 57), (1, .int (nI sn)), (2, .int (nI p)), (3, .int (nI av)), (4, .int (bI (abI q ky = true))), (5, .int (bI (eqI q ky < qm q))), (6, .int (nI (lvl av)))] (K, n, V, J, O) (some (.int (nI (if kd = 7 ∧ fsB q (qr q) ky = true then 2 * lvl av else if eqI q ky < qm q then lvl av + 2 else if abI q ky = true then lvl av + av / 4 + 1 else av + lvl av)))) (K, n, V, J, O) ∨ ¬ av ≤ 999 := by
  by_cases hav : av ≤ 999
  · left
    refine wX12_priceOf_146 hK ⟨_, c12_bySums hK hq hC hp hs hky hkd h70 h71, ?_⟩
    by_cases c0 : kd = 7 ∧ fsB q (qr q) ky = true
    · rw [if_pos c0]
      refine bz_y c0 ?_
      rw [show (2 : Int32) = nI 2 from rfl, nI_mul]
    · rw [if_neg c0]
      refine bz_n c0 ?_
      by_cases c1 : eqI q ky < qm q
      · rw [if_pos c1]
        refine bz_y c1 ?_
        rw [show nI (lvl av) + 2 = nI (lvl av + 2) from nI_add _ 2]
      · rw [if_neg c1]
        refine bz_n c1 ?_
        by_cases c2 : abI q ky = true
        · rw [if_pos c2]
          refine bz_y c2 ?_
          rw [show nI av / 4 = nI (av / 4) from div_n (c := 4) (by omega) (by omega) (by omega), nI_add, nI_1]
        · rw [if_neg c2]
          refine bz_n c2 ?_
          rw [nI_add]
  · exact Or.inr hav
theorem c12_price12 (hK : StK K) (hq : Qok q) (hC : QM p q V) (hp : p < 10) (hs : sn < 10) (hky : ky < 4) (hkd : kd ≤ 7) (h70 : V 70 sn = nI kd) (h71 : V 71 sn = nI ky) (hav : av ≤ 999) : ∀ (k i : Nat) (u w : Bool), i + k = qm q → (u || anyF (fun i => decide (qf q i = ky)) k i) = abI q ky → (w || decide (ffst (eqp q ky) k i < qm q)) = decide (eqI q ky < qm q) → Ev G (d + 3) mX12_priceOf 12 [(0, .ref 57), (1, .int (nI sn)), (2, .int (nI p)), (3, .int (nI av)), (4, .int (bI (u = true))), (5, .int (bI (w = true))), (6, .int (nI (16 * p + i)))] (K, n, V, J, O) (some (.int (opI (prN q kd ky av)))) (K, n, V, J, O) := by
  have hm := hq.1.1
  have hw := hq.2.1
  have hr := hq.2.2.2.1
  have hvp : vp_in (nI p) 10 := nI_v hp (by omega)
  have hvs : vp_in (nI sn) 10 := nI_v hs (by omega)
  intro k
  induction k with
  | zero =>
    intro i u w e hu hw'
    have hu1 : u = abI q ky := by rw [← hu, anyF_0, Bool.or_false]
    have hw1 : w = decide (eqI q ky < qm q) := by
      rw [← hw']
      unfold ffst
      rw [decide_eq_false (by omega), Bool.or_false]
    have bw : bI (w = true) = bI (eqI q ky < qm q) := bI_c (by rw [hw1, decide_eq_true_eq])
    have bu : bI (u = true) = bI (abI q ky = true) := by rw [hu1]
    refine wX12_priceOf_12 hK ⟨hvp, ?_⟩
    rw [nI_c (show p < 100000 by omega), nI_c (show sn < 100000 by omega), hC.1, hC.2.1, hC.2.2.1, h70, h71, ix16, nI_le' (by omega) (by omega)]
    refine bt (by omega) ⟨_, c12_levels hK hav, hvs, ?_⟩
    have h146 := (c12_146 (G := G) (d := d) (n := n) (J := J) (O := O) (av := av) hK hq hC hp hs hky hkd h70 h71).resolve_right (fun z => z hav)
    rw [← bw, ← bu] at h146
    rcases kd_cases hkd with rfl | rfl | rfl | rfl | rfl | rfl | rfl | rfl
    · exact sw_0 rfl rfl
    · exact sw_1 rfl rfl
    · refine sw_2 rfl ?_
      rw [if_neg (by omega)] at h146
      exact h146
    · refine sw_3 rfl ⟨hvp, ?_⟩
      rw [prN_3]
      by_cases c1 : qw q = 109
      · refine nf (leqI (c := 109) rfl c1) ⟨hvp, hvs, ?_⟩
        by_cases c2 : qr q = ky
        · refine nf (leqI rfl c2) ⟨hvp, ?_⟩
          by_cases c3 : qm q = 0
          · rw [if_pos ⟨c3, c1, c2⟩]
            exact nf (leqI (c := 0) rfl c3) rfl
          · rw [if_neg (fun z => c3 z.1)]
            exact nt (lne (c := 0) rfl (by omega) (by omega) c3) rfl
        · rw [if_neg (fun z => c2 z.2.2)]
          exact nt (lne rfl (by omega) (by omega) c2) rfl
      · rw [if_neg (fun z => c1 z.2.1)]
        exact nt (lne (c := 109) rfl (by omega) (by omega) c1) rfl
    · refine sw_4 rfl ?_
      rw [prN_4]
      rw [bw]
      by_cases c : eqI q ky < qm q
      · rw [if_pos c]
        refine bz_y c ?_
        rw [show nI av / 8 = nI (av / 8) from div_n (c := 8) (by omega) (by omega) (by omega), nI_1]
        rfl
      · rw [if_neg c]
        exact bz_n c rfl
    · refine sw_5 rfl ?_
      rw [if_neg (by omega)] at h146
      exact h146
    · refine sw_6 rfl ⟨_, c12_bitsCan hK hq hC hp hs hky h71, ?_⟩
      rw [prN_6]
      by_cases c : qw q = 110 ∧ qm q = 1 ∧ eqI q ky < qm q
      · rw [if_pos (by rw [canB_6]; exact c)]
        exact bz_y c rfl
      · rw [if_neg (by rw [canB_6]; exact c)]
        exact bz_n c rfl
    · refine sw_7 rfl ?_
      rw [prN_7]
      by_cases c : fsB q (qr q) ky = true
      · rw [if_pos ⟨rfl, c⟩] at h146
        rw [if_pos c]
        exact h146
      · rw [if_neg (fun z => c z.2)] at h146
        rw [if_neg c]
        exact h146
  | succ k ih =>
    intro i u w e hu hw'
    have hi : i < qm q := by omega
    have y2 := c12_isAbout (G := G) (d := d + 2) (n := n) (J := J) (O := O) hK hq hC hp hs hky h71 hi
    have e2 := (hC.2.2.2 i hi).2.1
    have g2 := (hq.1.2 i hi).2.1
    rw [anyF_s] at hu
    rw [ffst_s] at hw'
    have next : ∀ (x5 : Int32) (w' : Bool) (u' : Bool), w' = (w || eqp q ky i) → u' = (u || decide (qf q i = ky)) → Ev G (d + 3) mX12_priceOf 12 [(0, .ref 57), (1, .int (nI sn)), (2, .int (nI p)), (3, .int (nI av)), (4, .int (bI (u' = true))), (5, .int (bI (w' = true))), (6, .int (nI (16 * p + i) + 1))] (K, n, V, J, O) (some (.int (opI (prN q kd ky av)))) (K, n, V, J, O) := fun x5 w' u' h1 h2 => by
      have := ih (i + 1) u' w' (by omega) (by rw [h2, ← hu, Bool.or_assoc]) (by
        rw [h1, ← hw']
        by_cases c : eqp q ky i = true
        · rw [c, if_pos rfl, decide_eq_true hi]
          simp
        · rw [if_neg c]
          have : eqp q ky i = false := by simpa using c
          rw [this, Bool.or_false])
      rw [nI_1]
      exact this
    have j77 : ∀ (u' : Bool) (x5 : Int32), (w || eqp q ky i) = true → u' = (u || decide (qf q i = ky)) → Ev G (d + 3) mX12_priceOf 77 [(0, .ref 57), (1, .int (nI sn)), (2, .int (nI p)), (3, .int (nI av)), (4, .int (bI (u' = true))), (5, .int x5), (6, .int (nI (16 * p + i)))] (K, n, V, J, O) (some (.int (opI (prN q kd ky av)))) (K, n, V, J, O) := fun u' x5 h1 h2 => wX12_priceOf_77 hK (by
      have := next x5 true u' h1.symm h2
      rw [bI_t (p := true = true) rfl] at this
      exact this)
    have j81 : ∀ (u' : Bool) (x5 : Int32), (w || eqp q ky i) = false → u' = (u || decide (qf q i = ky)) → Ev G (d + 3) mX12_priceOf 81 [(0, .ref 57), (1, .int (nI sn)), (2, .int (nI p)), (3, .int (nI av)), (4, .int (bI (u' = true))), (5, .int x5), (6, .int (nI (16 * p + i)))] (K, n, V, J, O) (some (.int (opI (prN q kd ky av)))) (K, n, V, J, O) := fun u' x5 h1 h2 => wX12_priceOf_81 hK (by
      have := next x5 false u' h1.symm h2
      rw [bI_f (p := false = true) (by decide)] at this
      exact this)
    have hin : vp_in (nI (16 * p + i)) 160 := nI_v (by omega) (by omega)
    have ix : (nI (16 * p + i)).toNatClampNeg = 16 * p + i := nI_c (by omega)
    -- behind the first question
    have tail : ∀ (u' : Bool), u' = (u || decide (qf q i = ky)) → ((bI (w = true) ≠ 0 → Ev G (d + 3) mX12_priceOf 77 [(0, .ref 57), (1, .int (nI sn)), (2, .int (nI p)), (3, .int (nI av)), (4, .int (bI (u' = true))), (5, .int (bI (w = true))), (6, .int (nI (16 * p + i)))] (K, n, V, J, O) (some (.int (opI (prN q kd ky av)))) (K, n, V, J, O)) ∧ (bI (w = true) = 0 → (∃ (v1 : Int32), Ev G (d + 2) mX12_isAbout 0 [(0, .ref 57), (1, .int (nI (16 * p + i))), (2, .int (nI sn))] (K, n, V, J, O) (some (.int v1)) (K, n, V, J, O) ∧ ((v1 = 0 → Ev G (d + 3) mX12_priceOf 81 [(0, .ref 57), (1, .int (nI sn)), (2, .int (nI p)), (3, .int (nI av)), (4, .int (bI (u' = true))), (5, .int (bI (w = true))), (6, .int (nI (16 * p + i)))] (K, n, V, J, O) (some (.int (opI (prN q kd ky av)))) (K, n, V, J, O)) ∧ (¬ v1 = 0 → (vp_in (nI (16 * p + i)) 160 ∧ (((V 64 (nI (16 * p + i)).toNatClampNeg) ≠ 61 → Ev G (d + 3) mX12_priceOf 81 [(0, .ref 57), (1, .int (nI sn)), (2, .int (nI p)), (3, .int (nI av)), (4, .int (bI (u' = true))), (5, .int (bI (w = true))), (6, .int (nI (16 * p + i)))] (K, n, V, J, O) (some (.int (opI (prN q kd ky av)))) (K, n, V, J, O)) ∧ ((V 64 (nI (16 * p + i)).toNatClampNeg) = 61 → Ev G (d + 3) mX12_priceOf 77 [(0, .ref 57), (1, .int (nI sn)), (2, .int (nI p)), (3, .int (nI av)), (4, .int (bI (u' = true))), (5, .int (bI (w = true))), (6, .int (nI (16 * p + i)))] (K, n, V, J, O) (some (.int (opI (prN q kd ky av)))) (K, n, V, J, O))))))))) := by
      intro u' hu'
      cases w with
      | true => exact bn_y rfl (j77 u' _ rfl hu')
      | false =>
        refine bn_n (by decide) ⟨_, y2, ?_⟩
        rw [ix, e2]
        by_cases c1 : qf q i = ky
        · refine bz_y c1 ⟨hin, ?_⟩
          by_cases c2 : qs q i = 61
          · exact nf (leqI (c := 61) rfl c2) (j77 u' _ (by unfold eqp; rw [decide_eq_true c1, decide_eq_true c2]; rfl) hu')
          · exact nt (lne (c := 61) rfl (by omega) (by omega) c2) (j81 u' _ (by unfold eqp; rw [decide_eq_false c2, Bool.and_false]; rfl) hu')
        · exact bz_n c1 (j81 u' _ (by unfold eqp; rw [decide_eq_false c1, Bool.false_and]; rfl) hu')
    refine wX12_priceOf_12 hK ⟨hvp, ?_⟩
    rw [nI_c (show p < 100000 by omega), hC.1, ix16, nI_le' (by omega) (by omega)]
    refine bf (by omega) ?_
    have t43 : ∀ x4 : Int32, (u || decide (qf q i = ky)) = true → Ev G (d + 3) mX12_priceOf 43 [(0, .ref 57), (1, .int (nI sn)), (2, .int (nI p)), (3, .int (nI av)), (4, .int x4), (5, .int (bI (w = true))), (6, .int (nI (16 * p + i)))] (K, n, V, J, O) (some (.int (opI (prN q kd ky av)))) (K, n, V, J, O) := fun x4 h1 => wX12_priceOf_43 hK (by
      have := tail true h1.symm
      rw [bI_t (p := true = true) rfl] at this
      exact this)
    cases u with
    | true => exact bn_y rfl (t43 _ rfl)
    | false =>
      refine bn_n (by decide) ⟨_, y2, ?_⟩
      by_cases c1 : qf q i = ky
      · exact bz_y c1 (t43 _ (by rw [decide_eq_true c1]; rfl))
      · refine bz_n c1 ?_
        have := tail false (by rw [decide_eq_false c1]; rfl)
        rw [bI_f (p := false = true) (by decide)] at this
        exact this
theorem c12_priceOf (hK : StK K) (hq : Qok q) (hC : QM p q V) (hp : p < 10) (hs : sn < 10) (hky : ky < 4) (hkd : kd ≤ 7) (h70 : V 70 sn = nI kd) (h71 : V 71 sn = nI ky) (hav : av ≤ 999) : Ev G (d + 3) mX12_priceOf 0 [(0, .ref 57), (1, .int (nI sn)), (2, .int (nI p)), (3, .int (nI av))] (K, n, V, J, O) (some (.int (opI (prN q kd ky av)))) (K, n, V, J, O) := by
  have z := c12_price12 (G := G) (d := d) (n := n) (J := J) (O := O) hK hq hC hp hs hky hkd h70 h71 hav (qm q) 0 false false (by omega) (by unfold abI; rfl) (by unfold eqI; rfl)
  rw [bI_f (by decide), Nat.add_zero] at z
  refine wX12_priceOf_0 hK ?_
  rw [ix16']
  exact z
end
section
variable {G : Gp} {d : Nat} {K : SK} {n : Nat × Nat} {V V' : SV} {J : SJV} {O : SO} {r : Option Value}
variable {nS nT nA nG : Nat} {ad kd ky aa ofn : Nat → Nat} {fl : Nat → Nat → Nat} {ins : Nat → Bool} {wt : Nat → Nat} {x : Nat → SX} {qq : Nat → QD} {A B : Nat}
theorem p_price (hK : StK K) (hS : StR nS nT ad kd ky fl ins K O x V) (hA : AkO nA aa ofn K O V) (hQ : AskR nA aa qq V) {x1 x2 x3 : Int32} : ∃ (r : Int32), Ev G (d + 5) mX11_price 0 [(0, .ref 0), (1, .int x1), (2, .int x2), (3, .int x3)] (K, n, V, J, O) (some (.int r)) (K, n, V, J, O) ∧ Ev G (d + 5) mX12_price 0 [(0, .ref 57), (1, .int x1), (2, .int x2), (3, .int x3)] (K, n, V, J, O) (some (.int r)) (K, n, V, J, O) := by
  by_cases h1 : ∃ i, i < nS ∧ x1 = nI i
  · obtain ⟨i, hi, rfl⟩ := h1
    have a1 := c11_stoneAt (G := G) (d := d + 3) (n := n) (J := J) hK hS hi
    have a2 := c12_isStone (G := G) (d := d + 4) (n := n) (J := J) hK hS hi
    obtain ⟨⟨s1, s2, s3, s4⟩, s5, s6, s7⟩ := hS
    obtain ⟨⟨⟨h96, hkd, hky⟩, hO, hIs⟩, ⟨n1, n2⟩, -⟩ := s5 i hi
    obtain ⟨-, ⟨m1, m2⟩, -⟩ := s6 i hi
    by_cases h2 : ∃ p, p < nA ∧ x2 = nI p
    · obtain ⟨p, hp, rfl⟩ := h2
      have b1 := c11_askAt (G := G) (d := d + 3) (n := n) (J := J) hK hA hp
      have b2 := c12_isAsk (G := G) (d := d + 4) (n := n) (J := J) hK hA hp
      have hIa := (hA.2.2 p hp).1.2.2
      have hA10 := hA.1.1
      obtain ⟨q1, q2, q3⟩ := hQ p hp
      by_cases h3 : ∃ c, (1 ≤ c ∧ c ≤ 999) ∧ x3 = nI c
      · obtain ⟨c, hc, rfl⟩ := h3
        obtain ⟨M, e1, e2⟩ := c_priceFor (G := G) (d := d) (n := n) (J := J) (O := O) hK hkd hIs hIa q1 q2 hky n2 hc.2
        have e3 := c12_priceOf (G := G) (d := d + 1) (n := n) (J := J) (O := O) hK q1 q3 (show p < 10 by omega) (show i < 10 by omega) hky hkd m1 m2 hc.2
        exact ⟨_, wX11_price_0 hK ⟨_, a1, Or.inr ⟨ad i, kc (kd i), ky i, rfl, hIs, kc_in hkd, _, b1, Or.inr ⟨aa p, rfl, hIa, _, ev_b (c11_isSize hK) ((btw1_iff (N := 999) (by decide)).mpr ⟨c, hc, rfl⟩), nt one0 ⟨M, e1, _, e2, rfl⟩⟩⟩⟩, wX12_price_0 hK ⟨_, a2, bf one0 ⟨_, b2, bf one0 ⟨_, ev_b (c12_isSize hK) ((btw1_iff (N := 999) (by decide)).mpr ⟨c, hc, rfl⟩), bf one0 ⟨_, e3, rfl⟩⟩⟩⟩⟩
      · exact ⟨-1, wX11_price_0 hK ⟨_, a1, Or.inr ⟨ad i, kc (kd i), ky i, rfl, hIs, kc_in hkd, _, b1, Or.inr ⟨aa p, rfl, hIa, _, ev_n (c11_isSize hK) (fun q => h3 ((btw1_iff (N := 999) (by decide)).mp q)), nf rfl rfl⟩⟩⟩, wX12_price_0 hK ⟨_, a2, bf one0 ⟨_, b2, bf one0 ⟨_, ev_n (c12_isSize hK) (fun q => h3 ((btw1_iff (N := 999) (by decide)).mp q)), bt rfl rfl⟩⟩⟩⟩
    · exact ⟨-1, wX11_price_0 hK ⟨_, a1, Or.inr ⟨ad i, kc (kd i), ky i, rfl, hIs, kc_in hkd, _, c11_askNo hK hA h2, Or.inl ⟨rfl, rfl⟩⟩⟩, wX12_price_0 hK ⟨_, a2, bf one0 ⟨_, c12_isAskNo hK hA h2, bt rfl rfl⟩⟩⟩
  · refine ⟨-1, wX11_price_0 hK ⟨_, c11_stoneNo hK hS h1, Or.inl ⟨rfl, ?_⟩⟩, wX12_price_0 hK ⟨_, c12_isStoneNo hK hS h1, bt rfl rfl⟩⟩
    by_cases h2 : ∃ p, p < nA ∧ x2 = nI p
    · obtain ⟨p, hp, rfl⟩ := h2
      exact ⟨_, c11_askAt (G := G) (d := d + 3) (n := n) (J := J) hK hA hp, Or.inr ⟨aa p, rfl, (hA.2.2 p hp).1.2.2, rfl⟩⟩
    · exact ⟨_, c11_askNo hK hA h2, Or.inl ⟨rfl, rfl⟩⟩
end
