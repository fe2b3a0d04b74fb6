/-! ===== leastPlan ===== -/
theorem pcN_le {a : Nat} (h : a < 4294967296) : pcN a ≤ 32 := by
  have h0 := (t8 (a % 256) (Nat.mod_lt _ (by decide))).2.2.2.2
  have h1 := (t8 (a / 256 % 256) (Nat.mod_lt _ (by decide))).2.2.2.2
  have h2 := (t8 (a / 65536 % 256) (Nat.mod_lt _ (by decide))).2.2.2.2
  have h3 := (t8 (a / 16777216) (by omega)).2.2.2.2
  unfold pcN
  generalize pc8 (a % 256) = x0 at *
  generalize pc8 (a / 256 % 256) = x1 at *
  generalize pc8 (a / 65536 % 256) = x2 at *
  generalize pc8 (a / 16777216) = x3 at *
  omega
/-- a plan of at most k stones: its price and how many they are, as one number -/
def lpC (F : Nat → Option Nat) (k m i : Nat) : Option Nat := if i < m ∧ pcN i ≤ k then (match F i with
  | none => none
  | some v => some (v * 64 + pcN i)) else none
theorem lpC_y {F : Nat → Option Nat} {k m i v : Nat} (h1 : i < m) (h2 : pcN i ≤ k) (h3 : F i = some v) : lpC F k m i = some (v * 64 + pcN i) := by
  unfold lpC
  rw [if_pos ⟨h1, h2⟩, h3]
theorem lpC_n {F : Nat → Option Nat} {k m i : Nat} (h : ¬ pcN i ≤ k ∨ F i = none) : lpC F k m i = none := by
  unfold lpC
  by_cases c : i < m ∧ pcN i ≤ k
  · rw [if_pos c]
    rcases h with h | h
    · exact absurd c.2 h
    · rw [h]
  · rw [if_neg c]
theorem sub_tiB {a b : Nat} (ha : a < 1000000000) (hb : b < 1000000000) : (nI a - nI b).toInt = (a : Int) - b := by
  rw [Int32.toInt_sub, nI_toInt (by omega), nI_toInt (by omega)]
  exact Int.bmod_eq_of_le (by omega) (by omega)
section
variable {G : Gp} {d : Nat} {K : SK} {n : Nat × Nat} {V V' : SV} {J : SJV} {O : SO} {r : Option Value}
variable {nS nT nA nG av puts bits k : Nat} {ad kd ky aa ofn : Nat → Nat} {fl : Nat → Nat → Nat} {ins : Nat → Bool} {wt : Nat → Nat} {x : Nat → SX} {qq : Nat → QD} {A B : Nat}
def bpI (F : Nat → Option Nat) (o : Option Nat) : Int32 := match o with
  | none => 0
  | some b => opI (F b)
theorem c11_least44 (hK : StK K) (h7 : V 0 7 = nI nS) (hA : AkO nA aa ofn K O V) {P : Nat → Nat → Option Nat} {pp : Nat → Nat} (hP : PT nS nA P pp V) (hPv : ∀ p i v, p < nA → P p i = some v → v ≤ 1009) (hpp : ∀ i, pp i ≤ 600) (h9 : puts ≤ 999) (hS10 : nS ≤ 10) (hk : k ≤ 4) {x1 : Int32} : ∀ (w i : Nat) (o : Option Nat) (V1 : SV), i + w = 2 ^ nS → fr (fun a _ => a = 46) V V1 → (∀ b, o = some b → b < 2 ^ nS ∧ ∃ v, planN P pp ofn nS nA b puts = some v ∧ lpC (fun i => planN P pp ofn nS nA i puts) k (2 ^ nS) b = some (v * 64 + pcN b)) → ∃ V', Ev G (d + 3) mX11_leastPlan 44 [(0, .ref 0), (1, .int x1), (2, .int (nI puts)), (3, .int (nI k)), (4, .int (opI o)), (5, .int (bpI (fun i => planN P pp ofn nS nA i puts) o)), (6, .int (nI i))] (K, n, V1, J, O) (some (.int (opI (upR (lpC (fun i => planN P pp ofn nS nA i puts) k (2 ^ nS)) w i o)))) (K, n, V', J, O) ∧ fr (fun a _ => a = 46) V V' := by
  have h2p := pow_le hS10
  have hpl : ∀ b v, planN P pp ofn nS nA b puts = some v → v ≤ 7000000 := fun b v h => planN_le (fun j i v hj h => hPv j i v hj h) (fun j hj => (hA.2.2 j hj).2.2.2) hpp h9 hS10 hA.1.1 h
  intro w
  induction w with
  | zero =>
    intro i o V1 e hf ho
    refine ⟨V1, wX11_leastPlan_44 hK (bt ?_ ⟨rfl, rfl⟩), hf⟩
    rw [hf _ _ (by omega), h7, shl1 (by omega), nI_le' (by omega) (by omega)]
    omega
  | succ w ih =>
    intro i o V1 e hf ho
    have hi : i < 2 ^ nS := by omega
    have hbc := j_bitCount (G := G) (d := d + 2) (n := n) (V := V1) (J := J) (O := O) hK (show i < 4294967296 by omega)
    have p32 := pcN_le (a := i) (by omega)
    have hcond : ¬ (1 : Int32) <<< ((V1 0 7) &&& 31) ≤ nI i := by
      rw [hf _ _ (by omega), h7, shl1 (by omega), nI_le' (by omega) (by omega)]
      omega
    show ∃ V', Ev G (d + 3) mX11_leastPlan 44 _ _ (some (.int (opI (upR (lpC (fun i => planN P pp ofn nS nA i puts) k (2 ^ nS)) w (i + 1) (upS (lpC (fun i => planN P pp ofn nS nA i puts) k (2 ^ nS)) o i))))) _ ∧ _
    by_cases c1 : pcN i ≤ k
    · obtain ⟨V2, z1, z2⟩ := c11_planned (G := G) (d := d) (n := n) (J := J) (bits := i) hK (show V1 0 7 = nI nS by rw [hf _ _ (by omega)]; exact h7) (AkO_46 hA (fr_mo hf (fun a k q => by omega))) (PT_46 hA.1.1 hP hf) hPv hpp h9 hS10 (show i < 100000 by omega)
      have f2 : fr (fun a _ => a = 46) V V2 := fr_mo (fr_tr hf z2) (fun a k q => q.elim id id)
      have start := fun (V' : SV) (r : Option Value) hh => wX11_leastPlan_44 (G := G) (d := d + 2) (K := K) (n := n) (V := V1) (V' := V') (J := J) (O := O) (r := r) (x1 := x1) (x2 := nI puts) (x3 := nI k) (x4 := opI o) (x5 := bpI (fun i => planN P pp ofn nS nA i puts) o) (x6 := nI i) hK (bf hcond ⟨_, hbc, bt (by rw [nI_le' (by omega) (by omega)]; exact c1) ⟨_, V2, z1, hh⟩⟩)
      rw [nI_1] at start
      cases ep : planN P pp ofn nS nA i puts with
      | none =>
        have eu : upS (lpC (fun i => planN P pp ofn nS nA i puts) k (2 ^ nS)) o i = o := by
          unfold upS
          rw [lpC_n (F := fun i => planN P pp ofn nS nA i puts) (Or.inr ep)]
        rw [eu]
        obtain ⟨V3, y1, y2⟩ := ih (i + 1) o V2 (by omega) f2 ho
        rw [ep] at start
        exact ⟨V3, start _ _ (nf rfl y1), y2⟩
      | some v =>
        have hv := hpl i v ep
        rw [ep] at start
        have ec := lpC_y (F := fun i => planN P pp ofn nS nA i puts) (k := k) hi c1 ep
        have hne : opI (some v) ≠ -2 := by
          show nI v ≠ -2
          intro z
          have := congrArg Int32.toInt z
          rw [nI_toInt (by omega)] at this
          have e1 : (-2 : Int32).toInt = -2 := by decide
          omega
        obtain ⟨V3, y1, y2⟩ := ih (i + 1) (some i) V2 (by omega) f2 (fun b h => by cases h; exact ⟨hi, v, ep, ec⟩)
        have y1' : Ev G (d + 3) mX11_leastPlan 44 [(0, .ref 0), (1, .int x1), (2, .int (nI puts)), (3, .int (nI k)), (4, .int (nI i)), (5, .int (opI (some v))), (6, .int (nI (i + 1)))] (K, n, V2, J, O) (some (.int (opI (upR (lpC (fun i => planN P pp ofn nS nA i puts) k (2 ^ nS)) w (i + 1) (some i))))) (K, n, V3, J, O) := by
          have e5 : bpI (fun i => planN P pp ofn nS nA i puts) (some i) = opI (some v) := by
            show opI (planN P pp ofn nS nA i puts) = _
            rw [ep]
          rw [e5] at y1
          exact y1
        cases o with
        | none =>
          have eu : upS (lpC (fun i => planN P pp ofn nS nA i puts) k (2 ^ nS)) none i = some i := by
            unfold upS
            rw [ec]
          rw [eu]
          exact ⟨V3, start _ _ (nt hne (bt rfl y1')), y2⟩
        | some b =>
          obtain ⟨hb1, vb, hb2, hb3⟩ := ho b rfl
          have hvb := hpl b vb hb2
          have pb32 := pcN_le (a := b) (by omega)
          have eu : upS (lpC (fun i => planN P pp ofn nS nA i puts) k (2 ^ nS)) (some b) i = if v * 64 + pcN i < vb * 64 + pcN b then some i else some b := by
            unfold upS
            rw [ec]
            dsimp only
            rw [hb3]
            rfl
          rw [eu]
          obtain ⟨V4, u1, u2⟩ := ih (i + 1) (some b) V2 (by omega) f2 ho
          have ebp : bpI (fun i => planN P pp ofn nS nA i puts) (some b) = nI vb := by
            show opI (planN P pp ofn nS nA b puts) = _
            rw [hb2]
            rfl
          have hbn : ¬ opI (some b) = -2 := by
            rw [opI_m2 (fun v h => by cases h; omega)]
            simp
          have hbc2 := j_bitCount (G := G) (d := d + 2) (n := n) (V := V2) (J := J) (O := O) hK (show b < 4294967296 by omega)
          rw [ebp] at start u1 ⊢
          have l1 : (opI (some v) < nI vb) = (v < vb) := propext (nI_ltI (by omega) (by omega))
          have l2 : (opI (some v) = nI vb) = (v = vb) := propext (nI_eq (by omega) (by omega))
          rw [ne_eq, ne_eq, l1, l2] at start
          by_cases c2 : v * 64 + pcN i < vb * 64 + pcN b
          · rw [if_pos c2]
            refine ⟨V3, start _ _ ⟨fun _ => bf hbn ?_, fun z => absurd z hne⟩, y2⟩
            by_cases c3 : v < vb
            · exact bt c3 y1'
            · refine bf c3 ⟨fun z => absurd (show v = vb by omega) z, fun _ => ⟨_, hbc2, bf ?_ y1'⟩⟩
              rw [nI_le' (by omega) (by omega)]
              omega
          · rw [if_neg c2]
            refine ⟨V4, start _ _ ⟨fun _ => bf hbn (bf (by omega) ?_), fun z => absurd z hne⟩, u2⟩
            by_cases c3 : v = vb
            · refine ⟨fun z => absurd c3 z, fun _ => ⟨_, hbc2, bt ?_ u1⟩⟩
              rw [nI_le' (by omega) (by omega)]
              omega
            · exact ⟨fun _ => u1, fun z => absurd z c3⟩
    · have eu : upS (lpC (fun i => planN P pp ofn nS nA i puts) k (2 ^ nS)) o i = o := by
        unfold upS
        rw [lpC_n (Or.inl c1)]
      rw [eu]
      obtain ⟨V3, y1, y2⟩ := ih (i + 1) o V1 (by omega) hf ho
      refine ⟨V3, wX11_leastPlan_44 hK (bf hcond ⟨_, hbc, bf (by rw [nI_le' (by omega) (by omega)]; exact c1) ?_⟩), y2⟩
      rw [nI_1]
      exact y1
theorem c12_least47 (hK : StK K) (h25 : V 57 25 = nI nS) (hA : AkO nA aa ofn K O V) {P : Nat → Nat → Option Nat} {pp : Nat → Nat} (hP : PrM G K V J O nS nA av P pp) (hPv : ∀ p i v, p < nA → P p i = some v → v ≤ 1009) (hpp : ∀ i, pp i ≤ 600) (h9 : puts ≤ 999) (hS10 : nS ≤ 10) (hk : k ≤ 4) : ∀ (j : Nat) (o : Option Nat), j ≤ 2 ^ nS → (∀ b, o = some b → b < 2 ^ nS ∧ ∃ v, planN P pp ofn nS nA b puts = some v ∧ lpC (fun i => planN P pp ofn nS nA i puts) k (2 ^ nS) b = some (v * 64 + pcN b)) → Ev G (d + 6) mX12_leastPlan 47 [(0, .ref 57), (1, .int (nI av)), (2, .int (nI puts)), (3, .int (nI k)), (4, .int (opI o)), (5, .int (nI j - 1))] (K, n, V, J, O) (some (.int (opI (dnL (lpC (fun i => planN P pp ofn nS nA i puts) k (2 ^ nS)) j o)))) (K, n, V, J, O) := by
  have h2p := pow_le hS10
  have hpl : ∀ b v, planN P pp ofn nS nA b puts = some v → v ≤ 7000000 := fun b v h => planN_le (fun j i v hj h => hPv j i v hj h) (fun j hj => (hA.2.2 j hj).2.2.2) hpp h9 hS10 hA.1.1 h
  intro j
  induction j with
  | zero =>
    intro o _ _
    exact wX12_leastPlan_47 hK (bt (by decide) rfl)
  | succ j ih =>
    intro o hj ho
    have hi : j < 2 ^ nS := by omega
    have p32 := pcN_le (a := j) (by omega)
    have hbc : ∀ {V : SV}, Ev G (d + 5) mX12_countOf 0 [(0, .int (nI j))] (K, n, V, J, O) (some (.int (nI (pcN j)))) (K, n, V, J, O) := c12_countOf hK (by omega)
    have en : nI j + (-1) = nI j - 1 := by rw [Int32.sub_eq_add_neg]
    rw [nI_pred]
    show Ev G (d + 6) mX12_leastPlan 47 _ _ (some (.int (opI (dnL (lpC (fun i => planN P pp ofn nS nA i puts) k (2 ^ nS)) j (dnS (lpC (fun i => planN P pp ofn nS nA i puts) k (2 ^ nS)) o j))))) _
    have start := fun (r : Option Value) hh => wX12_leastPlan_47 (G := G) (d := d + 5) (K := K) (n := n) (V := V) (J := J) (O := O) (r := r) (x1 := nI av) (x2 := nI puts) (x3 := nI k) (x4 := opI o) (x5 := nI j) hK (bf (nI_pos (by omega)) ⟨_, hbc, hh⟩)
    rw [en, nI_l' (by omega) (by omega)] at start
    by_cases c1 : pcN j ≤ k
    · have hpo := c12_planOf (G := G) (d := d) (n := n) (J := J) (O := O) (bits := j) hK hA h25 hPv hpp h9 hS10 (by omega) hP
      cases ep : planN P pp ofn nS nA j puts with
      | none =>
        have eu : dnS (lpC (fun i => planN P pp ofn nS nA i puts) k (2 ^ nS)) o j = o := by
          unfold dnS
          rw [lpC_n (F := fun i => planN P pp ofn nS nA i puts) (Or.inr ep)]
        rw [eu]
        rw [ep] at hpo
        exact start _ (bf (by omega) ⟨_, hpo, bt (by decide) (ih o (by omega) ho)⟩)
      | some v =>
        have hv := hpl j v ep
        rw [ep] at hpo
        have ec := lpC_y (F := fun i => planN P pp ofn nS nA i puts) (k := k) hi c1 ep
        have hnn : ¬ opI (some v) < 0 := nI_pos (by omega)
        have y1 := ih (some j) (by omega) (fun b h => by cases h; exact ⟨hi, v, ep, ec⟩)
        cases o with
        | none =>
          have eu : dnS (lpC (fun i => planN P pp ofn nS nA i puts) k (2 ^ nS)) none j = some j := by
            unfold dnS
            rw [ec]
          rw [eu]
          exact start _ (bf (by omega) ⟨_, hpo, bf hnn (bf (by decide) y1)⟩)
        | some b =>
          obtain ⟨hb1, vb, hb2, hb3⟩ := ho b rfl
          have hvb := hpl b vb hb2
          have pb32 := pcN_le (a := b) (by omega)
          have eu : dnS (lpC (fun i => planN P pp ofn nS nA i puts) k (2 ^ nS)) (some b) j = if v * 64 + pcN j ≤ vb * 64 + pcN b then some j else some b := by
            unfold dnS
            rw [ec]
            dsimp only
            rw [hb3]
            rfl
          rw [eu]
          have hpb := c12_planOf (G := G) (d := d) (n := n) (J := J) (O := O) (bits := b) hK hA h25 hPv hpp h9 hS10 (by omega) hP
          rw [hb2] at hpb
          have hbc2 : Ev G (d + 5) mX12_countOf 0 [(0, .int (nI b))] (K, n, V, J, O) (some (.int (nI (pcN b)))) (K, n, V, J, O) := c12_countOf hK (by omega)
          have u1 := ih (some b) (by omega) ho
          have l1 : (opI (some v) - opI (some vb) < 0) = (v < vb) := by
            rw [Int32.lt_iff_toInt_lt, show (opI (some v) - opI (some vb)).toInt = (v : Int) - vb from sub_tiB (by omega) (by omega), z_ti]
            apply propext
            omega
          have l2 : (opI (some v) - opI (some vb) = 0) = (v = vb) := by
            rw [← Int32.toInt_inj, show (opI (some v) - opI (some vb)).toInt = (v : Int) - vb from sub_tiB (by omega) (by omega), z_ti]
            apply propext
            omega
          refine start _ (bf (by omega) ⟨_, hpo, bf hnn (bt (nI_pos' (show b < 2 ^ 31 by omega)) ⟨_, hpb, ?_⟩)⟩)
          rw [ne_eq, l1, l2]
          by_cases c2 : v * 64 + pcN j ≤ vb * 64 + pcN b
          · rw [if_pos c2]
            by_cases c3 : v < vb
            · exact bt c3 y1
            · refine bf c3 ⟨fun z => absurd (show v = vb by omega) z, fun _ => ⟨_, hbc, _, hbc2, bf ?_ y1⟩⟩
              rw [nI_l' (by omega) (by omega)]
              omega
          · rw [if_neg c2]
            refine bf (by omega) ?_
            by_cases c3 : v = vb
            · refine ⟨fun z => absurd c3 z, fun _ => ⟨_, hbc, _, hbc2, bt ?_ u1⟩⟩
              rw [nI_l' (by omega) (by omega)]
              omega
            · exact ⟨fun _ => u1, fun z => absurd z c3⟩
    · have eu : dnS (lpC (fun i => planN P pp ofn nS nA i puts) k (2 ^ nS)) o j = o := by
        unfold dnS
        rw [lpC_n (Or.inl c1)]
      rw [eu]
      exact start _ (bt (by omega) (ih o (by omega) ho))
theorem p_leastPlan (hK : StK K) (hS : StR nS nT ad kd ky fl ins K O x V) (hA : AkO nA aa ofn K O V) (hQ : AskR nA aa qq V) {x1 x2 x3 : Int32} : ∃ (r : Int32) (V1 : SV), Ev G (d + 7) mX11_leastPlan 0 [(0, .ref 0), (1, .int x1), (2, .int x2), (3, .int x3)] (K, n, V, J, O) (some (.int r)) (K, n, V1, J, O) ∧ Ev G (d + 7) mX12_leastPlan 0 [(0, .ref 57), (1, .int x1), (2, .int x2), (3, .int x3)] (K, n, V1, J, O) (some (.int r)) (K, n, V1, J, O) ∧ fr (fun a _ => 35 ≤ a ∧ a ≤ 46) V V1 := by
  have hS10 := hS.1.1
  have h2p := pow_le hS10
  have h7 := hS.1.2.2.1
  have h25 := hS.1.2.2.2
  by_cases h2 : ∃ c, (1 ≤ c ∧ c ≤ 999) ∧ x1 = nI c
  · obtain ⟨av, hc, rfl⟩ := h2
    have w1 : ∀ {V : SV}, Ev G (d + 6) mX11_isSize 0 [(0, .int (nI av))] (K, n, V, J, O) (some (.int 1)) (K, n, V, J, O) := ev_b (c11_isSize hK) ((btw1_iff (N := 999) (by decide)).mpr ⟨av, hc, rfl⟩)
    have w2 : ∀ {V : SV}, Ev G (d + 6) mX12_isSize 0 [(0, .int (nI av))] (K, n, V, J, O) (some (.int 1)) (K, n, V, J, O) := ev_b (c12_isSize hK) ((btw1_iff (N := 999) (by decide)).mpr ⟨av, hc, rfl⟩)
    by_cases h3 : ∃ c, c ≤ 999 ∧ x2 = nI c
    · obtain ⟨puts, h9, rfl⟩ := h3
      have w3 : ∀ {V : SV}, Ev G (d + 6) mX11_isWithin 0 [(0, .int (nI puts)), (1, .int 0), (2, .int 999)] (K, n, V, J, O) (some (.int 1)) (K, n, V, J, O) := x_wi (N := 999) hK (by decide) h9
      have w4 : ∀ {V : SV}, Ev G (d + 6) mX12_within 0 [(0, .long (nI puts).toInt64), (2, .long (0 : Int64)), (4, .long (999 : Int64))] (K, n, V, J, O) (some (.int 1)) (K, n, V, J, O) := m_wi (N := 999) hK (by decide) (by decide) h9
      by_cases h4 : ∃ c, (1 ≤ c ∧ c ≤ 4) ∧ x3 = nI c
      · obtain ⟨k, hk, rfl⟩ := h4
        have w5 : ∀ {V : SV}, Ev G (d + 6) mX11_isWithin 0 [(0, .int (nI k)), (1, .int 1), (2, .int 4)] (K, n, V, J, O) (some (.int 1)) (K, n, V, J, O) := ev_b (c11_isWithin hK) ((btw1_iff (N := 4) (by decide)).mpr ⟨k, hk, rfl⟩)
        have w6 : ∀ {V : SV}, Ev G (d + 6) mX12_within 0 [(0, .long (nI k).toInt64), (2, .long (1 : Int64)), (4, .long (4 : Int64))] (K, n, V, J, O) (some (.int 1)) (K, n, V, J, O) := ev_b (c12_wi hK (lo := 1) (hi := 4) (by decide) (by decide)) ((btw1_iff (N := 4) (by decide)).mpr ⟨k, hk, rfl⟩)
        obtain ⟨V1, z1, z2, z3⟩ := c11_learn (G := G) (d := d + 1) (n := n) (J := J) hK hS hA hQ hc.2
        have f1 : fr (fun a _ => 35 ≤ a ∧ a ≤ 46) V V1 := fr_mo z3 (fun a k q => by omega)
        have z2' : PT nS nA (fun p i => if i < nS then prN (qq p) (kd i) (ky i) av else none) (fun i => ppN (kd i) av) V1 := ⟨z2.1, fun p i hp hi => by rw [z2.2 p i hp hi]; dsimp only; rw [if_pos hi]⟩
        have hPv := prN_all (nA := nA) (qq := qq) hS hc.2
        obtain ⟨V2, y2, y3⟩ := c11_least44 (G := G) (d := d + 4) (n := n) (J := J) (x1 := nI av) (V := V1) hK (by rw [f1 _ _ (by omega)]; exact h7) (AkO_46 hA f1) z2' hPv (fun i => ppN_le hc.2) h9 hS10 hk.2 (2 ^ nS) 0 none V1 (by omega) fr_rfl (fun b h => by cases h)
        have f2 : fr (fun a _ => 35 ≤ a ∧ a ≤ 46) V V2 := fr_mo (fr_tr f1 y3) (fun a k q => by omega)
        have hS2 := StR_46 hS f2
        have hA2 := AkO_46 hA f2
        have hP2 := PrM_any (G := G) (J := J) hK hS2 hA2 (AskR_46 hQ hA f2) hc.2
        have hP2' : PrM G K V2 J O nS nA av (fun p i => if i < nS then prN (qq p) (kd i) (ky i) av else none) (fun i => ppN (kd i) av) := ⟨fun p i hp hi d n => by dsimp only; rw [if_pos hi]; exact hP2.1 p i hp hi d n, hP2.2⟩
        have u1 := c12_least47 (G := G) (d := d + 1) (n := n) hK hS2.1.2.2.2 hA2 hP2' hPv (fun i => ppN_le hc.2) h9 hS10 hk.2 (2 ^ nS) none (Nat.le_refl _) (fun b h => by cases h)
        rw [← up_dn] at u1
        exact ⟨_, V2, wX11_leastPlan_0 hK ⟨_, w1, bf one0 ⟨_, w3, bf one0 ⟨_, w5, nt one0 ⟨V1, z1, y2⟩⟩⟩⟩, wX12_leastPlan_0 hK ⟨_, w2, bf one0 ⟨_, w4, bf one0 ⟨_, w6, nt one0 (by rw [hS2.1.2.2.2, shl1 (by omega)]; exact u1)⟩⟩⟩, f2⟩
      · have b1 : ∀ {V : SV}, Ev G (d + 6) mX11_isWithin 0 [(0, .int x3), (1, .int 1), (2, .int 4)] (K, n, V, J, O) (some (.int 0)) (K, n, V, J, O) := ev_n (c11_isWithin hK) (fun q => h4 ((btw1_iff (N := 4) (by decide)).mp q))
        have b2 : ∀ {V : SV}, Ev G (d + 6) mX12_within 0 [(0, .long x3.toInt64), (2, .long (1 : Int64)), (4, .long (4 : Int64))] (K, n, V, J, O) (some (.int 0)) (K, n, V, J, O) := ev_n (c12_wi hK (lo := 1) (hi := 4) (by decide) (by decide)) (fun q => h4 ((btw1_iff (N := 4) (by decide)).mp q))
        exact ⟨-1, V, wX11_leastPlan_0 hK ⟨_, w1, bf one0 ⟨_, w3, bf one0 ⟨_, b1, nf rfl ⟨rfl, rfl⟩⟩⟩⟩, wX12_leastPlan_0 hK ⟨_, w2, bf one0 ⟨_, w4, bf one0 ⟨_, b2, nf rfl rfl⟩⟩⟩, fr_rfl⟩
    · exact ⟨-1, V, wX11_leastPlan_0 hK ⟨_, w1, bf one0 ⟨_, x_win (N := 999) hK (by decide) h3, bt rfl ⟨rfl, rfl⟩⟩⟩, wX12_leastPlan_0 hK ⟨_, w2, bf one0 ⟨_, m_win (N := 999) hK (by decide) (by decide) h3, bt rfl rfl⟩⟩, fr_rfl⟩
  · exact ⟨-1, V, wX11_leastPlan_0 hK ⟨_, ev_n (c11_isSize hK) (fun q => h2 ((btw1_iff (N := 999) (by decide)).mp q)), bt rfl ⟨rfl, rfl⟩⟩, wX12_leastPlan_0 hK ⟨_, ev_n (c12_isSize hK) (fun q => h2 ((btw1_iff (N := 999) (by decide)).mp q)), bt rfl rfl⟩, fr_rfl⟩
end
