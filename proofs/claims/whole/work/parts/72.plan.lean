/-! ===== plans: the cheapest, sums ===== -/
def isBst (c : Nat → Option Nat) (lo hi : Nat) (o : Option Nat) : Prop := match o with
  | none => ∀ i, lo ≤ i → i < hi → c i = none
  | some b => (lo ≤ b ∧ b < hi) ∧ ∃ v, c b = some v ∧ ∀ i w, lo ≤ i → i < hi → c i = some w → v < w ∨ (v = w ∧ b ≤ i)
theorem isBst_u {c : Nat → Option Nat} {lo hi : Nat} {o o' : Option Nat} (h : isBst c lo hi o) (h' : isBst c lo hi o') : o = o' := by
  cases o with
  | none =>
    cases o' with
    | none => rfl
    | some b =>
      obtain ⟨⟨h1, h2⟩, v, h3, -⟩ := h'
      have := h b h1 h2
      rw [h3] at this
      cases this
  | some a =>
    obtain ⟨⟨a1, a2⟩, v, a3, a4⟩ := h
    cases o' with
    | none =>
      have := h' a a1 a2
      rw [a3] at this
      cases this
    | some b =>
      obtain ⟨⟨b1, b2⟩, w, b3, b4⟩ := h'
      have x1 := a4 b w b1 b2 b3
      have x2 := b4 a v a1 a2 a3
      congr 1
      omega
def upS (c : Nat → Option Nat) (o : Option Nat) (i : Nat) : Option Nat := match c i with
  | none => o
  | some w => match o with
    | none => some i
    | some b => if w < (c b).getD 0 then some i else o
def dnS (c : Nat → Option Nat) (o : Option Nat) (i : Nat) : Option Nat := match c i with
  | none => o
  | some w => match o with
    | none => some i
    | some b => if w ≤ (c b).getD 0 then some i else o
theorem isBst_up {c : Nat → Option Nat} {i : Nat} {o : Option Nat} (h : isBst c 0 i o) : isBst c 0 (i + 1) (upS c o i) := by
  unfold upS
  cases hc : c i with
  | none =>
    dsimp only
    cases o with
    | none =>
      intro j h1 h2
      by_cases e : j = i
      · rw [e]; exact hc
      · exact h j h1 (by omega)
    | some b =>
      obtain ⟨⟨h1, h2⟩, v, h3, h4⟩ := h
      refine ⟨⟨h1, by omega⟩, v, h3, fun j w j1 j2 j3 => ?_⟩
      by_cases e : j = i
      · rw [e, hc] at j3; cases j3
      · exact h4 j w j1 (by omega) j3
  | some w =>
    cases o with
    | none =>
      refine ⟨⟨Nat.zero_le _, by omega⟩, w, hc, fun j w' j1 j2 j3 => ?_⟩
      by_cases e : j = i
      · rw [e, hc] at j3; cases j3
        exact Or.inr ⟨rfl, by omega⟩
      · have := h j j1 (by omega)
        rw [this] at j3; cases j3
    | some b =>
      obtain ⟨⟨h1, h2⟩, v, h3, h4⟩ := h
      dsimp only
      rw [h3]
      show isBst c 0 (i + 1) (if w < v then some i else some b)
      by_cases hw : w < v
      · rw [if_pos hw]
        refine ⟨⟨Nat.zero_le _, by omega⟩, w, hc, fun j w' j1 j2 j3 => ?_⟩
        by_cases e : j = i
        · rw [e, hc] at j3; cases j3
          exact Or.inr ⟨rfl, by omega⟩
        · have := h4 j w' j1 (by omega) j3
          omega
      · rw [if_neg hw]
        refine ⟨⟨h1, by omega⟩, v, h3, fun j w' j1 j2 j3 => ?_⟩
        by_cases e : j = i
        · rw [e, hc] at j3; cases j3
          omega
        · exact h4 j w' j1 (by omega) j3
theorem isBst_dn {c : Nat → Option Nat} {j hi : Nat} {o : Option Nat} (hj : j < hi) (h : isBst c (j + 1) hi o) : isBst c j hi (dnS c o j) := by
  unfold dnS
  cases hc : c j with
  | none =>
    dsimp only
    cases o with
    | none =>
      intro i h1 h2
      by_cases e : i = j
      · rw [e]; exact hc
      · exact h i (by omega) h2
    | some b =>
      obtain ⟨⟨h1, h2⟩, v, h3, h4⟩ := h
      refine ⟨⟨by omega, h2⟩, v, h3, fun i w j1 j2 j3 => ?_⟩
      by_cases e : i = j
      · rw [e, hc] at j3; cases j3
      · exact h4 i w (by omega) j2 j3
  | some w =>
    cases o with
    | none =>
      refine ⟨⟨Nat.le_refl _, hj⟩, w, hc, fun i w' j1 j2 j3 => ?_⟩
      by_cases e : i = j
      · rw [e, hc] at j3; cases j3
        exact Or.inr ⟨rfl, by omega⟩
      · have := h i (by omega) j2
        rw [this] at j3; cases j3
    | some b =>
      obtain ⟨⟨h1, h2⟩, v, h3, h4⟩ := h
      dsimp only
      rw [h3]
      show isBst c j hi (if w ≤ v then some j else some b)
      by_cases hw : w ≤ v
      · rw [if_pos hw]
        refine ⟨⟨Nat.le_refl _, hj⟩, w, hc, fun i w' j1 j2 j3 => ?_⟩
        by_cases e : i = j
        · rw [e, hc] at j3; cases j3
          exact Or.inr ⟨rfl, by omega⟩
        · have := h4 i w' (by omega) j2 j3
          omega
      · rw [if_neg hw]
        refine ⟨⟨by omega, h2⟩, v, h3, fun i w' j1 j2 j3 => ?_⟩
        by_cases e : i = j
        · rw [e, hc] at j3; cases j3
          omega
        · exact h4 i w' (by omega) j2 j3
def upR (c : Nat → Option Nat) : Nat → Nat → Option Nat → Option Nat
  | 0, _, o => o
  | k + 1, i, o => upR c k (i + 1) (upS c o i)
def dnL (c : Nat → Option Nat) : Nat → Option Nat → Option Nat
  | 0, o => o
  | j + 1, o => dnL c j (dnS c o j)
theorem upR_b {c : Nat → Option Nat} : ∀ {k i : Nat} {o : Option Nat}, isBst c 0 i o → isBst c 0 (i + k) (upR c k i o)
  | 0, _, _, h => h
  | k + 1, i, o, h => by
    have := upR_b (k := k) (isBst_up h)
    rw [show i + 1 + k = i + (k + 1) by omega] at this
    exact this
theorem dnL_b {c : Nat → Option Nat} {hi : Nat} : ∀ {j : Nat} {o : Option Nat}, j ≤ hi → isBst c j hi o → isBst c 0 hi (dnL c j o)
  | 0, _, _, h => h
  | j + 1, o, hj, h => dnL_b (j := j) (by omega) (isBst_dn (by omega) h)
theorem up_dn {c : Nat → Option Nat} {hi : Nat} : upR c hi 0 none = dnL c hi none := by
  refine isBst_u (c := c) (lo := 0) (hi := hi) ?_ (dnL_b (Nat.le_refl _) (fun i h1 h2 => by omega))
  have := upR_b (c := c) (k := hi) (i := 0) (o := none) (fun i h1 h2 => by omega)
  rw [Nat.zero_add] at this
  exact this
theorem upR_in {c : Nat → Option Nat} {hi b : Nat} (h : upR c hi 0 none = some b) : b < hi ∧ ∃ v, c b = some v := by
  have := upR_b (c := c) (k := hi) (i := 0) (o := none) (fun i h1 h2 => by omega)
  rw [Nat.zero_add, h] at this
  exact ⟨this.1.2, this.2.imp (fun v h => h.1)⟩
def btC (bits : Nat) (P : Nat → Option Nat) (i : Nat) : Option Nat := if bits.testBit i = true then P i else none
def chL (bits : Nat) : Nat → Nat → List Nat
  | 0, _ => []
  | k + 1, i => if bits.testBit i = true then i :: chL bits k (i + 1) else chL bits k (i + 1)
theorem chL_in {bits : Nat} : ∀ {k i u : Nat}, u ∈ chL bits k i → i ≤ u ∧ u < i + k ∧ bits.testBit u = true
  | 0, _, _, h => by cases h
  | k + 1, i, u, h => by
    unfold chL at h
    by_cases c : bits.testBit i = true
    · rw [if_pos c] at h
      rcases List.mem_cons.mp h with e | e
      · rw [e]
        exact ⟨Nat.le_refl _, by omega, c⟩
      · have := chL_in e
        exact ⟨by omega, by omega, this.2.2⟩
    · rw [if_neg c] at h
      have := chL_in h
      exact ⟨by omega, by omega, this.2.2⟩
theorem chL_len {bits : Nat} : ∀ {k i : Nat}, (chL bits k i).length ≤ k
  | 0, _ => Nat.le_refl _
  | k + 1, i => by
    have := chL_len (bits := bits) (k := k) (i := i + 1)
    unfold chL
    split
    · rw [List.length_cons]; omega
    · omega
theorem upS_c {bits : Nat} {P : Nat → Option Nat} {o : Option Nat} {i : Nat} (h1 : bits.testBit i = true) (h2 : ∀ b, o = some b → bits.testBit b = true) : upS P o i = upS (btC bits P) o i ∧ ∀ b, upS P o i = some b → bits.testBit b = true := by
  have e : btC bits P i = P i := if_pos h1
  unfold upS
  rw [e]
  cases P i with
  | none => exact ⟨rfl, h2⟩
  | some w =>
    cases o with
    | none => exact ⟨rfl, fun b h => by cases h; exact h1⟩
    | some b =>
      have e2 : btC bits P b = P b := if_pos (h2 b rfl)
      dsimp only
      rw [e2]
      refine ⟨rfl, fun b' h => ?_⟩
      by_cases c : w < (P b).getD 0
      · rw [if_pos c] at h
        cases h
        exact h1
      · rw [if_neg c] at h
        exact h2 b' h
theorem chL_up {bits : Nat} {P : Nat → Option Nat} : ∀ {k i : Nat} {o : Option Nat}, (∀ b, o = some b → bits.testBit b = true) → (chL bits k i).foldl (upS P) o = upR (btC bits P) k i o
  | 0, _, _, _ => rfl
  | k + 1, i, o, h => by
    unfold chL upR
    by_cases c : bits.testBit i = true
    · rw [if_pos c, List.foldl_cons, (upS_c c h).1.symm]
      exact chL_up (upS_c c h).2
    · rw [if_neg c]
      have e : upS (btC bits P) o i = o := by
        unfold upS
        rw [show btC bits P i = none from if_neg c]
      rw [e]
      exact chL_up h
def plS (pp : Nat → Nat) (bits puts : Nat) : Nat → Nat → Nat → Nat
  | 0, _, y => y
  | k + 1, i, y => plS pp bits puts k (i + 1) (if bits.testBit i = true then y + puts * pp i else y)
theorem chL_s {pp : Nat → Nat} {bits puts : Nat} : ∀ {k i y : Nat}, (chL bits k i).foldl (fun y i => y + puts * pp i) y = plS pp bits puts k i y
  | 0, _, _ => rfl
  | k + 1, i, y => by
    unfold chL plS
    by_cases c : bits.testBit i = true
    · rw [if_pos c, if_pos c]
      exact chL_s
    · rw [if_neg c, if_neg c]
      exact chL_s
/-- what the asks cost in all; none: one can go through none -/
def plQ (P : Nat → Nat → Option Nat) (ofn : Nat → Nat) (bits nS : Nat) : Nat → Nat → Nat → Option Nat
  | 0, _, y => some y
  | k + 1, p, y => if ofn p = 0 then plQ P ofn bits nS k (p + 1) y else match upR (btC bits (P p)) nS 0 none with
    | none => none
    | some b => plQ P ofn bits nS k (p + 1) (y + ofn p * (P p b).getD 0)
def planN (P : Nat → Nat → Option Nat) (pp ofn : Nat → Nat) (nS nA bits puts : Nat) : Option Nat := (plQ P ofn bits nS nA 0 0).map (plS pp bits puts nS 0)
theorem plQ_le {P : Nat → Nat → Option Nat} {ofn : Nat → Nat} {bits nS M : Nat} : ∀ {k p y z : Nat}, (∀ j i v, p ≤ j → j < p + k → P j i = some v → v ≤ 1009) → (∀ j, p ≤ j → j < p + k → ofn j ≤ 99) → y ≤ M → plQ P ofn bits nS k p y = some z → z ≤ M + 99891 * k
  | 0, p, y, z, _, _, hy, h => by
    cases h
    omega
  | k + 1, p, y, z, h1, h2, hy, h => by
    unfold plQ at h
    by_cases c : ofn p = 0
    · rw [if_pos c] at h
      have := plQ_le (k := k) (p := p + 1) (M := M) (fun j i v a b => h1 j i v (by omega) (by omega)) (fun j a b => h2 j (by omega) (by omega)) hy h
      omega
    · rw [if_neg c] at h
      cases e : upR (btC bits (P p)) nS 0 none with
      | none => rw [e] at h; cases h
      | some b =>
        rw [e] at h
        have h3 : (P p b).getD 0 ≤ 1009 := by
          cases e2 : P p b with
          | none => exact Nat.zero_le _
          | some v => exact h1 p b v (Nat.le_refl _) (by omega) e2
        have h4 := h2 p (Nat.le_refl _) (by omega)
        have h5 : ofn p * (P p b).getD 0 ≤ 99 * 1009 := Nat.mul_le_mul h4 h3
        have := plQ_le (k := k) (p := p + 1) (M := M + 99891) (fun j i v a b => h1 j i v (by omega) (by omega)) (fun j a b => h2 j (by omega) (by omega)) (by omega) h
        omega
theorem plS_le {pp : Nat → Nat} {bits puts M : Nat} (hp : ∀ i, pp i ≤ 600) (h9 : puts ≤ 999) : ∀ {k i y : Nat}, y ≤ M → plS pp bits puts k i y ≤ M + 599400 * k
  | 0, _, _, h => h
  | k + 1, i, y, h => by
    unfold plS
    have h5 : puts * pp i ≤ 999 * 600 := Nat.mul_le_mul h9 (hp i)
    have := plS_le (pp := pp) (bits := bits) (puts := puts) (M := M + 599400) hp h9 (k := k) (i := i + 1) (y := if bits.testBit i = true then y + puts * pp i else y) (by split <;> omega)
    omega
theorem planN_le {P : Nat → Nat → Option Nat} {pp ofn : Nat → Nat} {nS nA bits puts z : Nat} (h1 : ∀ j i v, j < nA → P j i = some v → v ≤ 1009) (h2 : ∀ j, j < nA → ofn j ≤ 99) (h3 : ∀ i, pp i ≤ 600) (h4 : puts ≤ 999) (hS : nS ≤ 10) (hA : nA ≤ 10) (h : planN P pp ofn nS nA bits puts = some z) : z ≤ 7000000 := by
  unfold planN at h
  cases e : plQ P ofn bits nS nA 0 0 with
  | none => rw [e] at h; cases h
  | some y =>
    rw [e] at h
    have e2 : plS pp bits puts nS 0 y = z := Option.some.inj h
    have l1 := plQ_le (M := 0) (fun j i v _ b => h1 j i v (by omega)) (fun j _ b => h2 j (by omega)) (Nat.le_refl _) e
    have l2 := plS_le (bits := bits) (puts := puts) (M := y) h3 h4 (k := nS) (i := 0) (y := y) (Nat.le_refl _)
    omega
theorem j_mul {a b : Nat} (h : a * b < 2 ^ 31) (ha : a < 2 ^ 31) (hb : b < 2 ^ 31) : (nI a).toInt64 * (nI b).toInt64 = (nI (a * b)).toInt64 := by
  apply Int64.toInt_inj.mp
  rw [Int64.toInt_mul, Int32.toInt_toInt64, Int32.toInt_toInt64, Int32.toInt_toInt64, nI_toInt ha, nI_toInt hb, nI_toInt h]
  have e : ((a : Int) * (b : Int)) = ((a * b : Nat) : Int) := by simp
  rw [e]
  exact Int.bmod_eq_of_le (by omega) (by omega)
theorem j_add {a b : Nat} (h : a + b < 2 ^ 31) : (nI a).toInt64 + (nI b).toInt64 = (nI (a + b)).toInt64 := by
  apply Int64.toInt_inj.mp
  rw [Int64.toInt_add, Int32.toInt_toInt64, Int32.toInt_toInt64, Int32.toInt_toInt64, nI_toInt (show a < 2 ^ 31 by omega), nI_toInt (show b < 2 ^ 31 by omega), nI_toInt h]
  have e : ((a : Int) + (b : Int)) = ((a + b : Nat) : Int) := by simp
  rw [e]
  exact Int.bmod_eq_of_le (by omega) (by omega)
theorem j_a0 (x : Int64) : x + 0 = x := Int64.add_zero x
theorem j_held {s : Nat} (h : s ≤ 1999999999) : ¬ (1999999999 : Int64) < (nI s).toInt64 := by
  rw [Int64.lt_iff_toInt_lt, Int32.toInt_toInt64, nI_toInt (by omega)]
  have e : (1999999999 : Int64).toInt = 1999999999 := by decide
  omega
theorem opI_m2 {o : Option Nat} (h : ∀ v, o = some v → v < 100000) : (opI o = -2) = (o = none) := by
  cases o with
  | none => simp [opI]
  | some v =>
    apply propext
    constructor
    · intro z
      have hv := h v rfl
      have := congrArg Int32.toInt z
      rw [show opI (some v) = nI v from rfl, nI_ti hv] at this
      have e1 : (-2 : Int32).toInt = -2 := by decide
      omega
    · intro z
      cases z
theorem opI_neg {o : Option Nat} (h : ∀ v, o = some v → v < 100000000) : (opI o < 0) = (o = none) := by
  cases o with
  | none =>
    apply propext
    exact ⟨fun _ => rfl, fun _ => by decide⟩
  | some v =>
    apply propext
    exact ⟨fun z => absurd z (nI_pos (by have := h v rfl; omega)), fun z => by cases z⟩
theorem opI_0 {o : Option Nat} (h : ∀ v, o = some v → v < 100000000) : (0 ≤ opI o) = (o ≠ none) := by
  cases o with
  | none =>
    apply propext
    exact ⟨fun z => absurd z (by decide), fun z => absurd rfl z⟩
  | some v =>
    apply propext
    exact ⟨fun _ => by simp, fun _ => nI_pos' (by have := h v rfl; omega)⟩
section
variable {G : Gp} {d : Nat} {K : SK} {n : Nat × Nat} {V V' : SV} {J : SJV} {O : SO} {r : Option Value}
variable {nS nT nA nG av puts bits : Nat} {ad kd ky aa ofn : Nat → Nat} {fl : Nat → Nat → Nat} {ins : Nat → Bool} {wt : Nat → Nat} {x : Nat → SX} {qq : Nat → QD} {A B : Nat}
theorem bit_1 {a i : Nat} (ha : a < 100000) (hi : i < 31) : ((nI a >>> (nI i &&& 31)) &&& 1 = 1) = (a.testBit i = true) := by
  rw [bit_n ha hi]
  by_cases c : a.testBit i = true
  · rw [bI_t c]; simp [c]
  · rw [bI_f c]; simp [c]
/-- what a put costs -/
def ppN (kd a : Nat) : Nat := match kd with
  | 0 => 0
  | 1 => 1
  | 2 => lvl a + a / 2
  | 3 => lvl a
  | 4 => 1
  | 5 => 2 * lvl a
  | 6 => 2
  | _ => lvl a + a / 2
theorem ppI_N {k a : Nat} (hk : k ≤ 7) (ha : a ≤ 999) : ppI k (nI (lvl a)) (nI a) = nI (ppN k a) := by
  have e2 : nI a / 2 = nI (a / 2) := div_n (c := 2) (by omega) (by omega) (by omega)
  rcases kd_cases hk with rfl | rfl | rfl | rfl | rfl | rfl | rfl | rfl
  · rfl
  · rfl
  · show nI (lvl a) + nI a / 2 = nI (lvl a + a / 2)
    rw [e2, nI_add]
  · rfl
  · rfl
  · show 2 * nI (lvl a) = nI (2 * lvl a)
    rw [show (2 : Int32) = nI 2 from rfl, nI_mul]
  · rfl
  · show nI (lvl a) + nI a / 2 = nI (lvl a + a / 2)
    rw [e2, nI_add]
theorem ppN_le {k a : Nat} (ha : a ≤ 999) : ppN k a ≤ 600 := by
  have := lvl_le (a := a)
  unfold ppN
  split <;> omega
/-- the prices learnt -/
def PT (nS nA : Nat) (P : Nat → Nat → Option Nat) (pp : Nat → Nat) (V : SV) : Prop := (∀ i, i < nS → V 45 i = nI (pp i)) ∧ ∀ p i, p < nA → i < nS → V (34 + 1 + p) i = opI (P p i)
theorem c11_learn28 (hK : StK K) (hS : StR nS nT ad kd ky fl ins K O x V) (hA : AkO nA aa ofn K O V) (hQ : AskR nA aa qq V) (hav : av ≤ 999) {i : Nat} (hi : i < nS) : ∀ (k p : Nat) (V1 : SV), p + k = nA → fr (fun a _ => 35 ≤ a ∧ a ≤ 45) V V1 → (∃ V', fr (fun a _ => 35 ≤ a ∧ a ≤ 45) V V' ∧ (∀ j, j < i → (∀ p, p < nA → V' (34 + 1 + p) j = V1 (34 + 1 + p) j) ∧ V' 45 j = V1 45 j) ∧ V' 45 i = V1 45 i ∧ (∀ q, q < p → V' (34 + 1 + q) i = V1 (34 + 1 + q) i) ∧ (∀ q, p ≤ q → q < nA → V' (34 + 1 + q) i = opI (prN (qq q) (kd i) (ky i) av)) ∧ ∀ (r : Option Value) (V2 : SV), Ev G (d + 5) mX11_learnPrices 2 [(0, .ref 0), (1, .int (nI av)), (2, .int (nI (i + 1)))] (K, n, V', J, O) r (K, n, V2, J, O) → Ev G (d + 5) mX11_learnPrices 28 [(0, .ref 0), (1, .int (nI av)), (2, .int (nI i)), (3, .int (nI p))] (K, n, V1, J, O) r (K, n, V2, J, O)) := by
  have hA10 := hA.1.1
  have hS10 := hS.1.1
  intro k
  induction k with
  | zero =>
    intro p V1 e hf
    refine ⟨V1, hf, fun j hj => ⟨fun _ _ => rfl, rfl⟩, rfl, fun _ _ => rfl, fun q h1 h2 => by omega, fun r V2 hE => wX11_learnPrices_28 hK (bt ?_ ?_)⟩
    · rw [hf _ _ (by omega)]
      exact lp_out hA.1.2.1 (by omega) (by omega)
    · rw [nI_1]
      exact hE
  | succ k ih =>
    intro p V1 e hf
    have hp : p < nA := by omega
    obtain ⟨⟨⟨h96, hkd, hky⟩, hO, hIs⟩, ⟨n1, n2⟩, -⟩ := hS.2.1 i hi
    obtain ⟨⟨ha96, hOa, hIa⟩, -⟩ := hA.2.2 p hp
    obtain ⟨q1, q2, q3⟩ := hQ p hp
    obtain ⟨M, e1, e2⟩ := c_priceFor (G := G) (d := d) (n := n) (V := V1) (J := J) (O := O) hK hkd hIs hIa q1 (QC_fr q2 (fr_mo hf (fun a k q => by omega))) hky (by rw [hf _ _ (by omega)]; exact n2) hav
    have f1 : fr (fun a _ => 35 ≤ a ∧ a ≤ 45) V (up2 V1 (34 + 1 + p) i (opI (prN (qq p) (kd i) (ky i) av))) := fr_up hf ⟨by omega, by omega⟩
    obtain ⟨V', g1, g2, g3, g4, g5, g6⟩ := ih (p + 1) _ (by omega) f1
    refine ⟨V', g1, fun j hj => ⟨fun q hq => ?_, ?_⟩, ?_, fun q hq => ?_, fun q h1 h2 => ?_, fun r V2 hE => wX11_learnPrices_28 hK (bf ?_ ⟨nI_v (by omega) (by omega), nI_v (by omega) (by omega), ad i, kc (kd i), ky i, ?_, hIs, kc_in hkd, nI_v (by omega) (by omega), aa p, ?_, hIa, M, e1, _, e2, nI_v (by omega) (by omega), ?_⟩)⟩
    · rw [(g2 j hj).1 q hq, up2_k (by omega)]
    · rw [(g2 j hj).2, up2_a (by omega)]
    · rw [g3, up2_a (by omega)]
    · rw [g4 q (by omega), up2_a (by omega)]
    · by_cases eq : q = p
      · rw [eq, g4 p (by omega), up2_s]
      · exact g5 q (by omega) h2
    · rw [hf _ _ (by omega)]
      exact lp_in hA.1.2.1 (by omega) (by omega)
    · rw [nI_c (by omega)]; exact hO
    · rw [nI_c (by omega)]; exact hOa
    · rw [nI_c (show p < 100000 by omega), nI_c (show i < 100000 by omega), nI_1]
      exact g6 r V2 hE
theorem c11_learn2 (hK : StK K) (hS : StR nS nT ad kd ky fl ins K O x V) (hA : AkO nA aa ofn K O V) (hQ : AskR nA aa qq V) (hav : av ≤ 999) : ∀ (k i : Nat) (V1 : SV), i + k = nS → fr (fun a _ => 35 ≤ a ∧ a ≤ 45) V V1 → PT i nA (fun p i => prN (qq p) (kd i) (ky i) av) (fun i => ppN (kd i) av) V1 → ∃ V', Ev G (d + 5) mX11_learnPrices 2 [(0, .ref 0), (1, .int (nI av)), (2, .int (nI i))] (K, n, V1, J, O) none (K, n, V', J, O) ∧ PT nS nA (fun p i => prN (qq p) (kd i) (ky i) av) (fun i => ppN (kd i) av) V' ∧ fr (fun a _ => 35 ≤ a ∧ a ≤ 45) V V' := by
  have hS10 := hS.1.1
  intro k
  induction k with
  | zero =>
    intro i V1 e hf hP
    have : i = nS := by omega
    subst this
    refine ⟨V1, wX11_learnPrices_2 hK (bt ?_ ⟨rfl, rfl⟩), hP, hf⟩
    rw [hf _ _ (by omega)]
    exact lp_out hS.1.2.2.1 (by omega) (by omega)
  | succ k ih =>
    intro i V1 e hf hP
    have hi : i < nS := by omega
    obtain ⟨⟨⟨h96, hkd, hky⟩, hO, hIs⟩, -⟩ := hS.2.1 i hi
    obtain ⟨M, e1, e2⟩ := c_priceOfPut (G := G) (d := d + 3) (n := n) (V := V1) (J := J) (O := O) hK hkd hIs hav
    rw [ppI_N hkd hav] at e2
    have f1 : fr (fun a _ => 35 ≤ a ∧ a ≤ 45) V (up2 V1 45 i (nI (ppN (kd i) av))) := fr_up hf ⟨by omega, by omega⟩
    obtain ⟨V', g1, g2, g3, g4, g5, g6⟩ := c11_learn28 (G := G) (d := d) (n := n) (J := J) hK hS hA hQ hav hi nA 0 _ (by omega) f1
    have hP' : PT (i + 1) nA (fun p i => prN (qq p) (kd i) (ky i) av) (fun i => ppN (kd i) av) V' := by
      refine ⟨fun j hj => ?_, fun p j hp hj => ?_⟩
      · by_cases ej : j = i
        · rw [ej, g3, up2_s]
        · rw [(g2 j (by omega)).2, up2_k ej]
          exact hP.1 j (by omega)
      · by_cases ej : j = i
        · rw [ej]
          exact g5 p (Nat.zero_le _) hp
        · have hA10 := hA.1.1
          rw [(g2 j (by omega)).1 p hp, up2_k ej]
          exact hP.2 p j hp (by omega)
    obtain ⟨V2, y1, y2, y3⟩ := ih (i + 1) V' (by omega) g1 hP'
    refine ⟨V2, wX11_learnPrices_2 hK (bf ?_ ⟨nI_v (by omega) (by omega), ad i, kc (kd i), ky i, ?_, hIs, kc_in hkd, M, e1, _, e2, nI_v (by omega) (by omega), ?_⟩), y2, y3⟩
    · rw [hf _ _ (by omega)]
      exact lp_in hS.1.2.2.1 (by omega) (by omega)
    · rw [nI_c (by omega)]; exact hO
    · rw [nI_c (show i < 100000 by omega)]
      exact g6 _ _ y1
theorem c11_learn (hK : StK K) (hS : StR nS nT ad kd ky fl ins K O x V) (hA : AkO nA aa ofn K O V) (hQ : AskR nA aa qq V) (hav : av ≤ 999) : ∃ V', Ev G (d + 5) mX11_learnPrices 0 [(0, .ref 0), (1, .int (nI av))] (K, n, V, J, O) none (K, n, V', J, O) ∧ PT nS nA (fun p i => prN (qq p) (kd i) (ky i) av) (fun i => ppN (kd i) av) V' ∧ fr (fun a _ => 35 ≤ a ∧ a ≤ 45) V V' := by
  obtain ⟨V', z1, z2⟩ := c11_learn2 (G := G) (d := d) (n := n) (J := J) hK hS hA hQ hav nS 0 V (by omega) fr_rfl ⟨fun i hi => by omega, fun p i _ hi => by omega⟩
  exact ⟨V', wX11_learnPrices_0 hK z1, z2⟩
theorem c11_choose4 (hK : StK K) (hS10 : nS ≤ 10) (hb : bits < 100000) : ∀ (k i : Nat) (L : List Nat) (V : SV), i + k = nS → L.length ≤ i → V 0 7 = nI nS → (∀ j, j < L.length → V 46 j = nI (nmL L j)) → ∃ V', Ev G (d + 1) mX11_choose 4 [(0, .ref 0), (1, .int (nI bits)), (2, .int (nI L.length)), (3, .int (nI i))] (K, n, V, J, O) (some (.int (nI (L ++ chL bits k i).length))) (K, n, V', J, O) ∧ (∀ j, j < (L ++ chL bits k i).length → V' 46 j = nI (nmL (L ++ chL bits k i) j)) ∧ fr (fun a _ => a = 46) V V' := by
  intro k
  induction k with
  | zero =>
    intro i L V e hl h7 hL
    have e0 : L ++ chL bits 0 i = L := List.append_nil _
    rw [e0]
    exact ⟨V, wX11_choose_4 hK (bt (lp_out h7 (by omega) (by omega)) ⟨rfl, rfl⟩), hL, fr_rfl⟩
  | succ k ih =>
    intro i L V e hl h7 hL
    unfold chL
    have hbit := bit_1 (i := i) hb (show i < 31 by omega)
    by_cases c : bits.testBit i = true
    · rw [if_pos c]
      have e1 : L ++ i :: chL bits k (i + 1) = (L ++ [i]) ++ chL bits k (i + 1) := by simp
      rw [e1]
      obtain ⟨V', g1, g2, g3⟩ := ih (i + 1) (L ++ [i]) (up2 V 46 L.length (nI i)) (by omega) (by rw [List.length_append, List.length_singleton]; omega) (by rw [up2_a (by decide)]; exact h7) (fun j hj => by
        rw [List.length_append, List.length_singleton] at hj
        by_cases ej : j = L.length
        · rw [ej, up2_s, nmL_at]
        · rw [up2_k ej, nmL_l (by omega)]
          exact hL j (by omega))
      refine ⟨V', wX11_choose_4 hK (bf (lp_in h7 (by omega) (by omega)) ?_), g2, fr_mo (fr_tr (fr_up fr_rfl rfl : fr (fun a _ => a = 46) V _) g3) (fun a k q => q.elim id id)⟩
      rw [ne_eq, hbit, nI_c (show L.length < 100000 by omega), nI_1, nI_1]
      rw [List.length_append, List.length_singleton] at g1
      exact ⟨fun z => absurd c z, fun _ => ⟨nI_v (by omega) (by omega), g1⟩⟩
    · rw [if_neg c]
      obtain ⟨V', g1, g2, g3⟩ := ih (i + 1) L V (by omega) (by omega) h7 hL
      refine ⟨V', wX11_choose_4 hK (bf (lp_in h7 (by omega) (by omega)) ?_), g2, g3⟩
      rw [ne_eq, hbit, nI_1]
      exact ⟨fun _ => g1, fun z => absurd z c⟩
theorem c11_choose (hK : StK K) (hS10 : nS ≤ 10) (hb : bits < 100000) (h7 : V 0 7 = nI nS) : ∃ V', Ev G (d + 1) mX11_choose 0 [(0, .ref 0), (1, .int (nI bits))] (K, n, V, J, O) (some (.int (nI (chL bits nS 0).length))) (K, n, V', J, O) ∧ (∀ j, j < (chL bits nS 0).length → V' 46 j = nI (nmL (chL bits nS 0) j)) ∧ fr (fun a _ => a = 46) V V' := by
  obtain ⟨V', g1, g2, g3⟩ := c11_choose4 (G := G) (d := d) (K := K) (n := n) (J := J) (O := O) hK hS10 hb nS 0 [] V (by omega) (Nat.le_refl _) h7 (fun j hj => by cases hj)
  exact ⟨V', wX11_choose_0 hK g1, g2, g3⟩
theorem upS_in {P : Nat → Option Nat} {o : Option Nat} {i m : Nat} (hi : i < m) (h : ∀ b, o = some b → b < m ∧ P b ≠ none) : ∀ b, upS P o i = some b → b < m ∧ P b ≠ none := by
  unfold upS
  cases e : P i with
  | none => exact h
  | some w =>
    cases o with
    | none =>
      intro b hb
      cases hb
      exact ⟨hi, by rw [e]; simp⟩
    | some b0 =>
      intro b hb
      dsimp only at hb
      by_cases c : w < (P b0).getD 0
      · rw [if_pos c] at hb
        cases hb
        exact ⟨hi, by rw [e]; simp⟩
      · rw [if_neg c] at hb
        exact h b hb
theorem c11_cheap6 (hK : StK K) {P : Nat → Nat → Option Nat} {pp : Nat → Nat} (hP : PT nS nA P pp V) (hPv : ∀ p i v, p < nA → P p i = some v → v ≤ 1009) (hS10 : nS ≤ 10) (hA10 : nA ≤ 10) {L : List Nat} (hL : ∀ j, j < L.length → V 46 j = nI (nmL L j)) (hLS : ∀ u, u ∈ L → u < nS) (hl : L.length ≤ 10) {p : Nat} (hp : p < nA) : ∀ (k j : Nat) (o : Option Nat), j + k = L.length → (∀ b, o = some b → b < nS ∧ P p b ≠ none) → Ev G (d + 1) mX11_cheapest 6 [(0, .ref 0), (1, .int (nI p)), (2, .int (nI L.length)), (3, .int (opI o)), (4, .int (nI j))] (K, n, V, J, O) (some (.int (opI (itr (fun j o => upS (P p) o (nmL L j)) k j o)))) (K, n, V, J, O) := by
  intro k
  induction k with
  | zero =>
    intro j o e ho
    exact wX11_cheapest_6 hK (bt (by rw [nI_le' (by omega) (by omega)]; omega) rfl)
  | succ k ih =>
    intro j o e ho
    have hj : j < L.length := by omega
    have hu := hLS _ (nmL_mem hj)
    have hvj : vp_in (nI j) 10 := nI_v (by omega) (by omega)
    have hvp : vp_in (nI p) 10 := nI_v (by omega) (by omega)
    have eo : (opI o = -2) = (o = none) := opI_m2 (fun v h => by have := (ho v h).1; omega)
    have eP : (opI (P p (nmL L j)) = -2) = (P p (nmL L j) = none) := opI_m2 (fun v h => by have := hPv p _ v hp h; omega)
    have z := ih (j + 1) (upS (P p) o (nmL L j)) (by omega) (upS_in hu ho)
    refine wX11_cheapest_6 hK (bf (by rw [nI_le' (by omega) (by omega)]; omega) ⟨hvp, hvj, ?_⟩)
    rw [nI_c (show j < 100000 by omega), hL j hj, nI_c (show nmL L j < 100000 by omega), nI_c (show p < 100000 by omega), hP.2 p _ hp hu, eP, eo, nI_1]
    refine ⟨nI_v (by omega) (by omega), ?_⟩
    show _ ∧ _
    cases ep : P p (nmL L j) with
    | none =>
      have e1 : upS (P p) o (nmL L j) = o := by unfold upS; rw [ep]
      refine ⟨fun _ => ?_, fun z => absurd rfl z⟩
      show Ev G (d + 1) mX11_cheapest 6 _ _ (some (.int (opI (itr (fun j o => upS (P p) o (nmL L j)) k (j + 1) (upS (P p) o (nmL L j)))))) _
      rw [e1] at z ⊢
      exact z
    | some w =>
      refine ⟨fun z => (by cases z), fun _ => ?_⟩
      have hw := hPv p _ w hp ep
      cases o with
      | none =>
        have e1 : upS (P p) none (nmL L j) = some (nmL L j) := by unfold upS; rw [ep]
        refine ⟨fun _ => ⟨hvj, ?_⟩, fun z => absurd rfl z⟩
        show Ev G (d + 1) mX11_cheapest 6 _ _ (some (.int (opI (itr (fun j o => upS (P p) o (nmL L j)) k (j + 1) (upS (P p) none (nmL L j)))))) _
        rw [e1] at z ⊢
        exact z
      | some b =>
        obtain ⟨hb1, hb2⟩ := ho b rfl
        cases eb : P p b with
        | none => exact absurd eb hb2
        | some v =>
          have hv := hPv p _ v hp eb
          have e1 : upS (P p) (some b) (nmL L j) = if w < v then some (nmL L j) else some b := by unfold upS; rw [ep]; dsimp only; rw [eb]; rfl
          refine ⟨fun z => (by cases z), fun _ => ⟨hvp, nI_v (by omega) (by omega), ?_⟩⟩
          rw [show (opI (some b)).toNatClampNeg = b from nI_c (by omega), hP.2 p b hp hb1, eb]
          show (nI v ≤ nI w → _) ∧ (¬ nI v ≤ nI w → _)
          rw [nI_le' (by omega) (by omega)]
          show (v ≤ w → Ev G (d + 1) mX11_cheapest 6 _ _ (some (.int (opI (itr (fun j o => upS (P p) o (nmL L j)) k (j + 1) (upS (P p) (some b) (nmL L j)))))) _) ∧ (¬ v ≤ w → vp_in (nI j) 10 ∧ Ev G (d + 1) mX11_cheapest 6 _ _ (some (.int (opI (itr (fun j o => upS (P p) o (nmL L j)) k (j + 1) (upS (P p) (some b) (nmL L j)))))) _)
          rw [e1] at z ⊢
          by_cases c : w < v
          · rw [if_pos c] at z ⊢
            exact bf (by omega) ⟨hvj, z⟩
          · rw [if_neg c] at z ⊢
            exact bt (by omega) z
theorem c11_cheapest (hK : StK K) {P : Nat → Nat → Option Nat} {pp : Nat → Nat} (hP : PT nS nA P pp V) (hPv : ∀ p i v, p < nA → P p i = some v → v ≤ 1009) (hS10 : nS ≤ 10) (hA10 : nA ≤ 10) (hL : ∀ j, j < (chL bits nS 0).length → V 46 j = nI (nmL (chL bits nS 0) j)) {p : Nat} (hp : p < nA) : Ev G (d + 1) mX11_cheapest 0 [(0, .ref 0), (1, .int (nI p)), (2, .int (nI (chL bits nS 0).length))] (K, n, V, J, O) (some (.int (opI (upR (btC bits (P p)) nS 0 none)))) (K, n, V, J, O) := by
  have hl := chL_len (bits := bits) (k := nS) (i := 0)
  have z := c11_cheap6 (G := G) (d := d) (n := n) (J := J) (O := O) hK hP hPv hS10 hA10 hL (fun u hu => by have := chL_in hu; omega) (by omega) hp (chL bits nS 0).length 0 none (by omega) (fun b h => by cases h)
  rw [itr_L0 (f := fun t o => upS (P p) o t), chL_up (fun b h => by cases h)] at z
  exact wX11_cheapest_0 hK z
end
