/-! ===== things: the small methods of both ===== -/
section
variable {G : Gp} {d : Nat} {K : SK} {n : Nat × Nat} {V V' : SV} {J J' : SJV} {O O' : SO} {r : Option Value}
theorem c11_isWithin (hK : StK K) {x lo hi : Int32} : Ev G d mX11_isWithin 0 [(0, .int x), (1, .int lo), (2, .int hi)] (K, n, V, J, O) (some (.int (bI (btw lo x hi)))) (K, n, V, J, O) := by
  refine wX11_isWithin_0 hK ⟨fun h => ?_, fun h => ⟨fun h2 => ?_, fun h2 => ?_⟩⟩
  · rw [bI_f fun q => Int32.not_le.mpr h q.1]
  · rw [bI_f fun q => Int32.not_le.mpr h2 q.2]
  · rw [bI_t ⟨Int32.not_lt.mp h, Int32.not_lt.mp h2⟩]
theorem c11_isField (hK : StK K) {x : Int32} : Ev G (d + 1) mX11_isField 0 [(0, .int x)] (K, n, V, J, O) (some (.int (bI (btw 0 x 3)))) (K, n, V, J, O) := wX11_isField_0 hK ⟨_, c11_isWithin hK, bI_z, rfl⟩
theorem c11_isValue (hK : StK K) {x : Int32} : Ev G (d + 1) mX11_isValue 0 [(0, .int x)] (K, n, V, J, O) (some (.int (bI (btw 0 x 99)))) (K, n, V, J, O) := wX11_isValue_0 hK ⟨_, c11_isWithin hK, bI_z, rfl⟩
theorem c11_isShelf (hK : StK K) {x : Int32} : Ev G (d + 1) mX11_isShelf 0 [(0, .int x)] (K, n, V, J, O) (some (.int (bI (btw 0 x 5)))) (K, n, V, J, O) := wX11_isShelf_0 hK ⟨_, c11_isWithin hK, bI_z, rfl⟩
theorem c11_isSize (hK : StK K) {x : Int32} : Ev G (d + 1) mX11_isSize 0 [(0, .int x)] (K, n, V, J, O) (some (.int (bI (btw 1 x 999)))) (K, n, V, J, O) := wX11_isSize_0 hK ⟨_, c11_isWithin hK, bI_z, rfl⟩
theorem c12_within (hK : StK K) {x lo hi : Int64} : Ev G d mX12_within 0 [(0, .long x), (2, .long lo), (4, .long hi)] (K, n, V, J, O) (some (.int (bI (lo ≤ x ∧ x ≤ hi)))) (K, n, V, J, O) := by
  refine wX12_within_0 hK ⟨fun h => ?_, fun h => ⟨fun h2 => ?_, fun h2 => ?_⟩⟩
  · rw [bI_f fun q => Int64.not_le.mpr ((lg_cmp_lt _ _).mp h) q.1]
  · rw [bI_f fun q => Int64.not_le.mpr ((lg_cmp_gt _ _).mp h2) q.2]
  · rw [bI_t ⟨Int64.not_lt.mp (fun q => h ((lg_cmp_lt _ _).mpr q)), Int64.not_lt.mp (fun q => h2 ((lg_cmp_gt _ _).mpr q))⟩]
theorem c12_wi (hK : StK K) {x lo hi : Int32} {lo' hi' : Int64} (h1 : lo' = lo.toInt64) (h2 : hi' = hi.toInt64) : Ev G d mX12_within 0 [(0, .long x.toInt64), (2, .long lo'), (4, .long hi')] (K, n, V, J, O) (some (.int (bI (btw lo x hi)))) (K, n, V, J, O) := by
  have := c12_within (G := G) (d := d) (n := n) (V := V) (J := J) (O := O) hK (x := x.toInt64) (lo := lo') (hi := hi')
  rw [bI_c (q := btw lo x hi) (by rw [h1, h2, w64_le, w64_le])] at this
  exact this
theorem c12_isThing (hK : StK K) {x : Int32} : Ev G d mX12_isThing 0 [(0, .ref 57), (1, .int x)] (K, n, V, J, O) (some (.int (bI (0 ≤ x ∧ x < V 57 2)))) (K, n, V, J, O) := by
  refine wX12_isThing_0 hK ⟨fun h => ?_, fun h => ⟨fun h2 => ?_, fun h2 => ?_⟩⟩
  · rw [bI_f fun q => Int32.not_le.mpr h q.1]
  · rw [bI_f fun q => Int32.not_lt.mpr h2 q.2]
  · rw [bI_t ⟨Int32.not_lt.mp h, Int32.not_le.mp h2⟩]
theorem c12_isField (hK : StK K) {x : Int32} : Ev G (d + 1) mX12_isField 0 [(0, .int x)] (K, n, V, J, O) (some (.int (bI (btw 0 x 3)))) (K, n, V, J, O) := wX12_isField_0 hK ⟨_, c12_wi hK (lo := 0) (hi := 3) (by decide) (by decide), bI_z, rfl⟩
theorem c12_isValue (hK : StK K) {x : Int32} : Ev G (d + 1) mX12_isValue 0 [(0, .int x)] (K, n, V, J, O) (some (.int (bI (btw 0 x 99)))) (K, n, V, J, O) := wX12_isValue_0 hK ⟨_, c12_wi hK (lo := 0) (hi := 99) (by decide) (by decide), bI_z, rfl⟩
theorem c12_isShelf (hK : StK K) {x : Int32} : Ev G (d + 1) mX12_isShelf 0 [(0, .int x)] (K, n, V, J, O) (some (.int (bI (btw 0 x 5)))) (K, n, V, J, O) := wX12_isShelf_0 hK ⟨_, c12_wi hK (lo := 0) (hi := 5) (by decide) (by decide), bI_z, rfl⟩
theorem c12_isSize (hK : StK K) {x : Int32} : Ev G (d + 1) mX12_isSize 0 [(0, .int x)] (K, n, V, J, O) (some (.int (bI (btw 1 x 999)))) (K, n, V, J, O) := wX12_isSize_0 hK ⟨_, c12_wi hK (lo := 1) (hi := 999) (by decide) (by decide), bI_z, rfl⟩
theorem c8_has (hK : StK K) {x : Int32} : Ev G (d + 1) mX8_has 0 [(0, .ref 1), (1, .int x)] (K, n, V, J, O) (some (.int (bI (btw 0 x (V 1 2 - 1))))) (K, n, V, J, O) := wX8_has_0 hK ⟨_, c11_isWithin hK, bI_z, rfl⟩
/-- the things as the class has them: how many, how many are gone, fields, who is in, with which taking the others went -/
def cT (nT nG : Nat) (fl : Nat → Nat → Nat) (ins : Nat → Bool) (wt : Nat → Nat) (V : SV) : Prop := (nT ≤ 80 ∧ nG ≤ nT) ∧ V 1 2 = nI nT ∧ V 1 6 = nI nG ∧ (∀ f t, f < 4 → t < nT → V (4 + 1 + f) t = nI (fl f t) ∧ fl f t < 100) ∧ ∀ t, t < nT → (ins t = true ∧ V 9 t = 1000) ∨ (ins t = false ∧ V 9 t = nI (wt t) ∧ wt t < nG)
/-- and as the reference has them -/
def mT (nT : Nat) (fl : Nat → Nat → Nat) (ins : Nat → Bool) (V : SV) : Prop := nT ≤ 80 ∧ V 57 2 = nI nT ∧ (∀ f t, f < 4 → t < nT → V 58 (4 * t + f) = nI (fl f t) ∧ fl f t < 100) ∧ ∀ t, t < nT → V 59 t = bI (ins t = true)
section Things
variable {nT nG : Nat} {fl : Nat → Nat → Nat} {ins : Nat → Bool} {wt : Nat → Nat}
theorem cT.i9 (h : cT nT nG fl ins wt V) {t : Nat} (ht : t < nT) : (V 9 t = 1000) = (ins t = true) := by
  obtain ⟨⟨h0, h1⟩, -, -, -, h2⟩ := h
  rcases h2 t ht with ⟨e1, e2⟩ | ⟨e1, e2, e3⟩
  · simp [e1, e2]
  · rw [e1, e2]
    have : ¬ nI (wt t) = 1000 := by
      rw [show (1000 : Int32) = nI 1000 from rfl, nI_e' (by omega) (by omega)]
      omega
    simp [this]
theorem c8_isIn (hK : StK K) (h : cT nT nG fl ins wt V) {t : Nat} (ht : t < nT) : Ev G d mX8_isIn 0 [(0, .ref 1), (1, .int (nI t))] (K, n, V, J, O) (some (.int (bI (ins t = true)))) (K, n, V, J, O) := by
  have h80 : t < 80 := by have := h.1.1; omega
  have e := h.i9 ht
  refine wX8_isIn_0 hK ⟨nI_v h80 (by decide), fun q => ?_, fun q => ?_⟩ <;> rw [nI_c (by omega)] at q
  · rw [bI_f (e ▸ q)]
  · rw [bI_t (e ▸ q)]
theorem c8_value (hK : StK K) (h : cT nT nG fl ins wt V) {t f : Nat} (ht : t < nT) (hf : f < 4) : Ev G d mX8_value 0 [(0, .ref 1), (1, .int (nI t)), (2, .int (nI f))] (K, n, V, J, O) (some (.int (nI (fl f t)))) (K, n, V, J, O) := by
  have h80 : t < 80 := by have := h.1.1; omega
  refine wX8_value_0 hK ⟨nI_v hf (by decide), nI_v h80 (by decide), ?_⟩
  rw [nI_c (by omega), nI_c (by omega), (h.2.2.2.1 f t hf ht).1]
theorem c8_sum4 (hK : StK K) (h : cT nT nG fl ins wt V) {f : Nat} (hf : f < 4) : ∀ (k t a : Nat), t + k = nT → Ev G (d + 1) mX8_sum 4 [(0, .ref 1), (1, .int (nI f)), (2, .int (nI a)), (3, .int (nI t))] (K, n, V, J, O) (some (.int (nI (a + sumF ins (fl f) k t)))) (K, n, V, J, O)
  | 0, t, a, e => wX8_sum_4 hK ⟨fun _ => rfl, fun q => absurd (lp_out h.2.1 (by omega) (by have := h.1.1; omega)) q⟩
  | k + 1, t, a, e => by
    have h80 := h.1.1
    refine wX8_sum_4 hK ⟨fun q => absurd q (lp_in h.2.1 (by omega) (by omega)), fun _ => ⟨_, c8_isIn hK h (by omega), ?_⟩⟩
    simp only [bI_e, Classical.not_not, nI_1]
    unfold sumF
    refine ⟨fun q => ?_, fun q => ⟨_, c8_value hK h (by omega) hf, ?_⟩⟩
    · have ih := c8_sum4 hK h hf k (t + 1) a (by omega)
      rw [if_neg q, Int32.add_zero, Nat.zero_add]
      exact ih
    · have ih := c8_sum4 hK h hf k (t + 1) (a + fl f t) (by omega)
      rw [if_pos q, nI_add, ← Nat.add_assoc]
      exact ih
theorem c8_sum (hK : StK K) (h : cT nT nG fl ins wt V) {f : Nat} (hf : f < 4) : Ev G (d + 1) mX8_sum 0 [(0, .ref 1), (1, .int (nI f))] (K, n, V, J, O) (some (.int (nI (sumF ins (fl f) nT 0)))) (K, n, V, J, O) := by
  have := c8_sum4 (G := G) (d := d) (n := n) (J := J) (O := O) hK h hf nT 0 0 (by omega)
  rw [Nat.zero_add] at this
  exact wX8_sum_0 hK this
theorem c8_hasAhead3 (hK : StK K) (h : cT nT nG fl ins wt V) {f v m : Nat} (hf : f < 4) (hm : m ≤ nT) (hv : v < 1000) : ∀ (k t : Nat), t + k = m → Ev G (d + 1) mX8_hasAhead 3 [(0, .ref 1), (1, .int (nI m)), (2, .int (nI f)), (3, .int (nI v)), (4, .int (nI t))] (K, n, V, J, O) (some (.int (bI (anyF (fun u => ins u && fl f u == v) k t = true)))) (K, n, V, J, O)
  | 0, t, e => wX8_hasAhead_3 hK ⟨fun _ => by rw [bI_f]; exact Bool.false_ne_true, fun q => absurd (lp_out rfl (by omega) (by have := h.1.1; omega)) q⟩
  | k + 1, t, e => by
    have h80 := h.1.1
    have ih := c8_hasAhead3 hK h hf hm hv k (t + 1) (by omega)
    have hlt := (h.2.2.2.1 f t hf (by omega)).2
    refine wX8_hasAhead_3 hK ⟨fun q => absurd q (lp_in rfl (by omega) (by omega)), fun _ => ⟨_, c8_isIn hK h (by omega), ?_⟩⟩
    simp only [bI_e, Classical.not_not, nI_1]
    unfold anyF
    refine ⟨fun q => ?_, fun q => ⟨_, c8_value hK h (by omega) hf, fun q2 => ?_, fun q2 => ?_⟩⟩
    · simpa [q] using ih
    · rw [ne_eq, nI_e' (by omega) (by omega)] at q2
      simpa [q2] using ih
    · rw [nI_e' (by omega) (by omega)] at q2
      rw [bI_t (by simp [q, q2])]
theorem c8_hasAhead (hK : StK K) (h : cT nT nG fl ins wt V) {f v m : Nat} (hf : f < 4) (hm : m ≤ nT) (hv : v < 1000) : Ev G (d + 1) mX8_hasAhead 0 [(0, .ref 1), (1, .int (nI m)), (2, .int (nI f)), (3, .int (nI v))] (K, n, V, J, O) (some (.int (bI (anyF (fun u => ins u && fl f u == v) m 0 = true)))) (K, n, V, J, O) := wX8_hasAhead_0 hK (c8_hasAhead3 hK h hf hm hv m 0 (by omega))
theorem c8_hasLikes2 (hK : StK K) (h : cT nT nG fl ins wt V) {f : Nat} (hf : f < 4) : ∀ (k t : Nat), t + k = nT → Ev G (d + 2) mX8_hasLikes 2 [(0, .ref 1), (1, .int (nI f)), (2, .int (nI t))] (K, n, V, J, O) (some (.int (bI (anyF (fun t => ins t && anyF (fun u => ins u && fl f u == fl f t) t 0) k t = true)))) (K, n, V, J, O)
  | 0, t, e => wX8_hasLikes_2 hK ⟨fun _ => by rw [bI_f]; exact Bool.false_ne_true, fun q => absurd (lp_out h.2.1 (by omega) (by have := h.1.1; omega)) q⟩
  | k + 1, t, e => by
    have h80 := h.1.1
    have ih := c8_hasLikes2 hK h hf k (t + 1) (by omega)
    have hlt := (h.2.2.2.1 f t hf (by omega)).2
    refine wX8_hasLikes_2 hK ⟨fun q => absurd q (lp_in h.2.1 (by omega) (by omega)), fun _ => ⟨_, c8_isIn hK h (by omega), ?_⟩⟩
    simp only [bI_e, Classical.not_not, nI_1]
    unfold anyF
    refine ⟨fun q => ?_, fun q => ⟨_, c8_value hK h (by omega) hf, _, c8_hasAhead hK h hf (by omega) (by omega), ?_⟩⟩
    · simpa [q] using ih
    · simp only [bI_e, Classical.not_not]
      refine ⟨fun q2 => ?_, fun q2 => ?_⟩
      · simpa [q2] using ih
      · rw [bI_t (by simp [q, q2])]
theorem c8_hasLikes (hK : StK K) (h : cT nT nG fl ins wt V) {f : Nat} (hf : f < 4) : Ev G (d + 2) mX8_hasLikes 0 [(0, .ref 1), (1, .int (nI f))] (K, n, V, J, O) (some (.int (bI (anyF (fun t => ins t && anyF (fun u => ins u && fl f u == fl f t) t 0) nT 0 = true)))) (K, n, V, J, O) := wX8_hasLikes_0 hK (c8_hasLikes2 hK h hf nT 0 (by omega))
/-! the reference -/
theorem mT.f58 (h : mT nT fl ins V) {f t : Nat} (hf : f < 4) (ht : t < nT) : V 58 (4 * t + f) = nI (fl f t) := (h.2.2.1 f t hf ht).1
theorem ix4 (t f : Nat) : (4 : Int32) * nI t + nI f = nI (4 * t + f) := by
  rw [show (4 : Int32) = nI 4 from rfl, nI_mul, nI_add]
theorem c12_sumOf4 (hK : StK K) (h : mT nT fl ins V) {f : Nat} (hf : f < 4) : ∀ (k t a : Nat), t + k = nT → Ev G d mX12_sumOf 4 [(0, .ref 57), (1, .int (nI f)), (2, .int (nI a)), (3, .int (nI t))] (K, n, V, J, O) (some (.int (nI (a + sumF ins (fl f) k t)))) (K, n, V, J, O)
  | 0, t, a, e => wX12_sumOf_4 hK ⟨fun _ => rfl, fun q => absurd (lp_out h.2.1 (by omega) (by have := h.1; omega)) q⟩
  | k + 1, t, a, e => by
    have h80 := h.1
    have h59 := h.2.2.2 t (by omega)
    refine wX12_sumOf_4 hK ⟨fun q => absurd q (lp_in h.2.1 (by omega) (by omega)), fun _ => ⟨nI_v (by omega) (by omega), ?_⟩⟩
    rw [nI_c (by omega), h59, nI_1, ix4]
    simp only [bI_e, Classical.not_not]
    unfold sumF
    refine ⟨fun q => ?_, fun q => ⟨nI_v (by omega) (by omega), ?_⟩⟩
    · have ih := c12_sumOf4 hK h hf k (t + 1) a (by omega)
      rw [if_neg q, Int32.add_zero, Nat.zero_add]
      exact ih
    · have ih := c12_sumOf4 hK h hf k (t + 1) (a + fl f t) (by omega)
      rw [if_pos q, nI_c (by omega), h.f58 hf (by omega), nI_add, ← Nat.add_assoc]
      exact ih
theorem c12_sumOf (hK : StK K) (h : mT nT fl ins V) {f : Nat} (hf : f < 4) : Ev G d mX12_sumOf 0 [(0, .ref 57), (1, .int (nI f))] (K, n, V, J, O) (some (.int (nI (sumF ins (fl f) nT 0)))) (K, n, V, J, O) := by
  have := c12_sumOf4 (G := G) (d := d) (n := n) (J := J) (O := O) hK h hf nT 0 0 (by omega)
  rw [Nat.zero_add] at this
  exact wX12_sumOf_0 hK this
/-- the laws: unlike and most of a field -/
def moI (m : Option Nat) : Int32 := match m with
  | none => -1
  | some k => nI k
def LW (un : Nat → Bool) (mo : Nat → Option Nat) (A B : Nat → Int32) : Prop := ∀ f, f < 4 → A f = bI (un f = true) ∧ B f = moI (mo f) ∧ ∀ m, mo f = some m → m ≤ 9999
def brk (nT : Nat) (fl : Nat → Nat → Nat) (ins : Nat → Bool) (un : Nat → Bool) (mo : Nat → Option Nat) (f v : Nat) : Bool := (un f && anyF (fun u => ins u && fl f u == v) nT 0) || (match mo f with
  | none => false
  | some m => decide (m < sumF ins (fl f) nT 0 + v))
theorem moI_neg {m : Option Nat} (h : ∀ k, m = some k → k ≤ 9999) : (moI m < 0) = (m = none) := by
  cases m with
  | none => simp [moI]
  | some k =>
    have := h k rfl
    simp only [moI, reduceCtorEq, iff_false, eq_iff_iff]
    exact nI_pos (by omega)
theorem moI_m1 {m : Option Nat} (h : ∀ k, m = some k → k ≤ 9999) : (moI m = -1) = (m = none) := by
  cases m with
  | none => simp [moI]
  | some k =>
    have := h k rfl
    have h2 : ¬ nI k = -1 := by
      intro q
      have := congrArg Int32.toInt q
      rw [nI_ti (by omega)] at this
      have e : (-1 : Int32).toInt = -1 := by decide
      omega
    simp [moI, h2]
variable {un : Nat → Bool} {mo : Nat → Option Nat}
theorem c8_wouldBreak (hK : StK K) (h : cT nT nG fl ins wt V) (hL : LW un mo (V 2) (V 3)) {f v : Nat} (hf : f < 4) (hv : v < 100) : Ev G (d + 2) mX8_wouldBreak 0 [(0, .ref 1), (1, .int (nI f)), (2, .int (nI v))] (K, n, V, J, O) (some (.int (bI (brk nT fl ins un mo f v = true)))) (K, n, V, J, O) := by
  obtain ⟨e1, e2, e3⟩ := hL f hf
  have h80 := h.1.1
  have hs : sumF ins (fl f) nT 0 ≤ 100 * nT := sumF_le fun j _ hj => by have := (h.2.2.2.1 f j hf (by omega)).2; omega
  have hi := nI_v (a := f) (N := 4) hf (by omega)
  have key : ∀ b : Bool, brk nT fl ins un mo f v = (b || (match mo f with | none => false | some m => decide (m < sumF ins (fl f) nT 0 + v))) → ((moI (mo f) = -1 → (some (.int (bI (brk nT fl ins un mo f v = true))) : Option Value) = some (.int 0)) ∧ (¬ moI (mo f) = -1 → ∃ v3 : Int32, Ev G (d + 1) mX8_sum 0 [(0, .ref 1), (1, .int (nI f))] (K, n, V, J, O) (some (.int v3)) (K, n, V, J, O) ∧ (vp_in (nI f) 4 ∧ ((v3 + nI v ≤ moI (mo f) → (some (.int (bI (brk nT fl ins un mo f v = true))) : Option Value) = some (.int 0)) ∧ (¬ v3 + nI v ≤ moI (mo f) → (some (.int (bI (brk nT fl ins un mo f v = true))) : Option Value) = some (.int 1)))))) ∨ b = true := by
    intro b hb
    cases b with
    | true => exact Or.inr rfl
    | false =>
      left
      rw [Bool.false_or] at hb
      rw [moI_m1 e3, hb]
      refine ⟨fun q => ?_, fun q => ⟨_, c8_sum hK h hf, hi, ?_⟩⟩
      · rw [q, bI_f]; exact Bool.false_ne_true
      · cases hm : mo f with
        | none => exact absurd hm q
        | some m =>
          have := e3 m hm
          simp only [moI, nI_add, nI_le' (show sumF ins (fl f) nT 0 + v < 100000 by omega) (show m < 100000 by omega)]
          refine ⟨fun q => ?_, fun q => ?_⟩
          · rw [bI_f (by simp; omega)]
          · rw [bI_t (by simp; omega)]
  refine wX8_wouldBreak_0 hK ⟨hi, ?_⟩
  rw [nI_c (by omega), e1, e2, h.2.1]
  cases hu : un f with
  | false =>
    rcases key false (by simp [brk, hu]) with k | k
    · refine ⟨fun _ => ⟨hi, k⟩, fun q => ?_⟩
      exact absurd q (by decide)
    · cases k
  | true =>
    refine ⟨fun q => absurd rfl q, fun _ => ⟨_, c8_hasAhead hK h hf (Nat.le_refl _) (by omega), ?_⟩⟩
    simp only [bI_e, Classical.not_not]
    refine ⟨fun q => ?_, fun q => ?_⟩
    · rcases key false (by simp [brk, hu, q]) with k | k
      · exact ⟨hi, k⟩
      · cases k
    · rw [bI_t (by simp [brk, hu, q])]
theorem c12_breaks5 (hK : StK K) (h : mT nT fl ins V) (hL : LW un mo (V 60) (V 61)) {f v : Nat} (hf : f < 4) (hv : v < 100) : ∀ (k t : Nat) (b : Bool), t + k = nT → (un f && (b || anyF (fun u => ins u && fl f u == v) k t)) = (un f && anyF (fun u => ins u && fl f u == v) nT 0) → Ev G (d + 1) mX12_breaks 5 [(0, .ref 57), (1, .int (nI f)), (2, .int (nI v)), (3, .int (bI (b = true))), (4, .int (nI t))] (K, n, V, J, O) (some (.int (bI (brk nT fl ins un mo f v = true)))) (K, n, V, J, O)
  | 0, t, b, e, hb => by
    obtain ⟨e1, e2, e3⟩ := hL f hf
    have h80 := h.1
    have hs : sumF ins (fl f) nT 0 ≤ 100 * nT := sumF_le fun j _ hj => by have := (h.2.2.1 f j hf (by omega)).2; omega
    have hi := nI_v (a := f) (N := 4) hf (by omega)
    have hb2 : (un f && b) = (un f && anyF (fun u => ins u && fl f u == v) nT 0) := by rw [← hb]; simp [anyF]
    refine wX12_breaks_5 hK ⟨fun _ => ⟨hi, ?_⟩, fun q => absurd (lp_out h.2.1 (by omega) (by omega)) q⟩
    rw [nI_c (by omega), e1, e2]
    simp only [bI_e, ne_eq, Classical.not_not, moI_neg e3]
    have hbr : brk nT fl ins un mo f v = ((un f && b) || (match mo f with | none => false | some m => decide (m < sumF ins (fl f) nT 0 + v))) := by rw [hb2]; rfl
    have key : (un f && b) = false → ((mo f = none → (some (.int (bI (brk nT fl ins un mo f v = true))) : Option Value) = some (.int 0)) ∧ (¬ mo f = none → ∃ v3 : Int32, Ev G d mX12_sumOf 0 [(0, .ref 57), (1, .int (nI f))] (K, n, V, J, O) (some (.int v3)) (K, n, V, J, O) ∧ (vp_in (nI f) 4 ∧ ((v3 + nI v ≤ moI (mo f) → (some (.int (bI (brk nT fl ins un mo f v = true))) : Option Value) = some (.int 0)) ∧ (¬ v3 + nI v ≤ moI (mo f) → (some (.int (bI (brk nT fl ins un mo f v = true))) : Option Value) = some (.int 1)))))) := by
      intro z
      rw [z, Bool.false_or] at hbr
      rw [hbr]
      refine ⟨fun q => ?_, fun q => ⟨_, c12_sumOf hK h hf, hi, ?_⟩⟩
      · rw [q, bI_f]; exact Bool.false_ne_true
      · cases hm : mo f with
        | none => exact absurd hm q
        | some m =>
          have := e3 m hm
          simp only [moI, nI_add, nI_le' (show sumF ins (fl f) nT 0 + v < 100000 by omega) (show m < 100000 by omega)]
          refine ⟨fun q => ?_, fun q => ?_⟩
          · rw [bI_f (by simp; omega)]
          · rw [bI_t (by simp; omega)]
    refine ⟨fun q => ⟨hi, key (by simp [q])⟩, fun q => ⟨fun q2 => ?_, fun q2 => ⟨hi, key (by simp [q2])⟩⟩⟩
    rw [bI_t (by rw [hbr]; simp [q, q2])]
  | k + 1, t, b, e, hb => by
    have h80 := h.1
    have hlt := (h.2.2.1 f t hf (by omega)).2
    have h59 := h.2.2.2 t (by omega)
    have ih := fun b' => c12_breaks5 hK h hL hf hv k (t + 1) b' (by omega)
    refine wX12_breaks_5 hK ⟨fun q => absurd q (lp_in h.2.1 (by omega) (by omega)), fun _ => ?_⟩
    rw [nI_1, ix4, nI_c (by omega), nI_c (by omega), h59, h.f58 hf (by omega), nI_e' (by omega) (by omega)]
    simp only [bI_e, ne_eq, Classical.not_not]
    rw [anyF_s] at hb
    refine ⟨fun q => ?_, fun q => ⟨nI_v (by omega) (by omega), fun q2 => ?_, fun q2 => ⟨nI_v (by omega) (by omega), fun q3 => ?_, fun q3 => ?_⟩⟩⟩
    · exact ih true (by rw [← hb]; simp [q])
    · exact ih false (by rw [← hb]; simp [q, q2])
    · have q4 : (fl f t == v) = false := by simpa using fun z => q3 (congrArg nI z)
      exact ih false (by rw [← hb]; simp [q, q4])
    · exact ih true (by rw [← hb]; simp [q2, q3])
theorem c12_breaks (hK : StK K) (h : mT nT fl ins V) (hL : LW un mo (V 60) (V 61)) {f v : Nat} (hf : f < 4) (hv : v < 100) : Ev G (d + 1) mX12_breaks 0 [(0, .ref 57), (1, .int (nI f)), (2, .int (nI v))] (K, n, V, J, O) (some (.int (bI (brk nT fl ins un mo f v = true)))) (K, n, V, J, O) := wX12_breaks_0 hK (by
  have := c12_breaks5 (G := G) (d := d) (n := n) (J := J) (O := O) hK h hL hf hv nT 0 false (by omega) (by simp)
  exact this)
end Things
end
