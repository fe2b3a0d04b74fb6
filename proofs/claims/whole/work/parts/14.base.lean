/-! ===== small words of the contracts ===== -/
def bI (p : Prop) [Decidable p] : Int32 := if p then 1 else 0
theorem bI_t {p : Prop} [Decidable p] (h : p) : bI p = 1 := if_pos h
theorem bI_f {p : Prop} [Decidable p] (h : ¬ p) : bI p = 0 := if_neg h
theorem bI_e {p : Prop} [Decidable p] : (bI p = 0) = ¬ p := by
  by_cases h : p
  · rw [bI_t h]; simp [h]
  · rw [bI_f h]; simp [h]
theorem bI_n {p : Prop} [Decidable p] : (bI p ≠ 0) = p := by
  by_cases h : p
  · rw [bI_t h]; simp [h]
  · rw [bI_f h]; simp [h]
theorem bI_n' {p : Prop} [Decidable p] : (¬ bI p = 0) = p := bI_n
theorem bI_z {p : Prop} [Decidable p] : bI p = 0 ∨ bI p = 1 := by
  by_cases h : p
  · exact Or.inr (bI_t h)
  · exact Or.inl (bI_f h)
theorem bI_c {p q : Prop} [Decidable p] [Decidable q] (h : p ↔ q) : bI p = bI q := by
  by_cases k : p
  · rw [bI_t k, bI_t (h.mp k)]
  · rw [bI_f k, bI_f (fun l => k (h.mpr l))]
theorem nar0 : vp_nar .boolean 0 = 0 := by decide
theorem nar1 : vp_nar .boolean 1 = 1 := by decide
/-- steps t, t + 1 .. (k of them) -/
def itr {α : Type} (f : Nat → α → α) : Nat → Nat → α → α
  | 0, _, a => a
  | k + 1, t, a => itr f k (t + 1) (f t a)
theorem itr_eq {α : Type} {f g : Nat → α → α} : ∀ {k t : Nat} {a : α}, (∀ j b, t ≤ j → j < t + k → f j b = g j b) → itr f k t a = itr g k t a
  | 0, _, _, _ => rfl
  | k + 1, t, a, h => by
    show itr f k (t + 1) (f t a) = itr g k (t + 1) (g t a)
    rw [h t a (Nat.le_refl _) (by omega)]
    exact itr_eq fun j b h1 h2 => h j b (by omega) (by omega)
theorem itr_snoc {α : Type} {f : Nat → α → α} : ∀ {k t : Nat} {a : α}, itr f (k + 1) t a = f (t + k) (itr f k t a)
  | 0, _, _ => rfl
  | k + 1, t, a => by
    show itr f (k + 1) (t + 1) (f t a) = f (t + (k + 1)) (itr f k (t + 1) (f t a))
    rw [itr_snoc, show t + 1 + k = t + (k + 1) by omega]
/-- the first of t, t + 1 .. t + k - 1 with p; t + k, if there is none -/
def ffst (p : Nat → Bool) : Nat → Nat → Nat
  | 0, t => t
  | k + 1, t => if p t then t else ffst p k (t + 1)
theorem ffst_le (p : Nat → Bool) : ∀ k t, t ≤ ffst p k t ∧ ffst p k t ≤ t + k
  | 0, t => ⟨Nat.le_refl _, Nat.le_refl _⟩
  | k + 1, t => by
    unfold ffst
    have h := ffst_le p k (t + 1)
    split
    · omega
    · omega
theorem ffst_yes (p : Nat → Bool) : ∀ k t, ffst p k t < t + k → p (ffst p k t) = true
  | 0, t, h => absurd h (by simp [ffst])
  | k + 1, t, h => by
    unfold ffst at h ⊢
    split
    · assumption
    · rename_i q
      rw [if_neg q] at h
      exact ffst_yes p k (t + 1) (by omega)
theorem ffst_no (p : Nat → Bool) : ∀ k t j, t ≤ j → j < ffst p k t → p j = false
  | 0, t, j, h1, h2 => absurd h2 (by simp [ffst]; omega)
  | k + 1, t, j, h1, h2 => by
    unfold ffst at h2
    split at h2
    · omega
    · rename_i q
      by_cases e : j = t
      · subst e; simpa using q
      · exact ffst_no p k (t + 1) j (by omega) h2
theorem ffst_eq {p q : Nat → Bool} : ∀ {k t : Nat}, (∀ j, t ≤ j → j < t + k → p j = q j) → ffst p k t = ffst q k t
  | 0, _, _ => rfl
  | k + 1, t, h => by
    unfold ffst
    rw [h t (Nat.le_refl _) (by omega), ffst_eq (k := k) (t := t + 1) fun j h1 h2 => h j (by omega) (by omega)]
theorem nI_mul (a b : Nat) : nI a * nI b = nI (a * b) := by
  unfold nI
  exact (Int32.ofNat_mul a b).symm
theorem nI_lt80 {a : Nat} (h : a < 100000) : a < 2 ^ 31 := by omega
theorem nI_c {a : Nat} (h : a < 100000) : (nI a).toNatClampNeg = a := nI_clamp (by omega)
theorem nI_v {a N : Nat} (h : a < N) (hN : N < 100000) : vp_in (nI a) N := vp_in_nI h (by omega)
theorem nI_l' {a b : Nat} (ha : a < 100000) (hb : b < 100000) : nI a < nI b ↔ a < b := nI_ltI (by omega) (by omega)
theorem nI_le' {a b : Nat} (ha : a < 100000) (hb : b < 100000) : nI a ≤ nI b ↔ a ≤ b := nI_leI (by omega) (by omega)
theorem nI_e' {a b : Nat} (ha : a < 100000) (hb : b < 100000) : nI a = nI b ↔ a = b := nI_eq (by omega) (by omega)
theorem nI_s {a b : Nat} (h : b ≤ a) : nI a - nI b = nI (a - b) := by
  have := nI_add (a - b) b
  rw [Nat.sub_add_cancel h] at this
  rw [← this, Int32.add_sub_cancel]
theorem nI_ti {a : Nat} (h : a < 100000) : (nI a).toInt = a := nI_toInt (by omega)
/-- x lies between lo and hi -/
abbrev btw (lo x hi : Int32) : Prop := lo ≤ x ∧ x ≤ hi
theorem btw_n {x : Int32} {N : Nat} (hN : N < 100000) (h : btw 0 x (nI N)) : ∃ k, k ≤ N ∧ x = nI k := by
  obtain ⟨j, h1, h2⟩ := nI_of2 (M := nI N) (n := N) (nI_ti hN) (by
    have := h.1
    rw [Int32.not_lt]
    exact this) h.2
  exact ⟨j, h1, h2⟩
theorem lp_out {x : Int32} {N t : Nat} (hT : x = nI N) (h : N ≤ t) (ht : t < 100000) : x ≤ nI t := by
  rw [hT, nI_le' (by omega) ht]
  exact h
theorem lp_in {x : Int32} {N t : Nat} (hT : x = nI N) (h : t < N) (hN : N < 100000) : ¬ x ≤ nI t := by
  rw [hT, nI_le' hN (by omega)]
  omega
def anyF (p : Nat → Bool) : Nat → Nat → Bool
  | 0, _ => false
  | k + 1, t => p t || anyF p k (t + 1)
theorem anyF_iff {p : Nat → Bool} : ∀ {k t : Nat}, anyF p k t = true ↔ ∃ j, t ≤ j ∧ j < t + k ∧ p j = true
  | 0, t => ⟨fun h => (by cases h), fun ⟨j, h1, h2, _⟩ => (by omega)⟩
  | k + 1, t => by
    unfold anyF
    rw [Bool.or_eq_true, anyF_iff]
    constructor
    · rintro (h | ⟨j, h1, h2, h3⟩)
      · exact ⟨t, Nat.le_refl _, by omega, h⟩
      · exact ⟨j, by omega, by omega, h3⟩
    · rintro ⟨j, h1, h2, h3⟩
      by_cases e : j = t
      · subst e; exact Or.inl h3
      · exact Or.inr ⟨j, by omega, by omega, h3⟩
theorem anyF_eq {p q : Nat → Bool} : ∀ {k t : Nat}, (∀ j, t ≤ j → j < t + k → p j = q j) → anyF p k t = anyF q k t
  | 0, _, _ => rfl
  | k + 1, t, h => by
    unfold anyF
    rw [h t (Nat.le_refl _) (by omega), anyF_eq (k := k) (t := t + 1) fun j h1 h2 => h j (by omega) (by omega)]
/-- the sum of v over those of t .. t + k - 1 with p -/
def sumF (p : Nat → Bool) (v : Nat → Nat) : Nat → Nat → Nat
  | 0, _ => 0
  | k + 1, t => (if p t then v t else 0) + sumF p v k (t + 1)
theorem sumF_le {p : Nat → Bool} {v : Nat → Nat} {c : Nat} : ∀ {k t : Nat}, (∀ j, t ≤ j → j < t + k → v j ≤ c) → sumF p v k t ≤ c * k
  | 0, _, _ => Nat.le_refl _
  | k + 1, t, h => by
    unfold sumF
    have h1 := sumF_le (p := p) (k := k) (t := t + 1) fun j h1 h2 => h j (by omega) (by omega)
    have h2 := h t (Nat.le_refl _) (by omega)
    rw [Nat.mul_succ]
    split <;> omega
/-- what differs between two states of the ints lies in P -/
def fr (P : Nat → Nat → Prop) (V V' : SV) : Prop := ∀ a k, ¬ P a k → V' a k = V a k
theorem fr_rfl {P : Nat → Nat → Prop} {V : SV} : fr P V V := fun _ _ _ => rfl
theorem fr_up {P : Nat → Nat → Prop} {V V' : SV} (h : fr P V V') {a k : Nat} {x : Int32} (hp : P a k) : fr P V (up2 V' a k x) := fun b j hb => by
  have : ¬ (b = a ∧ j = k) := fun ⟨h1, h2⟩ => hb (h1 ▸ h2 ▸ hp)
  show (if b = a ∧ j = k then x else V' b j) = _
  rw [if_neg this]
  exact h b j hb
theorem fr_upA {P : Nat → Nat → Prop} {V V' : SV} (h : fr P V V') {a : Nat} {f : Nat → Int32} (hp : ∀ k, P a k) : fr P V (upA V' a f) := fun b j hb => by
  have : ¬ b = a := fun h1 => hb (h1 ▸ hp j)
  show (if b = a then f else V' b) j = _
  rw [if_neg this]
  exact h b j hb
theorem fr_tr {P Q : Nat → Nat → Prop} {V V' V'' : SV} (h : fr P V V') (h2 : fr Q V' V'') : fr (fun a k => P a k ∨ Q a k) V V'' := fun a k q => (h2 a k fun p => q (Or.inr p)).trans (h a k fun p => q (Or.inl p))
theorem fr_mo {P Q : Nat → Nat → Prop} {V V' : SV} (h : fr P V V') (hp : ∀ a k, P a k → Q a k) : fr Q V V' := fun a k q => h a k fun p => q (hp a k p)
theorem btw_iff {x : Int32} {N : Nat} (hN : N < 100000) : btw 0 x (nI N) ↔ ∃ t, t ≤ N ∧ x = nI t := by
  constructor
  · exact btw_n hN
  · rintro ⟨t, h, rfl⟩
    exact ⟨nI_pos' (by omega), nI_le h (by omega)⟩
theorem ix_iff {x : Int32} {N : Nat} (hN : N < 100000) : btw 0 x (nI N - 1) ↔ ∃ t, t < N ∧ x = nI t := by
  cases N with
  | zero =>
    constructor
    · intro h
      have h1 := Int32.le_iff_toInt_le.mp h.1
      have h2 := Int32.le_iff_toInt_le.mp h.2
      have e1 : (0 : Int32).toInt = 0 := by decide
      have e2 : (nI 0 - 1).toInt = -1 := by decide
      omega
    · rintro ⟨t, h, -⟩
      omega
  | succ N =>
    rw [nI_pred, btw_iff (by omega)]
    constructor
    · rintro ⟨t, h, e⟩
      exact ⟨t, by omega, e⟩
    · rintro ⟨t, h, e⟩
      exact ⟨t, by omega, e⟩
theorem lt_iff {x : Int32} {N : Nat} (hN : N < 100000) : (0 ≤ x ∧ x < nI N) ↔ ∃ t, t < N ∧ x = nI t := by
  constructor
  · rintro ⟨h1, h2⟩
    obtain ⟨j, h3, rfl⟩ := nI_of (Int32.not_lt.mpr h1)
    rw [nI_ltI h3 (by omega)] at h2
    exact ⟨j, h2, rfl⟩
  · rintro ⟨t, h, rfl⟩
    exact ⟨nI_pos' (by omega), nI_lt h (by omega)⟩
theorem w64_le (a b : Int32) : a.toInt64 ≤ b.toInt64 ↔ a ≤ b := by
  rw [Int64.le_iff_toInt_le, Int32.le_iff_toInt_le, Int32.toInt_toInt64, Int32.toInt_toInt64]
theorem anyF_s {p : Nat → Bool} {k t : Nat} : anyF p (k + 1) t = (p t || anyF p k (t + 1)) := rfl
theorem anyF_0 {p : Nat → Bool} {t : Nat} : anyF p 0 t = false := rfl
theorem sumF_s {p : Nat → Bool} {v : Nat → Nat} {k t : Nat} : sumF p v (k + 1) t = (if p t then v t else 0) + sumF p v k (t + 1) := rfl
theorem bt {c A B : Prop} (h : c) (a : A) : (c → A) ∧ (¬ c → B) := ⟨fun _ => a, fun q => absurd h q⟩
theorem bf {c A B : Prop} (h : ¬ c) (b : B) : (c → A) ∧ (¬ c → B) := ⟨fun q => absurd q h, fun _ => b⟩
theorem nt {α : Type} {x y : α} {A B : Prop} (h : x ≠ y) (a : A) : (x ≠ y → A) ∧ (x = y → B) := ⟨fun _ => a, fun q => absurd q h⟩
theorem nf {α : Type} {x y : α} {A B : Prop} (h : x = y) (b : B) : (x ≠ y → A) ∧ (x = y → B) := ⟨fun q => absurd h q, fun _ => b⟩
theorem ev_b {G : Gp} {d : Nat} {M : AM} {pc : Nat} {ls : AL} {s t : SG} {p : Prop} [Decidable p] (hE : Ev G d M pc ls s (some (.int (bI p))) t) (h : p) : Ev G d M pc ls s (some (.int 1)) t := by
  rw [bI_t h] at hE
  exact hE
theorem ev_n {G : Gp} {d : Nat} {M : AM} {pc : Nat} {ls : AL} {s t : SG} {p : Prop} [Decidable p] (hE : Ev G d M pc ls s (some (.int (bI p))) t) (h : ¬ p) : Ev G d M pc ls s (some (.int 0)) t := by
  rw [bI_f h] at hE
  exact hE
theorem ev_i {G : Gp} {d : Nat} {M : AM} {pc : Nat} {ls : AL} {s t : SG} {x y : Int32} (hE : Ev G d M pc ls s (some (.int x)) t) (h : x = y) : Ev G d M pc ls s (some (.int y)) t := h ▸ hE
theorem one0 : ¬ (1 : Int32) = 0 := by decide
theorem bI_r {p : Prop} [Decidable p] : (bI p = 0 → (some (.int (bI p)) : Option Value) = some (.int 0)) ∧ (¬ bI p = 0 → (some (.int (bI p)) : Option Value) = some (.int 1)) := by
  by_cases h : p
  · rw [bI_t h]; exact bf one0 rfl
  · rw [bI_f h]; exact bt rfl rfl
theorem bz_y {p A B : Prop} [Decidable p] (h : p) (b : B) : (bI p = 0 → A) ∧ (¬ bI p = 0 → B) := bf (by rw [bI_t h]; decide) b
theorem bz_n {p A B : Prop} [Decidable p] (h : ¬ p) (a : A) : (bI p = 0 → A) ∧ (¬ bI p = 0 → B) := bt (bI_f h) a
theorem bn_y {p A B : Prop} [Decidable p] (h : p) (a : A) : (bI p ≠ 0 → A) ∧ (bI p = 0 → B) := nt (by rw [bI_t h]; decide) a
theorem bn_n {p A B : Prop} [Decidable p] (h : ¬ p) (b : B) : (bI p ≠ 0 → A) ∧ (bI p = 0 → B) := nf (bI_f h) b
