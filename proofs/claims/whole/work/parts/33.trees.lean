/-! ===== trees: what they hold, pure ===== -/
def upF (f : Nat → Option Nat) (a : Nat) (x : Option Nat) : Nat → Option Nat := fun i => if i = a then x else f i
theorem upF_s {f : Nat → Option Nat} {a : Nat} {x : Option Nat} : upF f a x a = x := if_pos rfl
theorem upF_n {f : Nat → Option Nat} {a i : Nat} {x : Option Nat} (h : i ≠ a) : upF f a x i = f i := if_neg h
def lts (ke : Nat → Nat) (a b : Nat) : Prop := ke a < ke b ∨ (ke a = ke b ∧ a < b)
theorem ah_lts {ke : Nat → Nat} {a b : Nat} : (ah ke (ke b) (some b) a = true) = lts ke a b := by
  unfold ah lts
  simp [Bool.or_eq_true, Bool.and_eq_true]
def srt (ke : Nat → Nat) (L : List Nat) : Prop := L.Pairwise (lts ke)
theorem lts_ir {ke : Nat → Nat} {a : Nat} : ¬ lts ke a a := by
  unfold lts
  omega
theorem lts_as {ke : Nat → Nat} {a b : Nat} (h : lts ke a b) : ¬ lts ke b a := by
  unfold lts at *
  omega
theorem lts_to {ke : Nat → Nat} {a b : Nat} (h : ¬ lts ke a b) (hn : b ≠ a) : lts ke b a := by
  unfold lts at *
  omega
/-- the tree below o holds L, in order -/
def TS (lc rc : Nat → Option Nat) : Nat → Option Nat → List Nat → Prop
  | 0, o, L => o = none ∧ L = []
  | h + 1, o, L => match o with
    | none => L = []
    | some t => ∃ A B, L = A ++ t :: B ∧ TS lc rc h (lc t) A ∧ TS lc rc h (rc t) B
theorem TS_none {lc rc : Nat → Option Nat} {h : Nat} {L : List Nat} : TS lc rc h none L ↔ L = [] := by
  cases h with
  | zero => simp [TS]
  | succ h => simp [TS]
theorem TS_mono1 {lc rc : Nat → Option Nat} : ∀ {h : Nat} {o : Option Nat} {L : List Nat}, TS lc rc h o L → TS lc rc (h + 1) o L
  | 0, o, L, q => by
    obtain ⟨rfl, rfl⟩ := q
    rfl
  | h + 1, none, L, q => q
  | h + 1, some t, L, ⟨A, B, e, q1, q2⟩ => ⟨A, B, e, TS_mono1 q1, TS_mono1 q2⟩
theorem TS_mono {lc rc : Nat → Option Nat} {h : Nat} {o : Option Nat} {L : List Nat} (q : TS lc rc h o L) : ∀ k, TS lc rc (h + k) o L
  | 0 => q
  | k + 1 => TS_mono1 (TS_mono q k)
theorem TS_le {lc rc : Nat → Option Nat} {h h' : Nat} {o : Option Nat} {L : List Nat} (q : TS lc rc h o L) (hh : h ≤ h') : TS lc rc h' o L := by
  have := TS_mono q (h' - h)
  rwa [show h + (h' - h) = h' by omega] at this
theorem TS_len {lc rc : Nat → Option Nat} : ∀ {h : Nat} {o : Option Nat} {L : List Nat}, TS lc rc h o L → TS lc rc L.length o L
  | 0, o, L, q => by
    obtain ⟨rfl, rfl⟩ := q
    exact ⟨rfl, rfl⟩
  | h + 1, none, L, q => by
    rw [TS_none] at q ⊢
    exact q
  | h + 1, some t, L, ⟨A, B, e, q1, q2⟩ => by
    subst e
    rw [List.length_append, List.length_cons, ← Nat.add_assoc]
    exact ⟨A, B, rfl, TS_le (TS_len q1) (by omega), TS_le (TS_len q2) (by omega)⟩
theorem TS_congr {lc rc lc' rc' : Nat → Option Nat} : ∀ {h : Nat} {o : Option Nat} {L : List Nat}, (∀ u, u ∈ L → lc' u = lc u ∧ rc' u = rc u) → TS lc rc h o L → TS lc' rc' h o L
  | 0, o, L, _, q => q
  | h + 1, none, L, _, q => q
  | h + 1, some t, L, g, ⟨A, B, e, q1, q2⟩ => by
    subst e
    obtain ⟨g1, g2⟩ := g t (by simp)
    refine ⟨A, B, rfl, ?_, ?_⟩
    · rw [g1]; exact TS_congr (fun u hu => g u (by simp [hu])) q1
    · rw [g2]; exact TS_congr (fun u hu => g u (by simp [hu])) q2
theorem TS_mem {lc rc : Nat → Option Nat} {h t : Nat} {L : List Nat} (q : TS lc rc h (some t) L) : t ∈ L := by
  cases h with
  | zero => simp [TS] at q
  | succ h =>
    obtain ⟨A, B, e, -⟩ := q
    rw [e]; simp
def sd (ke : Nat → Nat) (lc rc : Nat → Option Nat) (t k : Nat) : Option Nat := if ah ke (ke k) (some k) t = true then lc k else rc k
/-- going down to where t is put: the last knot, and the looks -/
def dn (ke : Nat → Nat) (lc rc : Nat → Option Nat) (t : Nat) : Nat → Nat → Nat → Nat × Nat
  | 0, k, c => (k, c)
  | f + 1, k, c => match sd ke lc rc t k with
    | none => (k, c + 1)
    | some k' => dn ke lc rc t f k' (c + 1)
def pl (ke : Nat → Nat) (lc : Nat → Option Nat) (t p : Nat) : Nat → Option Nat := if ah ke (ke p) (some p) t = true then upF (upF lc t none) p (some t) else upF lc t none
def pr (ke : Nat → Nat) (rc : Nat → Option Nat) (t p : Nat) : Nat → Option Nat := if ah ke (ke p) (some p) t = true then upF rc t none else upF (upF rc t none) p (some t)
theorem pl_o {ke : Nat → Nat} {lc : Nat → Option Nat} {t p u : Nat} (h1 : u ≠ t) (h2 : u ≠ p) : pl ke lc t p u = lc u := by
  unfold pl
  split
  · rw [upF_n h2, upF_n h1]
  · rw [upF_n h1]
theorem pr_o {ke : Nat → Nat} {lc : Nat → Option Nat} {t p u : Nat} (h1 : u ≠ t) (h2 : u ≠ p) : pr ke lc t p u = lc u := by
  unfold pr
  split
  · rw [upF_n h1]
  · rw [upF_n h2, upF_n h1]
theorem pl_t {ke : Nat → Nat} {lc : Nat → Option Nat} {t p : Nat} (h : p ≠ t) : pl ke lc t p t = none := by
  unfold pl
  split
  · rw [upF_n (Ne.symm h), upF_s]
  · rw [upF_s]
theorem pr_t {ke : Nat → Nat} {lc : Nat → Option Nat} {t p : Nat} (h : p ≠ t) : pr ke lc t p t = none := by
  unfold pr
  split
  · rw [upF_s]
  · rw [upF_n (Ne.symm h), upF_s]
theorem app_mid {A B X Y : List Nat} {k : Nat} (e : X ++ k :: Y = A ++ B) : (k ∈ A ∧ ∃ A1, A = X ++ k :: A1 ∧ Y = A1 ++ B) ∨ (k ∈ B ∧ ∃ B1, B = B1 ++ k :: Y ∧ X = A ++ B1) := by
  rcases List.append_eq_append_iff.mp e with ⟨as, h1, h2⟩ | ⟨bs, h1, h2⟩
  · cases as with
    | nil =>
      right
      simp only [List.nil_append] at h2
      exact ⟨by rw [← h2]; simp, [], by rw [← h2]; rfl, by simpa using h1.symm⟩
    | cons a as =>
      left
      simp only [List.cons_append, List.cons.injEq] at h2
      obtain ⟨rfl, h3⟩ := h2
      exact ⟨by rw [h1]; simp, as, h1, h3⟩
  · right
    exact ⟨by rw [h2]; simp, bs, h2, h1⟩
theorem put_pure {ke : Nat → Nat} {lc rc : Nat → Option Nat} {t : Nat} : ∀ {h f k c : Nat} {A B : List Nat}, h ≤ f → TS lc rc h (some k) (A ++ B) → srt ke (A ++ B) → (∀ u, u ∈ A → lts ke u t) → (∀ u, u ∈ B → lts ke t u) → ∃ p c', dn ke lc rc t f k c = (p, c') ∧ p ∈ A ++ B ∧ sd ke lc rc t p = none ∧ c < c' ∧ c' ≤ c + (A ++ B).length ∧ TS (pl ke lc t p) (pr ke rc t p) (h + 1) (some k) (A ++ t :: B)
  | 0, f, k, c, A, B, hf, q, hs, hA, hB => by
    simp [TS] at q
  | h + 1, 0, k, c, A, B, hf, q, hs, hA, hB => by omega
  | h + 1, f + 1, k, c, A, B, hf, ⟨X, Y, e, q1, q2⟩, hs, hA, hB => by
    have ht : ∀ u, u ∈ A ++ B → u ≠ t := fun u hu hx => by
      subst hx
      rcases List.mem_append.mp hu with h | h
      · exact lts_ir (hA _ h)
      · exact lts_ir (hB _ h)
    have hs' := hs
    rw [e] at hs'
    have hs2 := List.pairwise_append.mp hs'
    obtain ⟨hsX, hsY, hXY⟩ := hs2
    have hsY2 := List.pairwise_cons.mp hsY
    have hkt : k ≠ t := ht k (by rw [e]; simp)
    have hnX : ∀ u, u ∈ X → u ≠ k := fun u hu hx => by
      subst hx
      exact lts_ir (hXY _ hu _ (by simp))
    have hnY : ∀ u, u ∈ Y → u ≠ k := fun u hu hx => by
      subst hx
      exact lts_ir (hsY2.1 _ hu)
    have hXYn : ∀ u, u ∈ X → ∀ v, v ∈ Y → u ≠ v := fun u hu v hv hx => by
      subst hx
      exact lts_ir (hXY _ hu _ (by simp [hv]))
    have htX : ∀ u, u ∈ X → u ≠ t := fun u hu => ht u (by rw [e]; simp [hu])
    have htY : ∀ u, u ∈ Y → u ≠ t := fun u hu => ht u (by rw [e]; simp [hu])
    rcases app_mid e.symm with ⟨hk, A1, eA, eY⟩ | ⟨hk, B1, eB, eX⟩
    · -- to the right
      have hl : ¬ (ah ke (ke k) (some k) t = true) := by
        rw [ah_lts]
        exact lts_as (hA k hk)
      have esd : sd ke lc rc t k = rc k := if_neg hl
      unfold dn
      rw [esd]
      cases hrk : rc k with
      | none =>
        rw [hrk, TS_none] at q2
        subst q2
        obtain ⟨rfl, rfl⟩ := List.append_eq_nil_iff.mp eY.symm
        refine ⟨k, c + 1, rfl, by simp [hk], by rw [esd, hrk], by omega, by rw [e]; simp, ?_⟩
        refine ⟨X, [t], by rw [eA]; simp, ?_, ?_⟩
        · rw [show pl ke lc t k k = lc k from by unfold pl; rw [if_neg hl, upF_n hkt]]
          exact TS_mono1 (TS_congr (fun u hu => ⟨pl_o (htX u hu) (hnX u hu), pr_o (htX u hu) (hnX u hu)⟩) q1) |> fun z => TS_le z (by omega)
        · rw [show pr ke rc t k k = some t from by unfold pr; rw [if_neg hl, upF_s]]
          exact ⟨[], [], rfl, by rw [pl_t hkt]; exact TS_none.mpr rfl, by rw [pr_t hkt]; exact TS_none.mpr rfl⟩
      | some k' =>
        rw [hrk, eY] at q2
        obtain ⟨p, c', g1, g2, g3, g4, g5, g6⟩ := put_pure (t := t) (f := f) (c := c + 1) (by omega) q2 (by rw [← eY]; exact hsY2.2) (fun u hu => hA u (by rw [eA]; simp [hu])) hB
        have hpY : p ∈ Y := by rw [eY]; exact g2
        refine ⟨p, c', g1, by rw [e]; simp [hpY], g3, by omega, ?_, ?_⟩
        · rw [e, List.length_append, List.length_cons, eY]
          omega
        · refine ⟨X, A1 ++ t :: B, by rw [eA]; simp, ?_, ?_⟩
          · rw [pl_o hkt (fun h => hnY p hpY h.symm)]
            exact TS_mono1 (TS_congr (fun u hu => ⟨pl_o (htX u hu) (hXYn u hu p hpY), pr_o (htX u hu) (hXYn u hu p hpY)⟩) q1)
          · rw [pr_o hkt (fun h => hnY p hpY h.symm), hrk]
            exact g6
    · -- to the left
      have hl : ah ke (ke k) (some k) t = true := by
        rw [ah_lts]
        exact hB k hk
      have esd : sd ke lc rc t k = lc k := if_pos hl
      unfold dn
      rw [esd]
      cases hrk : lc k with
      | none =>
        rw [hrk, TS_none] at q1
        subst q1
        obtain ⟨rfl, rfl⟩ := List.append_eq_nil_iff.mp eX.symm
        refine ⟨k, c + 1, rfl, by simp [hk], by rw [esd, hrk], by omega, by rw [e]; simp, ?_⟩
        refine ⟨[t], Y, by rw [eB]; simp, ?_, ?_⟩
        · rw [show pl ke lc t k k = some t from by unfold pl; rw [if_pos hl, upF_s]]
          exact ⟨[], [], rfl, by rw [pl_t hkt]; exact TS_none.mpr rfl, by rw [pr_t hkt]; exact TS_none.mpr rfl⟩
        · rw [show pr ke rc t k k = rc k from by unfold pr; rw [if_pos hl, upF_n hkt]]
          exact TS_mono1 (TS_congr (fun u hu => ⟨pl_o (htY u hu) (hnY u hu), pr_o (htY u hu) (hnY u hu)⟩) q2)
      | some k' =>
        rw [hrk, eX] at q1
        obtain ⟨p, c', g1, g2, g3, g4, g5, g6⟩ := put_pure (t := t) (f := f) (c := c + 1) (by omega) q1 (by rw [← eX]; exact hsX) hA (fun u hu => hB u (by rw [eB]; simp [hu]))
        have hpX : p ∈ X := by rw [eX]; exact g2
        refine ⟨p, c', g1, by rw [e]; simp [hpX], g3, by omega, ?_, ?_⟩
        · rw [e, List.length_append, List.length_cons, eX]
          omega
        · refine ⟨A ++ t :: B1, Y, by rw [eB]; simp, ?_, ?_⟩
          · rw [pl_o hkt (fun h => hnX p hpX h.symm), hrk]
            exact g6
          · rw [pr_o hkt (fun h => hnX p hpX h.symm)]
            exact TS_mono1 (TS_congr (fun u hu => ⟨pl_o (htY u hu) (fun h => hXYn p hpX u hu h.symm), pr_o (htY u hu) (fun h => hXYn p hpX u hu h.symm)⟩) q2)
