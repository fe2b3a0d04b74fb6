/-! ===== stone, of both ===== -/
/-- a slot of the reference not yet used -/
def freeM (s : Nat) (V : SV) : Prop := (V 73 s = 0 ∧ V 77 s = 0 ∧ V 78 s = 0 ∧ V 79 s = 0) ∧ ∀ t, t < 80 → V 74 (80 * s + t) = 0 ∧ V 75 (80 * s + t) = 0
def frNew (N : Nat) : Nat → Nat → Prop := fun x k => N ≤ x ∨ (x = 0 ∧ k = 7) ∨ (70 ≤ x ∧ x ≤ 79) ∨ (x = 57 ∧ (k = 25 ∨ k = 32))
def x00 : SX := (([], fun _ => some 0, fun _ => some 0, none, 0), 0, 0)
section
variable {G : Gp} {d : Nat} {K K' : SK} {n : Nat × Nat} {V V' V1 : SV} {J : SJV} {O O' : SO} {a N s i nS nT nG k kk y : Nat} {ad kd ky : Nat → Nat} {fl : Nat → Nat → Nat} {ins : Nat → Bool} {wt : Nat → Nat} {x : Nat → SX} {x1 x2 : Int32}
theorem freeM_fr (h : freeM s V) (hf : fr (fun x k => (x = 73 ∨ x = 77 ∨ x = 78 ∨ x = 79 → k ≠ s) ∧ (x = 74 ∨ x = 75 → ¬ (80 * s ≤ k ∧ k < 80 * s + 80))) V V') : freeM s V' := by
  obtain ⟨⟨h1, h2, h3, h4⟩, h5⟩ := h
  refine ⟨⟨by rw [hf _ _ (by omega)]; exact h1, by rw [hf _ _ (by omega)]; exact h2, by rw [hf _ _ (by omega)]; exact h3, by rw [hf _ _ (by omega)]; exact h4⟩, fun t ht => ?_⟩
  rw [hf _ _ (by omega), hf _ _ (by omega)]
  exact h5 t ht
theorem stA_sz (hk : kk ≤ 7) : 1 + (stA (kc kk)).length = sz kk := by
  rcases kd_cases hk with rfl | rfl | rfl | rfl | rfl | rfl | rfl | rfl <;> rfl
theorem gI_00 (hk : kk ≤ 7) {ke : Nat → Nat} : gI kk ke (inS 0 ins) x00.1 := by
  have h : hld (inS 0 ins) [] := ⟨List.nodup_nil, fun t => ⟨fun q => absurd q (by simp), fun q => absurd q.1 (by omega)⟩⟩
  have hs : srt ke [] := List.Pairwise.nil
  rcases kd_cases hk with rfl | rfl | rfl | rfl | rfl | rfl | rfl | rfl
  · trivial
  · exact h
  · exact ⟨h, hs⟩
  · exact h
  · exact h
  · exact ⟨h, hs, TS_none.mpr rfl⟩
  · trivial
  · exact ⟨h, hs⟩
theorem pb0 : pbF (fun _ => some 0) := fun t u e => by
  have : (0 : Nat) = u := Option.some.inj e
  omega
theorem MR_00 (hk : kk ≤ 7) (h : freeM s V) (h76 : V 76 s = -1) : MR kk s x00.1 V := by
  obtain ⟨⟨h1, h2, h3, h4⟩, h5⟩ := h
  have hr : RowM s 0 (nmL []) V := ⟨by omega, h1, fun j hj => absurd hj (by omega)⟩
  rcases kd_cases hk with rfl | rfl | rfl | rfl | rfl | rfl | rfl | rfl
  · exact h1
  · exact hr
  · exact hr
  · exact hr
  · exact hr
  · exact ⟨⟨by decide, pb0, pb0, fun u e => by cases e⟩, h1, h76, h5⟩
  · exact h2
  · exact hr
theorem CR_00 (hk : kk ≤ 7) {ke : Nat → Nat} : CR kk a ke x00.1 (vSt V a (kc kk) i y) := by
  have hl := stA_sz hk
  have v0 : ∀ {j : Nat}, j ≠ 1 → j ≠ 2 → j ≠ 12 → vSt V a (kc kk) i y a j = 0 := fun {j} h1 h2 h3 => by
    unfold vSt
    rw [if_pos (by omega), if_pos rfl, if_neg h1, if_neg h2, if_neg (fun z => h3 z.1)]
  have vc : ∀ {c j : Nat}, 1 ≤ c → c < sz kk → vSt V a (kc kk) i y (a + c) j = 0 := fun {c} {j} h1 h2 => by
    unfold vSt
    rw [if_pos (by omega), if_neg (by omega)]
  have hr : RowC a 0 (nmL []) (vSt V a (kc kk) i y) := ⟨by omega, v0 (by decide) (by decide) (by decide), fun j hj => absurd hj (by omega)⟩
  rcases kd_cases hk with rfl | rfl | rfl | rfl | rfl | rfl | rfl | rfl
  · trivial
  · exact hr
  · exact hr
  · exact hr
  · exact hr
  · refine ⟨⟨by decide, pb0, pb0, fun u e => by cases e⟩, v0 (by decide) (by decide) (by decide), ?_, fun t ht => ⟨vc (by decide) (by decide), vc (by decide) (by decide)⟩⟩
    unfold vSt
    rw [if_pos (by omega), if_pos rfl]
    rfl
  · exact v0 (by decide) (by decide) (by decide)
  · refine ⟨hr, fun j hj => ?_⟩
    obtain rfl : j = 0 := Nat.le_zero.mp hj
    exact vc (by decide) (by decide)
theorem IsSt_k {ci : Nat} (h : IsSt K a ci y) (ha : a + 1 + (stA ci).length ≤ N) (hk : ∀ b, b < N → K' b = K b) : IsSt K' a ci y := ⟨h.1, by rw [hk _ (by omega)]; exact h.2.1, fun j c e => by
  have h4 : j < (stA ci).length := (List.getElem?_eq_some_iff.mp e).1
  rw [hk _ (by omega)]
  exact h.2.2 j c e⟩
end
