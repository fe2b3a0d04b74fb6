section WpHeapBase
variable {G : Gp} {h : AH} {H H1 : Heap}
theorem PI.lt {π : Nat → Nat} {N a : Nat} (h : PI π N) (ha : a < N) : π a < N := by
  apply Nat.not_le.mp
  intro q
  have := h.2.1 _ _ (h.1 _ q)
  omega
theorem PI.up {π : Nat → Nat} {N N' : Nat} (h : PI π N) (hN : N ≤ N') : PI π N' := ⟨fun a ha => h.1 a (Nat.le_trans hN ha), h.2⟩
theorem PI.inv {π : Nat → Nat} {N c : Nat} (h : PI π N) (hc : c < N) : ∃ a, a < N ∧ π a = c := by
  obtain ⟨a, ha⟩ := h.2.2 c
  refine ⟨a, Nat.not_le.mp fun q => ?_, ha⟩
  have := h.1 a q
  omega
theorem PI.id (N : Nat) : PI (fun a => a) N := ⟨fun _ _ => rfl, fun _ _ h => h, fun c => ⟨c, rfl⟩⟩
theorem gp_ge {a : Nat} : gB G ≤ gp G a := Nat.le_add_right _ _
theorem gp_inj {a b : Nat} (hp : PI (gm G) h.2.1) (e : gp G a = gp G b) : a = b := hp.2.1 _ _ (Nat.add_left_cancel e)
theorem gp_lt {a N : Nat} (hp : PI (gm G) N) (ha : a < N) : gp G a < gB G + N := Nat.add_lt_add_left (hp.lt ha) _
theorem gp_new {a N : Nat} (hp : PI (gm G) N) (ha : N ≤ a) : gp G a = gB G + a := congrArg (gB G + ·) (hp.1 a ha)
theorem wsOf_len : (wsOf G h).length = h.2.1 := by simp [wsOf]
theorem wsOf_get (hH : RelH G h H) {a : Nat} {c : AC} (hc : h.1 a = some c) : (wsOf G h)[a]? = some (gp G a, trE G c) := by
  have ha : a < h.2.1 := (hH.2.2.1.1 a).mp ⟨c, hc⟩
  unfold wsOf
  rw [List.getElem?_map, List.getElem?_range ha]
  simp [hc, trO]
theorem wsOf_D (hH : RelH G h H) : va_D (fun q : Nat => gB G ≤ q) (wsOf G h) := by
  have key : ∀ (k : Nat) (q : Nat × va_E), (wsOf G h)[k]? = some q → q.1 = gp G k := by
    intro k q hk
    have hl : k < h.2.1 := by rw [← wsOf_len (G := G)]; exact (List.getElem?_eq_some_iff.mp hk).1
    unfold wsOf at hk
    rw [List.getElem?_map, List.getElem?_range hl] at hk
    cases hk
    rfl
  refine ⟨fun i j p q hi hj hpq => ?_, fun k q hk => ?_⟩
  · rw [key i p hi, key j q hj] at hpq
    exact gp_inj hH.2.2.1.2 hpq
  · rw [key k q hk]
    exact gp_ge
theorem wsOf_set {a : Nat} {c : AC} (ha : a < h.2.1) : (wsOf G h).set a (gp G a, trE G c) = wsOf G (hset h a c) := by
  apply List.ext_getElem?
  intro k
  by_cases hk : a = k
  · subst hk
    rw [List.getElem?_set_self (by rw [wsOf_len]; exact ha)]
    unfold wsOf
    rw [List.getElem?_map, List.getElem?_range (show a < (hset h a c).2.1 from ha)]
    simp [hset, trO]
  · rw [List.getElem?_set_ne hk]
    unfold wsOf
    rw [List.getElem?_map, List.getElem?_map]
    show Option.map _ (List.range h.2.1)[k]? = Option.map _ (List.range h.2.1)[k]?
    by_cases hl : k < h.2.1
    · rw [List.getElem?_range hl]
      simp only [hset, Option.map_some]
      rw [if_neg (fun q => hk q.symm)]
    · rw [List.getElem?_eq_none (by simp; omega)]
      rfl
theorem RelH.S (locs : List Loc) (hl : ∀ q ∈ locs, gB G ≤ q.base) : va_S (fun q : Nat => gB G ≤ q) H H locs := ⟨Nat.le_refl _, fun _ _ _ => rfl, hl⟩
theorem RelH.put (hH : RelH G h H) {a : Nat} {c c' : AC} (hc : h.1 a = some c) {locs1 : List Loc} (hP : va_P (gD G) acls ((wsOf G h).set a (gp G a, trE G c')) H1) (hS : va_S (fun q : Nat => gB G ≤ q) H H1 locs1) (hb : H1.size ≤ gB G + h.2.1) : RelH G (hset h a c') H1 := by
  have ha : a < h.2.1 := (hH.2.2.1.1 a).mp ⟨c, hc⟩
  refine ⟨?_, fun q hq => ?_, ⟨fun x => ?_, hH.2.2.1.2⟩, ?_⟩
  · have h1 := hS.1
    rw [hH.1] at h1
    show H1.size = gB G + h.2.1
    omega
  · rw [← hH.2.1 q hq]
    exact hS.2.1 q (by rw [hH.1]; omega) (by omega)
  · show (∃ c0, (if x = a then some c' else h.1 x) = some c0) ↔ x < h.2.1
    by_cases hx : x = a
    · subst hx
      simp [ha]
    · simp only [hx, if_false]
      exact hH.2.2.1.1 x
  · rw [← wsOf_set ha]
    exact hP
theorem RelH.new (hH : RelH G h H) {c' : AC} {n : Nat} {locs1 : List Loc} {q : Nat} (hP : va_P (gD G) acls (wsOf G h ++ [(q, trE G c')]) H1) (hD : va_D (fun q : Nat => gB G ≤ q) (wsOf G h ++ [(q, trE G c')])) (hS : va_S (fun q : Nat => gB G ≤ q) H H1 locs1) (hb : H1.size ≤ gB G + (h.2.1 + 1)) : q = gp G h.2.1 ∧ RelH G (hnew h c' n) H1 := by
  have hpi := hH.2.2.1.2
  have hq : (wsOf G h ++ [(q, trE G c')])[h.2.1]? = some (q, trE G c') := by
    rw [List.getElem?_append_right (by rw [wsOf_len]; omega), wsOf_len, Nat.sub_self]
    rfl
  have h1 : q < H1.size := (hP _ _ hq).lt
  have h2 : gB G ≤ q := hD.2 _ _ hq
  have hS1 : H.size ≤ H1.size := hS.1
  rw [hH.1] at hS1
  have hqe : q = gB G + h.2.1 := by
    by_cases hlt : q < gB G + h.2.1
    · obtain ⟨a, ha, ea⟩ := hpi.inv (show q - gB G < h.2.1 by omega)
      obtain ⟨c, hc⟩ := (hH.2.2.1.1 a).mpr ha
      have h3 : (wsOf G h ++ [(q, trE G c')])[a]? = some (gp G a, trE G c) := by
        rw [List.getElem?_append_left (by rw [wsOf_len]; exact ha)]
        exact wsOf_get hH hc
      have := hD.1 _ _ _ _ hq h3 (by show q = gB G + gm G a; omega)
      omega
    · omega
  have hge : q = gp G h.2.1 := by rw [gp_new hpi (Nat.le_refl _)]; exact hqe
  refine ⟨hge, ?_, fun x hx => ?_, ⟨fun x => ?_, hpi.up (Nat.le_succ _)⟩, ?_⟩
  · show H1.size = gB G + (h.2.1 + 1)
    omega
  · rw [← hH.2.1 x hx]
    exact hS.2.1 x (by rw [hH.1]; omega) (by omega)
  · show (∃ c0, (if x = h.2.1 then some c' else h.1 x) = some c0) ↔ x < h.2.1 + 1
    by_cases hx : x = h.2.1
    · subst hx
      simp
    · simp only [hx, if_false]
      rw [hH.2.2.1.1 x]
      omega
  · have e : wsOf G (hnew h c' n) = wsOf G h ++ [(gp G h.2.1, trE G c')] := by
      unfold wsOf
      show (List.range (h.2.1 + 1)).map _ = _
      rw [List.range_succ, List.map_append]
      congr 1
      · apply List.map_congr_left
        intro k hk
        have := List.mem_range.mp hk
        simp [hnew, show k ≠ h.2.1 by omega]
      · simp [hnew, trO]
    rw [e, ← hge]
    exact hP
end WpHeapBase
/-- what the tables say of a field's reading -/
def fOK (own : String) (idx ci k : Nat) : Prop := ∃ (C ref : String) (T : u_T) (N : Nat), acls[ci]? = some (C, T, N) ∧ k < N ∧ Cond.fieldLink own idx ref (T k).2.1 (T k).2.2.1 ∈ gtbl ∧ (ref = (T k).1 ∨ Cond.sameField ref (T k).1 (T k).2.1 (T k).2.2.1 ∈ gtbl)
/-- and of its writing -/
def fWK (own : String) (idx ci k : Nat) (ty : FieldType) (fin : Bool) : Prop := ∃ (C ref : String) (T : u_T) (N : Nat), acls[ci]? = some (C, T, N) ∧ k < N ∧ Cond.fieldLink own idx ref (T k).2.1 (T k).2.2.1 ∈ gtbl ∧ (ref = (T k).1 ∨ Cond.sameField ref (T k).1 (T k).2.1 (T k).2.2.1 ∈ gtbl) ∧ parseFieldDescriptor (T k).2.2.1 = some ty ∧ (T k).2.2.2 = fin ∧ (fin = true → (T k).1 = own)
def aclsOK (q : vw_C) : Prop := (∀ w ∈ u_ws q.1 q.2.1 q.2.2, w ∈ gtbl) ∧ (∀ k, k < q.2.2 → ∃ ty, parseFieldDescriptor (q.2.1 k).2.2.1 = some ty) ∧ (∀ a, a < q.2.2 → ∀ b, b < q.2.2 → a ≠ b → (q.2.1 a).2.1 ≠ (q.2.1 b).2.1)
theorem aclsT_0 : (u_ws RX0 tX0 13).all (fun w => decide (w ∈ lw_tbl) && goodWord w) = true := by decide +kernel
theorem aclsP_0 : ∀ k, k < 13 → ∃ ty, parseFieldDescriptor (tX0 k).2.2.1 = some ty := fun k hk => Option.isSome_iff_exists.mp ((by decide +kernel : ∀ k, k < 13 → (parseFieldDescriptor (tX0 k).2.2.1).isSome = true) k hk)
theorem aclsN_0 : ∀ a, a < 13 → ∀ b, b < 13 → a ≠ b → (tX0 a).2.1 ≠ (tX0 b).2.1 := by decide +kernel
theorem aclsT_1 : (u_ws RX1 tX1 12).all (fun w => decide (w ∈ lw_tbl) && goodWord w) = true := by decide +kernel
theorem aclsP_1 : ∀ k, k < 12 → ∃ ty, parseFieldDescriptor (tX1 k).2.2.1 = some ty := fun k hk => Option.isSome_iff_exists.mp ((by decide +kernel : ∀ k, k < 12 → (parseFieldDescriptor (tX1 k).2.2.1).isSome = true) k hk)
theorem aclsN_1 : ∀ a, a < 12 → ∀ b, b < 12 → a ≠ b → (tX1 a).2.1 ≠ (tX1 b).2.1 := by decide +kernel
theorem aclsT_2 : (u_ws RX2 tX2 11).all (fun w => decide (w ∈ lw_tbl) && goodWord w) = true := by decide +kernel
theorem aclsP_2 : ∀ k, k < 11 → ∃ ty, parseFieldDescriptor (tX2 k).2.2.1 = some ty := fun k hk => Option.isSome_iff_exists.mp ((by decide +kernel : ∀ k, k < 11 → (parseFieldDescriptor (tX2 k).2.2.1).isSome = true) k hk)
theorem aclsN_2 : ∀ a, a < 11 → ∀ b, b < 11 → a ≠ b → (tX2 a).2.1 ≠ (tX2 b).2.1 := by decide +kernel
theorem aclsT_3 : (u_ws RX3 tX3 11).all (fun w => decide (w ∈ lw_tbl) && goodWord w) = true := by decide +kernel
theorem aclsP_3 : ∀ k, k < 11 → ∃ ty, parseFieldDescriptor (tX3 k).2.2.1 = some ty := fun k hk => Option.isSome_iff_exists.mp ((by decide +kernel : ∀ k, k < 11 → (parseFieldDescriptor (tX3 k).2.2.1).isSome = true) k hk)
theorem aclsN_3 : ∀ a, a < 11 → ∀ b, b < 11 → a ≠ b → (tX3 a).2.1 ≠ (tX3 b).2.1 := by decide +kernel
theorem aclsT_4 : (u_ws RX4 tX4 11).all (fun w => decide (w ∈ lw_tbl) && goodWord w) = true := by decide +kernel
theorem aclsP_4 : ∀ k, k < 11 → ∃ ty, parseFieldDescriptor (tX4 k).2.2.1 = some ty := fun k hk => Option.isSome_iff_exists.mp ((by decide +kernel : ∀ k, k < 11 → (parseFieldDescriptor (tX4 k).2.2.1).isSome = true) k hk)
theorem aclsN_4 : ∀ a, a < 11 → ∀ b, b < 11 → a ≠ b → (tX4 a).2.1 ≠ (tX4 b).2.1 := by decide +kernel
theorem aclsT_5 : (u_ws RX5 tX5 9).all (fun w => decide (w ∈ lw_tbl) && goodWord w) = true := by decide +kernel
theorem aclsP_5 : ∀ k, k < 9 → ∃ ty, parseFieldDescriptor (tX5 k).2.2.1 = some ty := fun k hk => Option.isSome_iff_exists.mp ((by decide +kernel : ∀ k, k < 9 → (parseFieldDescriptor (tX5 k).2.2.1).isSome = true) k hk)
theorem aclsN_5 : ∀ a, a < 9 → ∀ b, b < 9 → a ≠ b → (tX5 a).2.1 ≠ (tX5 b).2.1 := by decide +kernel
theorem aclsT_6 : (u_ws RX6 tX6 12).all (fun w => decide (w ∈ lw_tbl) && goodWord w) = true := by decide +kernel
theorem aclsP_6 : ∀ k, k < 12 → ∃ ty, parseFieldDescriptor (tX6 k).2.2.1 = some ty := fun k hk => Option.isSome_iff_exists.mp ((by decide +kernel : ∀ k, k < 12 → (parseFieldDescriptor (tX6 k).2.2.1).isSome = true) k hk)
theorem aclsN_6 : ∀ a, a < 12 → ∀ b, b < 12 → a ≠ b → (tX6 a).2.1 ≠ (tX6 b).2.1 := by decide +kernel
theorem aclsT_7 : (u_ws RX7 tX7 11).all (fun w => decide (w ∈ lw_tbl) && goodWord w) = true := by decide +kernel
theorem aclsP_7 : ∀ k, k < 11 → ∃ ty, parseFieldDescriptor (tX7 k).2.2.1 = some ty := fun k hk => Option.isSome_iff_exists.mp ((by decide +kernel : ∀ k, k < 11 → (parseFieldDescriptor (tX7 k).2.2.1).isSome = true) k hk)
theorem aclsN_7 : ∀ a, a < 11 → ∀ b, b < 11 → a ≠ b → (tX7 a).2.1 ≠ (tX7 b).2.1 := by decide +kernel
theorem aclsT_8 : (u_ws RX8 tX8 10).all (fun w => decide (w ∈ lw_tbl) && goodWord w) = true := by decide +kernel
theorem aclsP_8 : ∀ k, k < 10 → ∃ ty, parseFieldDescriptor (tX8 k).2.2.1 = some ty := fun k hk => Option.isSome_iff_exists.mp ((by decide +kernel : ∀ k, k < 10 → (parseFieldDescriptor (tX8 k).2.2.1).isSome = true) k hk)
theorem aclsN_8 : ∀ a, a < 10 → ∀ b, b < 10 → a ≠ b → (tX8 a).2.1 ≠ (tX8 b).2.1 := by decide +kernel
theorem aclsT_9 : (u_ws RX9 tX9 11).all (fun w => decide (w ∈ lw_tbl) && goodWord w) = true := by decide +kernel
theorem aclsP_9 : ∀ k, k < 11 → ∃ ty, parseFieldDescriptor (tX9 k).2.2.1 = some ty := fun k hk => Option.isSome_iff_exists.mp ((by decide +kernel : ∀ k, k < 11 → (parseFieldDescriptor (tX9 k).2.2.1).isSome = true) k hk)
theorem aclsN_9 : ∀ a, a < 11 → ∀ b, b < 11 → a ≠ b → (tX9 a).2.1 ≠ (tX9 b).2.1 := by decide +kernel
theorem aclsT_10 : (u_ws RX10 tX10 14).all (fun w => decide (w ∈ lw_tbl) && goodWord w) = true := by decide +kernel
theorem aclsP_10 : ∀ k, k < 14 → ∃ ty, parseFieldDescriptor (tX10 k).2.2.1 = some ty := fun k hk => Option.isSome_iff_exists.mp ((by decide +kernel : ∀ k, k < 14 → (parseFieldDescriptor (tX10 k).2.2.1).isSome = true) k hk)
theorem aclsN_10 : ∀ a, a < 14 → ∀ b, b < 14 → a ≠ b → (tX10 a).2.1 ≠ (tX10 b).2.1 := by decide +kernel
theorem aclsT_11 : (u_ws RX11 tX11 18).all (fun w => decide (w ∈ lw_tbl) && goodWord w) = true := by decide +kernel
theorem aclsP_11 : ∀ k, k < 18 → ∃ ty, parseFieldDescriptor (tX11 k).2.2.1 = some ty := fun k hk => Option.isSome_iff_exists.mp ((by decide +kernel : ∀ k, k < 18 → (parseFieldDescriptor (tX11 k).2.2.1).isSome = true) k hk)
theorem aclsN_11 : ∀ a, a < 18 → ∀ b, b < 18 → a ≠ b → (tX11 a).2.1 ≠ (tX11 b).2.1 := by decide +kernel
theorem aclsT_12 : (u_ws RX12 tX12 57).all (fun w => decide (w ∈ lw_tbl) && goodWord w) = true := by decide +kernel
theorem aclsP_12 : ∀ k, k < 57 → ∃ ty, parseFieldDescriptor (tX12 k).2.2.1 = some ty := fun k hk => Option.isSome_iff_exists.mp ((by decide +kernel : ∀ k, k < 57 → (parseFieldDescriptor (tX12 k).2.2.1).isSome = true) k hk)
theorem aclsN_12 : ∀ a, a < 57 → ∀ b, b < 57 → a ≠ b → (tX12 a).2.1 ≠ (tX12 b).2.1 := by decide +kernel
theorem acls_ok {ci : Nat} {q : vw_C} (h : acls[ci]? = some q) : aclsOK q := by
  have hmem : ∀ {C : String} {T : u_T} {N : Nat}, (u_ws C T N).all (fun w => decide (w ∈ lw_tbl) && goodWord w) = true → ∀ w ∈ u_ws C T N, w ∈ gtbl := by
    intro C T N h w hw
    have := List.all_eq_true.mp h w hw
    rw [Bool.and_eq_true, decide_eq_true_eq] at this
    exact List.mem_filter.mpr this
  match ci, h with
  | 0, h => cases h; exact ⟨hmem aclsT_0, aclsP_0, aclsN_0⟩
  | 1, h => cases h; exact ⟨hmem aclsT_1, aclsP_1, aclsN_1⟩
  | 2, h => cases h; exact ⟨hmem aclsT_2, aclsP_2, aclsN_2⟩
  | 3, h => cases h; exact ⟨hmem aclsT_3, aclsP_3, aclsN_3⟩
  | 4, h => cases h; exact ⟨hmem aclsT_4, aclsP_4, aclsN_4⟩
  | 5, h => cases h; exact ⟨hmem aclsT_5, aclsP_5, aclsN_5⟩
  | 6, h => cases h; exact ⟨hmem aclsT_6, aclsP_6, aclsN_6⟩
  | 7, h => cases h; exact ⟨hmem aclsT_7, aclsP_7, aclsN_7⟩
  | 8, h => cases h; exact ⟨hmem aclsT_8, aclsP_8, aclsN_8⟩
  | 9, h => cases h; exact ⟨hmem aclsT_9, aclsP_9, aclsN_9⟩
  | 10, h => cases h; exact ⟨hmem aclsT_10, aclsP_10, aclsN_10⟩
  | 11, h => cases h; exact ⟨hmem aclsT_11, aclsP_11, aclsN_11⟩
  | 12, h => cases h; exact ⟨hmem aclsT_12, aclsP_12, aclsN_12⟩
  | n + 13, h => simp at h
