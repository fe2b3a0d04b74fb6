/-! ===== the heap as the constructors lay it, and as the contracts number it ===== -/
/-- where an address of the contracts lies: the ask that is made with the object stands behind all else there -/
def pmA : Nat → Nat := fun a => if 33 ≤ a ∧ a < 96 then a + 4 else if 96 ≤ a ∧ a < 100 then a - 63 else a
def pmB : Nat → Nat := fun b => if 33 ≤ b ∧ b < 37 then b + 63 else if 37 ≤ b ∧ b < 100 then b - 4 else b
theorem pmB_A (a : Nat) : pmB (pmA a) = a := by
  unfold pmA pmB
  split <;> (try split) <;> (try split) <;> (try split) <;> omega
theorem pmA_B (b : Nat) : pmA (pmB b) = b := by
  unfold pmA pmB
  split <;> (try split) <;> (try split) <;> (try split) <;> omega
theorem pmA_lt {a N : Nat} (h : 100 ≤ N) : pmA a < N ↔ a < N := by
  unfold pmA
  split <;> (try split) <;> omega
theorem pmB_lt {b N : Nat} (h : 100 ≤ N) : pmB b < N ↔ b < N := by
  unfold pmB
  split <;> (try split) <;> omega
theorem PI_A {N : Nat} (h : 100 ≤ N) : PI pmA N := ⟨fun a ha => by
  unfold pmA
  rw [if_neg (by omega), if_neg (by omega)], fun a b e => by
  have := congrArg pmB e
  rw [pmB_A, pmB_A] at this
  exact this, fun c => ⟨pmB c, pmA_B c⟩⟩
def rnV : Value → Value
  | .ref a => .ref (pmA a)
  | .retAddr q => .retAddr q
  | .int v => .int v
  | .long v => .long v
  | .float v => .float v
  | .double v => .double v
  | .null => .null
def rnC : AC → AC
  | .inl (t, n, c) => .inl (t, n, trA pmA c)
  | .inr (ci, fs) => .inr (ci, fs.map rnV)
def hpm (h : AH) : AH := (fun b => (h.1 (pmB b)).map rnC, h.2)
/-- the same, addresses laid otherwise -/
abbrev gS (G : Gp) (π : Nat → Nat) : Gp := (gH G, gD G, gA G, gl G, gb G, gL G, gx G, π)
section
variable {G : Gp} {d : Nat} {M : AM} {pc : Nat} {ls : AL} {h : AH} {H : Heap} {fin : Nat × Nat} {Q : Option Value → AH → Prop}
theorem gp_rn (hG : gm G = fun a => a) (a : Nat) : gp G (pmA a) = gp (gS G pmA) a := by
  show gB G + gm G (pmA a) = gB G + pmA a
  rw [hG]
theorem up_rn (hG : gm G = fun a => a) (v : Value) : up G (rnV v) = up (gS G pmA) v := by
  cases v with
  | ref a => exact congrArg Value.ref (gp_rn hG a)
  | _ => rfl
theorem trE_rn (hG : gm G = fun a => a) (c : AC) : trE G (rnC c) = trE (gS G pmA) c := by
  rcases c with ⟨t, n, c⟩ | ⟨ci, fs⟩
  · show (Sum.inl (gA G t, n, trA (gp G) (trA pmA c)) : va_E) = Sum.inl (gA G t, n, trA (gp (gS G pmA)) c)
    have : trA (gp G) (trA pmA c) = trA (gp (gS G pmA)) c := by
      rcases c with f | f | f | f | f
      · rfl
      · rfl
      · rfl
      · rfl
      · have e : (fun j => ((f j).map pmA).map (gp G)) = fun j => (f j).map (gp (gS G pmA)) := funext fun j => by
          cases f j with
          | none => rfl
          | some a => exact congrArg some (gp_rn hG a)
        show (Sum.inr (Sum.inr (Sum.inr (Sum.inr (fun j => ((f j).map pmA).map (gp G))))) : AK) = _
        rw [e]
        rfl
    rw [this]
  · show (Sum.inr (ci, (fs.map rnV).map (up G)) : va_E) = Sum.inr (ci, fs.map (up (gS G pmA)))
    rw [List.map_map]
    congr 2
    exact List.map_congr_left fun v _ => up_rn hG v
theorem Rel_sw (hG : gm G = fun a => a) (hN : 100 ≤ h.2.1) : RelH G (hpm h) H ↔ RelH (gS G pmA) h H := by
  have dom : ∀ b, (∃ c, (hpm h).1 b = some c) ↔ ∃ c, h.1 (pmB b) = some c := fun b => by
    show (∃ c, (h.1 (pmB b)).map rnC = some c) ↔ _
    cases h.1 (pmB b) with
    | none => exact ⟨fun ⟨c, z⟩ => (by cases z), fun ⟨c, z⟩ => (by cases z)⟩
    | some x => exact ⟨fun _ => ⟨x, rfl⟩, fun _ => ⟨_, rfl⟩⟩
  refine ⟨fun hH => ⟨hH.1, hH.2.1, ⟨fun a => ?_, PI_A hN⟩, fun k q hk => ?_⟩, fun hH => ⟨hH.1, hH.2.1, ⟨fun b => ?_, ?_⟩, fun k q hk => ?_⟩⟩
  · have z := hH.2.2.1.1 (pmA a)
    rw [dom, pmB_A] at z
    exact z.trans (pmA_lt hN)
  · have hkl : k < h.2.1 := by
      have := (List.getElem?_eq_some_iff.mp hk).1
      rw [wsOf_len] at this
      exact this
    have z := hH.2.2.1.1 (pmA k)
    rw [dom, pmB_A] at z
    obtain ⟨c, hc⟩ := z.mpr ((pmA_lt hN).mpr hkl)
    have hc' : (hpm h).1 (pmA k) = some (rnC c) := by
      show (h.1 (pmB (pmA k))).map rnC = _
      rw [pmB_A, hc]
      rfl
    have e := hH.2.2.2 (pmA k) _ (wsOf_get hH hc')
    rw [gp_rn hG, trE_rn hG] at e
    have hk2 : (wsOf (gS G pmA) h)[k]? = some (gp (gS G pmA) k, trE (gS G pmA) c) := by
      unfold wsOf
      rw [List.getElem?_map, List.getElem?_range hkl]
      simp [hc, trO]
    rw [hk2] at hk
    cases hk
    exact e
  · rw [dom, hH.2.2.1.1 (pmB b)]
    exact pmB_lt hN
  · rw [hG]
    exact PI.id _
  · have hkl : k < h.2.1 := by
      have := (List.getElem?_eq_some_iff.mp hk).1
      rw [wsOf_len] at this
      exact this
    obtain ⟨c, hc⟩ := (hH.2.2.1.1 (pmB k)).mpr ((pmB_lt hN).mpr hkl)
    have e := hH.2.2.2 (pmB k) _ (wsOf_get hH hc)
    rw [← gp_rn hG, ← trE_rn hG, pmA_B] at e
    have hk2 : (wsOf G (hpm h))[k]? = some (gp G k, trE G (rnC c)) := by
      unfold wsOf
      rw [List.getElem?_map, List.getElem?_range (show k < (hpm h).2.1 from hkl)]
      show some (gp G k, trO G ((h.1 (pmB k)).map rnC)) = _
      rw [hc]
      rfl
    rw [hk2] at hk
    cases hk
    exact e
theorem wp_sw (hG : gm G = fun a => a) (hN : 100 ≤ h.2.1) (hF : 100 ≤ fin.1) (hE : ∀ Q' : Option Value → AH → Prop, (∀ h', Q' (some (.int 1)) h') → wp (gS G pmA) d M pc ls [] h fin Q') (hQ : ∀ h', Q (some (.int 1)) h') : wp G d M pc (ls.map (fun q => (q.1, rnV q.2))) [] (hpm h) fin Q := by
  intro p e R s m args below meth c LS H locs cells slots k1 k2 Qm hC hL hH hl hn hk
  refine hE (fun r _ => r = some (.int 1)) (fun _ => rfl) p e R s m args below meth c LS H locs cells slots k1 k2 Qm hC ?_ ((Rel_sw hG hN).mp hH) hl hn (fun r h' H' locs' pc' cells' slots' LS' q1 q2 q3 q4 q5 q6 q7 => ?_)
  · have e : lvOf G (ls.map (fun q => (q.1, rnV q.2))) = lvOf (gS G pmA) ls := by
      unfold lvOf
      rw [List.map_map]
      exact List.map_congr_left fun q _ => congrArg (Prod.mk q.1) (up_rn hG q.2)
    show lv_has LS (mL M) (lvOf (gS G pmA) ls)
    rw [← e]
    exact hL
  · subst q1
    exact hk (some (.int 1)) (hpm h') H' locs' pc' cells' slots' LS' (hQ _) q2 ((Rel_sw hG (by rw [q2]; exact hF)).mpr q3) q4 q5 q6 q7
end
