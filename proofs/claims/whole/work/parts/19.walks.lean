/-! ===== walk, next ===== -/
theorem nI_i {a b : Nat} (ha : a < 100000) (hb : b < 100000) (h : nI a = nI b) : a = b := (nI_e' ha hb).mp h
/-- a walk's place (the class's), its end, the taking it knows, the reference's place, what it saw -/
def iW (nW : Nat) (fz : Nat → Bool) (pl en tk qq : Nat → Nat) (wi : Nat → Nat → Bool) (nT nG : Nat) (ins : Nat → Bool) (wt : Nat → Nat) (V : SV) : Prop :=
  (nW ≤ 4 ∧ V 1 3 = nI nW ∧ V 57 49 = nI nW) ∧
  (∀ w, w < nW → V 10 w = nI (pl w) ∧ V 11 w = nI (if fz w = true then en w else 80) ∧ V 12 w = nI (if fz w = true then tk w else 1000) ∧ V 88 w = bI (fz w = true) ∧ V 90 w + 1 = nI (qq w) ∧ (∀ t, t < 80 → V 89 (80 * w + t) = bI (wi w t = true))) ∧
  (∀ w, w < nW → en w ≤ nT ∧ tk w ≤ nG ∧ qq w ≤ pl w ∧ pl w ≤ nT ∧ (fz w = true → pl w ≤ en w)) ∧
  (∀ w t, w < nW → fz w = true → t < 80 → en w ≤ t → wi w t = false) ∧
  (∀ w t, w < nW → fz w = true → t < en w → (wi w t = true ↔ (ins t = true ∨ tk w ≤ wt t))) ∧
  (∀ w t, w < nW → qq w ≤ t → t < pl w → (if fz w = true then wi w t else ins t) = false) ∧
  (∀ i, 80 * nW ≤ i → i < 320 → V 89 i = 0)
section
variable {G : Gp} {d : Nat} {K : SK} {n : Nat × Nat} {V V' : SV} {J J' : SJV} {O O' : SO} {r : Option Value}
variable {nT nG : Nat} {fl : Nat → Nat → Nat} {ins : Nat → Bool} {wt : Nat → Nat}
variable {nW : Nat} {fz : Nat → Bool} {pl en tk qq : Nat → Nat} {wi : Nat → Nat → Bool}
/-- who is seen by a walk -/
def vis (fz : Nat → Bool) (wi : Nat → Nat → Bool) (ins : Nat → Bool) (w t : Nat) : Bool := if fz w = true then wi w t else ins t
theorem c8_on (hK : StK K) {w e : Nat} (hw : w < 4) (he : e ≤ 80) {p : Nat → Bool} (hp : ∀ t, t < e → (V 9 t < V 12 w) = (p t = false)) : ∀ (k t : Nat), t + k = e → Ev G d mX8_walkOn 21 [(0, .ref 1), (1, .int (nI w)), (2, .int (nI e)), (3, .int (nI t))] (K, n, V, J, O) (some (.int (if ffst p k t < e then nI (ffst p k t) else -1))) (K, n, up2 V 10 w (if ffst p k t < e then nI (ffst p k t + 1) else nI e), J, O)
  | 0, t, h => by
    have hi := nI_v (a := w) (N := 4) hw (by omega)
    refine wX8_walkOn_21 hK (bt (lp_out rfl (by omega) (by omega)) ⟨hi, ?_, ?_⟩)
    · simp [ffst, show ¬ t < e by omega]
    · rw [nI_c (by omega)]
      simp [ffst, show ¬ t < e by omega]
  | k + 1, t, h => by
    have hi := nI_v (a := w) (N := 4) hw (by omega)
    have hf := hp t (by omega)
    refine wX8_walkOn_21 hK (bf (lp_in rfl (by omega) (by omega)) ⟨nI_v (by omega) (by omega), hi, ?_⟩)
    rw [nI_c (show t < 100000 by omega), nI_c (show w < 100000 by omega), nI_1]
    unfold ffst
    cases hq : p t with
    | true =>
      refine bf (fun q => ?_) ⟨hi, ?_, ?_⟩
      · rw [hf, hq] at q
        cases q
      · simp [show t < e by omega]
      · simp [show t < e by omega]
    | false =>
      refine bt (by rw [hf, hq]) ?_
      simpa using c8_on hK hw he hp k (t + 1) (by omega)
theorem c12_on (hK : StK K) (hm : mT nT fl ins V) {w : Nat} (hw : w < 4) (h88 : V 88 w = bI (fz w = true)) (h89 : ∀ t, t < 80 → V 89 (80 * w + t) = bI (wi w t = true)) : ∀ (k t : Nat), t + k = nT → Ev G d mX12_next 23 [(0, .ref 57), (1, .int (nI w)), (2, .int (nI t))] (K, n, V, J, O) (some (.int (if ffst (vis fz wi ins w) k t < nT then nI (ffst (vis fz wi ins w) k t) else -1))) (K, n, if ffst (vis fz wi ins w) k t < nT then up2 V 90 w (nI (ffst (vis fz wi ins w) k t)) else V, J, O)
  | 0, t, h => by
    have h80 := hm.1
    refine wX12_next_23 hK (bt (lp_out hm.2.1 (by omega) (by omega)) ⟨?_, ?_⟩)
    · simp [ffst, show ¬ t < nT by omega]
    · simp [ffst, show ¬ t < nT by omega]
  | k + 1, t, h => by
    have h80 := hm.1
    have hi := nI_v (a := w) (N := 4) hw (by omega)
    have ih := c12_on hK hm hw h88 h89 k (t + 1) (by omega)
    refine wX12_next_23 hK (bf (lp_in hm.2.1 (by omega) (by omega)) ⟨hi, ?_⟩)
    have e80 : (80 : Int32) * nI w + nI t = nI (80 * w + t) := by rw [show (80 : Int32) = nI 80 from rfl, nI_mul, nI_add]
    rw [e80, nI_c (show w < 100000 by omega), nI_c (show t < 100000 by omega), nI_c (show 80 * w + t < 100000 by omega), h88, h89 t (by omega), hm.2.2.2 t (by omega), nI_1]
    unfold ffst
    by_cases hz : fz w = true
    · refine bz_y hz ⟨nI_v (by omega) (by omega), ?_⟩
      have ev : vis fz wi ins w t = wi w t := by simp [vis, hz]
      rw [ev]
      cases hq : wi w t with
      | true => exact bz_y rfl ⟨hi, by simp [show t < nT by omega], by simp [show t < nT by omega]⟩
      | false => exact bz_n (by simp) (by simpa using ih)
    · refine bz_n hz ⟨nI_v (by omega) (by omega), ?_⟩
      have ev : vis fz wi ins w t = ins t := by simp [vis, hz]
      rw [ev]
      cases hq : ins t with
      | true => exact bz_y rfl ⟨hi, by simp [show t < nT by omega], by simp [show t < nT by omega]⟩
      | false => exact bz_n (by simp) (by simpa using ih)
theorem ffst_un {p : Nat → Bool} : ∀ {k t f : Nat}, t ≤ f → f ≤ t + k → (∀ j, t ≤ j → j < f → p j = false) → (f < t + k → p f = true) → ffst p k t = f := by
  intro k t f h1 h2 h3 h4
  have a := ffst_le p k t
  have b := ffst_yes p k t
  have c := ffst_no p k t
  rcases Nat.lt_trichotomy (ffst p k t) f with h | h | h
  · have := b (by omega)
    rw [h3 _ a.1 h] at this
    cases this
  · exact h
  · have := c f h1 h
    rw [h4 (by omega)] at this
    cases this
theorem p_next (hK : StK K) (hc : cT nT nG fl ins wt V) (hm : mT nT fl ins V) (hW : iW nW fz pl en tk qq wi nT nG ins wt V) {x1 : Int32} : ∃ (r : Int32) (V1 V2 : SV) (pl' qq' : Nat → Nat), Ev G (d + 1) mX11_next 0 [(0, .ref 0), (1, .int x1)] (K, n, V, J, O) (some (.int r)) (K, n, V1, J, O) ∧ Ev G (d + 1) mX12_next 0 [(0, .ref 57), (1, .int x1)] (K, n, V1, J, O) (some (.int r)) (K, n, V2, J, O) ∧ fr (fun a k => a = 10 ∨ a = 90) V V2 ∧ iW nW fz pl' en tk qq' wi nT nG ins wt V2 := by
  obtain ⟨⟨w1, w2, w3⟩, w4, w5, w6, w7, w8, w9⟩ := id hW
  have h80 := hc.1.1
  have hG := hc.1.2
  by_cases h1 : ∃ w, w < nW ∧ x1 = nI w
  · obtain ⟨w, hw, rfl⟩ := h1
    obtain ⟨a1, a2, a3, a4, a5, a6⟩ := w4 w hw
    obtain ⟨b1, b2, b3, b4, b5⟩ := w5 w hw
    have hi := nI_v (a := w) (N := 4) (by omega) (by omega)
    have hy1 : Ev G d mX11_isWithin 0 [(0, .int (nI w)), (1, .int 0), (2, .int (V 1 3 - 1))] (K, n, V, J, O) (some (.int 1)) (K, n, V, J, O) := ev_b (c11_isWithin hK) (by rw [w2, ix_iff (by omega)]; exact ⟨w, hw, rfl⟩)
    -- the end of the class's walk
    have he0 : (if V 11 w < V 1 2 then V 11 w else V 1 2) = nI (if fz w = true then en w else nT) := by
      rw [a2, hc.2.1, min_n (by split <;> omega) (by omega)]
      congr 1
      by_cases hz : fz w = true
      · simp only [if_pos hz]; split <;> omega
      · simp only [if_neg hz]; split <;> omega
    have hvis : ∀ t, t < (if fz w = true then en w else nT) → (V 9 t < V 12 w) = (vis fz wi ins w t = false) := by
      intro t ht
      have htn : t < nT := by split at ht <;> omega
      rw [a3]
      by_cases hz : fz w = true
      · simp only [if_pos hz] at ht ⊢
        have hiff := w7 w t hw hz ht
        simp only [vis, if_pos hz]
        rcases hc.2.2.2.2 t htn with ⟨i1, i2⟩ | ⟨i1, i2, i3⟩
        · rw [i2, show (1000 : Int32) = nI 1000 from rfl, nI_l' (by omega) (by omega)]
          have : wi w t = true := hiff.mpr (Or.inl i1)
          simp [this]
          omega
        · rw [i2, nI_l' (by omega) (by omega)]
          by_cases hq : tk w ≤ wt t
          · have : wi w t = true := hiff.mpr (Or.inr hq)
            simp [this]
            omega
          · have : ¬ wi w t = true := fun q => by
              rcases hiff.mp q with h | h
              · rw [i1] at h; cases h
              · exact hq h
            simp at this
            simp [this]
            omega
      · simp only [if_neg hz]
        simp only [vis, if_neg hz]
        rcases hc.2.2.2.2 t htn with ⟨i1, i2⟩ | ⟨i1, i2, i3⟩
        · rw [i2, i1]
          simp
          decide
        · rw [i2, i1, nI_l' (by omega) (by omega)]
          simp
          omega
    have hen : (if fz w = true then en w else nT) ≤ nT := by split <;> omega
    have hple : pl w ≤ (if fz w = true then en w else nT) := by
      by_cases hz : fz w = true
      · simp only [if_pos hz]; exact b5 hz
      · simp only [if_neg hz]; exact b4
    have hx := c8_on (G := G) (d := d) (n := n) (J := J) (O := O) hK (w := w) (e := if fz w = true then en w else nT) (p := vis fz wi ins w) (by omega) (by omega) hvis ((if fz w = true then en w else nT) - pl w) (pl w) (by omega)
    -- both firsts are one
    have hnv : ∀ t, qq w ≤ t → t < pl w → vis fz wi ins w t = false := fun t h1 h2 => w8 w t hw h1 h2
    have hbe : ∀ t, (if fz w = true then en w else nT) ≤ t → t < nT → vis fz wi ins w t = false := by
      intro t h1 h2
      by_cases hz : fz w = true
      · simp only [if_pos hz] at h1
        simp only [vis, if_pos hz]
        exact w6 w t hw hz (by omega) h1
      · simp only [if_neg hz] at h1
        omega
    generalize hE : (if fz w = true then en w else nT) = e at he0 hvis hen hple hx hbe
    generalize hf : ffst (vis fz wi ins w) (e - pl w) (pl w) = f at hx
    have f1 := ffst_le (vis fz wi ins w) (e - pl w) (pl w)
    have f2 := ffst_yes (vis fz wi ins w) (e - pl w) (pl w)
    have f3 := ffst_no (vis fz wi ins w) (e - pl w) (pl w)
    rw [hf] at f1 f2 f3
    have hg : ffst (vis fz wi ins w) (nT - qq w) (qq w) = if f < e then f else nT := by
      refine ffst_un ?_ ?_ (fun j h1 h2 => ?_) (fun h => ?_)
      · split <;> omega
      · split <;> omega
      · by_cases hj : j < pl w
        · exact hnv j h1 hj
        · by_cases hfe : f < e
          · rw [if_pos hfe] at h2
            exact f3 j (by omega) h2
          · rw [if_neg hfe] at h2
            by_cases hje : j < e
            · exact f3 j (by omega) (by omega)
            · exact hbe j (by omega) h2
      · by_cases hfe : f < e
        · rw [if_pos hfe]
          exact f2 (by omega)
        · rw [if_neg hfe] at h
          omega
    have hm1 : mT nT fl ins (up2 V 10 w (if f < e then nI (f + 1) else nI e)) := hm
    have hy := c12_on (G := G) (d := d + 1) (n := n) (J := J) (O := O) (fz := fz) (wi := wi) hK hm1 (w := w) (by omega) (by rw [up2_a (by decide)]; exact a4) (fun t ht => by rw [up2_a (by decide)]; exact a6 t ht) (nT - qq w) (qq w) (by omega)
    rw [hg] at hy
    have hx1 : Ev G (d + 1) mX11_next 0 [(0, .ref 0), (1, .int (nI w))] (K, n, V, J, O) (some (.int (if f < e then nI f else -1))) (K, n, up2 V 10 w (if f < e then nI (f + 1) else nI e), J, O) := by
      refine wX11_next_0 hK ⟨_, hy1, bf one0 ⟨_, _, wX8_walkOn_0 hK ⟨hi, hi, ?_⟩, rfl, rfl⟩⟩
      rw [nI_c (by omega), he0, a1]
      exact hx
    have hnx : ∀ {r : Option Value} {V2 : SV}, Ev G (d + 1) mX12_next 23 [(0, .ref 57), (1, .int (nI w)), (2, .int (nI (qq w)))] (K, n, up2 V 10 w (if f < e then nI (f + 1) else nI e), J, O) r (K, n, V2, J, O) → Ev G (d + 1) mX12_next 0 [(0, .ref 57), (1, .int (nI w))] (K, n, up2 V 10 w (if f < e then nI (f + 1) else nI e), J, O) r (K, n, V2, J, O) := by
      intro r V2 hq
      refine wX12_next_0 hK (bf (nI_pos (by omega)) (bt ?_ ⟨hi, ?_⟩))
      · rw [up2_a (by decide), w3, nI_l' (by omega) (by omega)]
        exact hw
      · rw [nI_c (by omega), up2_a (by decide), a5]
        exact hq
    by_cases hfe : f < e
    · have hfn : f < nT := by omega
      rw [if_pos hfe, if_pos hfe] at hx1
      simp only [if_pos hfe, if_pos hfn] at hy
      rw [if_pos hfe] at hnx
      refine ⟨_, _, _, fun j => if j = w then f + 1 else pl j, fun j => if j = w then f + 1 else qq j, hx1, hnx hy, fr_up (fr_up fr_rfl (Or.inl rfl)) (Or.inr rfl), ⟨⟨w1, w2, w3⟩, fun j hj => ?_, fun j hj => ?_, w6, w7, fun j t hj h1 h2 => ?_, w9⟩⟩
      · obtain ⟨c1, c2, c3, c4, c5, c6⟩ := w4 j hj
        by_cases e2 : j = w
        · subst e2
          exact ⟨by simp [up2], c2, c3, c4, by simp [up2, nI_1], c6⟩
        · exact ⟨by simp [up2, e2, c1], c2, c3, c4, by simp [up2, e2, c5], c6⟩
      · obtain ⟨c1, c2, c3, c4, c5⟩ := w5 j hj
        by_cases e2 : j = w
        · subst e2
          simp only [if_pos]
          refine ⟨c1, c2, Nat.le_refl _, by omega, fun hz => ?_⟩
          rw [if_pos hz] at hE
          omega
        · simp only [e2, if_false]
          exact ⟨c1, c2, c3, c4, c5⟩
      · by_cases e2 : j = w
        · subst e2
          have h1 : f + 1 ≤ t := by simpa using h1
          have h2 : t < f + 1 := by simpa using h2
          omega
        · simp only [e2, if_false] at h1 h2
          exact w8 j t hj h1 h2
    · have hfn : ¬ nT < nT := Nat.lt_irrefl _
      rw [if_neg hfe, if_neg hfe] at hx1
      simp only [if_neg hfe, if_neg hfn] at hy
      rw [if_neg hfe] at hnx
      refine ⟨_, _, _, fun j => if j = w then e else pl j, qq, hx1, hnx hy, fr_up fr_rfl (Or.inl rfl), ⟨⟨w1, w2, w3⟩, fun j hj => ?_, fun j hj => ?_, w6, w7, fun j t hj h1 h2 => ?_, w9⟩⟩
      · obtain ⟨c1, c2, c3, c4, c5, c6⟩ := w4 j hj
        by_cases e2 : j = w
        · subst e2
          exact ⟨by simp [up2], c2, c3, c4, c5, c6⟩
        · exact ⟨by simp [up2, e2, c1], c2, c3, c4, c5, c6⟩
      · obtain ⟨c1, c2, c3, c4, c5⟩ := w5 j hj
        by_cases e2 : j = w
        · subst e2
          simp only [if_pos]
          refine ⟨c1, c2, by omega, by omega, fun hz => ?_⟩
          rw [if_pos hz] at hE
          omega
        · simp only [e2, if_false]
          exact ⟨c1, c2, c3, c4, c5⟩
      · by_cases e2 : j = w
        · subst e2
          simp only [if_true] at h2
          by_cases hj2 : t < pl j
          · exact w8 j t hj h1 hj2
          · exact f3 t (by omega) (by omega)
        · simp only [e2, if_false] at h2
          exact w8 j t hj h1 h2
  · refine ⟨-1, V, V, pl, qq, wX11_next_0 hK ⟨_, ev_n (c11_isWithin hK) (by rw [w2, ix_iff (by omega)]; exact h1), bt rfl ⟨rfl, rfl⟩⟩, wX12_next_0 hK ⟨fun _ => ⟨rfl, rfl⟩, fun q => ⟨fun q2 => ?_, fun _ => ⟨rfl, rfl⟩⟩⟩, fr_rfl, hW⟩
    rw [w3] at q2
    exact absurd ((lt_iff (by omega)).mp ⟨Int32.not_lt.mp q, q2⟩) h1
theorem nar_b {p : Prop} [Decidable p] : vp_nar .boolean (bI p) = bI p := by
  by_cases h : p
  · rw [bI_t h, nar1]
  · rw [bI_f h, nar0]
theorem m_walk54 (hK : StK K) {w : Nat} (hw : w < 4) {x1 : Int32} (h80 : nT ≤ 80) : ∀ (k t : Nat) (V : SV), t + k = nT → V 57 2 = nI nT → V 57 49 = nI w → (∀ t, t < nT → V 59 t = bI (ins t = true)) → ∃ V', Ev G (d + 1) mX12_walk 54 [(0, .ref 57), (1, .int x1), (2, .int (nI t))] (K, n, V, J, O) (some (.int (nI w))) (K, n, V', J, O) ∧ (∀ j, t ≤ j → j < nT → V' 89 (80 * w + j) = bI (ins j = true)) ∧ fr (fun a i => (a = 89 ∧ 80 * w + t ≤ i ∧ i < 80 * w + nT) ∨ (a = 57 ∧ i = 49)) V V' ∧ V' 57 49 = nI (w + 1) := by
  intro k
  induction k with
  | zero =>
    intro t V e h2 h49 h59
    refine ⟨up2 V 57 49 (nI (w + 1)), wX12_walk_54 hK (bt (lp_out h2 (by omega) (by omega)) ⟨?_, ?_⟩), fun j h1 h2 => absurd h2 (by omega), fr_up fr_rfl (Or.inr ⟨rfl, rfl⟩), up2_s⟩
    · rw [h49, nI_1, nI_pred]
    · rw [h49, nI_1]
  | succ k ih =>
    intro t V e h2 h49 h59
    obtain ⟨V', h1, h3, h4, h5⟩ := ih (t + 1) (up2 V 89 (80 * w + t) (bI (ins t = true))) (by omega) (by rw [up2_a (by decide)]; exact h2) (by rw [up2_a (by decide)]; exact h49) (fun j hj => by rw [up2_a (by decide)]; exact h59 j hj)
    have e80 : (80 : Int32) * nI w + nI t = nI (80 * w + t) := by rw [show (80 : Int32) = nI 80 from rfl, nI_mul, nI_add]
    refine ⟨V', wX12_walk_54 hK (bf (lp_in h2 (by omega) (by omega)) ⟨nI_v (by omega) (by omega), ?_⟩), fun j hj hj2 => ?_, fun a i hp => ?_, h5⟩
    · rw [h49, e80, nI_c (show 80 * w + t < 100000 by omega), nI_c (show t < 100000 by omega), h59 t (by omega), nar_b, nI_1]
      exact ⟨nI_v (by omega) (by omega), h1⟩
    · by_cases ej : j = t
      · subst ej
        rw [h4 89 (80 * w + j) (by omega), up2_s]
      · exact h3 j (by omega) hj2
    · rw [h4 a i (by omega)]
      exact (if_neg (by omega))
theorem p_walk (hK : StK K) (hc : cT nT nG fl ins wt V) (hm : mT nT fl ins V) (hW : iW nW fz pl en tk qq wi nT nG ins wt V) {x1 : Int32} : ∃ (r : Int32) (V1 V2 : SV) (nW' : Nat) (fz' : Nat → Bool) (pl' en' tk' qq' : Nat → Nat) (wi' : Nat → Nat → Bool), Ev G (d + 1) mX11_walk 0 [(0, .ref 0), (1, .int x1)] (K, n, V, J, O) (some (.int r)) (K, n, V1, J, O) ∧ Ev G (d + 1) mX12_walk 0 [(0, .ref 57), (1, .int x1)] (K, n, V1, J, O) (some (.int r)) (K, n, V2, J, O) ∧ fr (fun a k => (a = 10 ∨ a = 11 ∨ a = 12 ∨ a = 88 ∨ a = 89 ∨ a = 90) ∨ (a = 1 ∧ k = 3) ∨ (a = 57 ∧ k = 49)) V V2 ∧ iW nW' fz' pl' en' tk' qq' wi' nT nG ins wt V2 := by
  obtain ⟨⟨w1, w2, w3⟩, w4, w5, w6, w7, w8, w9⟩ := id hW
  have h80 := hc.1.1
  have hG := hc.1.2
  by_cases h1 : ∃ c, c ≤ 1 ∧ x1 = nI c
  · obtain ⟨c, hc1, rfl⟩ := h1
    have y1 := x_wi (G := G) (d := d) (n := n) (V := V) (J := J) (O := O) (N := 1) hK (by decide) hc1
    have y2 := fun V => m_wi (G := G) (d := d) (n := n) (V := V) (J := J) (O := O) (N := 1) (N' := 1) hK (by decide) (by decide) hc1
    by_cases h4 : nW = 4
    · subst h4
      exact ⟨-3, V, V, 4, fz, pl, en, tk, qq, wi, wX11_walk_0 hK ⟨_, y1, nt one0 (bf (by rw [w2]; decide) ⟨rfl, rfl⟩)⟩, wX12_walk_0 hK ⟨_, y2 V, nt one0 (nf w3 ⟨rfl, rfl⟩)⟩, fr_rfl, hW⟩
    · have hi := nI_v (a := nW) (N := 4) (by omega) (by omega)
      have hcl : (nI nW).toNatClampNeg = nW := nI_c (by omega)
      have l4 : V 1 3 < 4 := by rw [w2, show (4 : Int32) = nI 4 from rfl, nI_l' (by omega) (by omega)]; omega
      have n4 : nI nW ≠ 4 := by rw [show (4 : Int32) = nI 4 from rfl, ne_eq, nI_e' (by omega) (by omega)]; omega
      have hadd : Ev G d mX8_addWalk 0 [(0, .ref 1), (1, .int (nI c))] (K, n, V, J, O) (some (.int (nI nW))) (K, n, up2 (up2 (up2 (up2 V 10 nW 0) 11 nW (nI (if c = 1 then nT else 80))) 12 nW (nI (if c = 1 then nG else 1000))) 1 3 (nI (nW + 1)), J, O) := by
        refine wX8_addWalk_0 hK ?_
        rw [w2, hcl, hc.2.1, hc.2.2.1, nI_1, nI_pred]
        rcases (show c = 0 ∨ c = 1 by omega) with rfl | rfl
        · exact ⟨hi, bt rfl ⟨hi, bt rfl ⟨hi, rfl, rfl⟩⟩⟩
        · exact ⟨hi, bf (by decide) ⟨hi, bf (by decide) ⟨hi, rfl, rfl⟩⟩⟩
      have hx : Ev G (d + 1) mX11_walk 0 [(0, .ref 0), (1, .int (nI c))] (K, n, V, J, O) (some (.int (nI nW))) (K, n, up2 (up2 (up2 (up2 V 10 nW 0) 11 nW (nI (if c = 1 then nT else 80))) 12 nW (nI (if c = 1 then nG else 1000))) 1 3 (nI (nW + 1)), J, O) := by
        refine wX11_walk_0 hK ⟨_, y1, nt one0 (bt l4 ?_)⟩
        rcases (show c = 0 ∨ c = 1 by omega) with rfl | rfl
        · exact nt (by decide) ⟨_, _, hadd, rfl, rfl⟩
        · exact nf rfl ⟨_, _, hadd, rfl, rfl⟩
      generalize hV1 : up2 (up2 (up2 (up2 V 10 nW 0) 11 nW (nI (if c = 1 then nT else 80))) 12 nW (nI (if c = 1 then nG else 1000))) 1 3 (nI (nW + 1)) = V1 at hx
      have g1 : fr (fun a k => (a = 10 ∨ a = 11 ∨ a = 12) ∧ k = nW ∨ (a = 1 ∧ k = 3)) V V1 := by
        rw [← hV1]
        exact fr_up (fr_up (fr_up (fr_up fr_rfl (by simp)) (by simp)) (by simp)) (by simp)
      have q1 : V1 10 nW = 0 ∧ V1 11 nW = nI (if c = 1 then nT else 80) ∧ V1 12 nW = nI (if c = 1 then nG else 1000) ∧ V1 1 3 = nI (nW + 1) := by
        rw [← hV1]
        simp [up2]
      have hV2 : ∀ b : Int32, b = bI (c = 1) → up2 (up2 V1 88 nW b) 90 nW (-1) 57 2 = nI nT ∧ up2 (up2 V1 88 nW b) 90 nW (-1) 57 49 = nI nW ∧ ∀ t, t < nT → up2 (up2 V1 88 nW b) 90 nW (-1) 59 t = bI (ins t = true) := fun b hb => ⟨by rw [up2_a (by decide), up2_a (by decide), g1 57 2 (by omega)]; exact hm.2.1, by rw [up2_a (by decide), up2_a (by decide), g1 57 49 (by omega)]; exact w3, fun t ht => by rw [up2_a (by decide), up2_a (by decide), g1 59 t (by omega)]; exact hm.2.2.2 t ht⟩
      obtain ⟨V2, z1, z2, z3, z4⟩ := m_walk54 (G := G) (d := d) (n := n) (J := J) (O := O) (ins := ins) hK (w := nW) (by omega) (x1 := nI c) h80 nT 0 (up2 (up2 V1 88 nW (bI (c = 1))) 90 nW (-1)) (by omega) (hV2 _ rfl).1 (hV2 _ rfl).2.1 (hV2 _ rfl).2.2
      have hy : Ev G (d + 1) mX12_walk 0 [(0, .ref 57), (1, .int (nI c))] (K, n, V1, J, O) (some (.int (nI nW))) (K, n, V2, J, O) := by
        refine wX12_walk_0 hK ⟨_, y2 _, nt one0 ?_⟩
        rw [g1 57 49 (by omega), w3, hcl]
        refine nt n4 ?_
        rcases (show c = 0 ∨ c = 1 by omega) with rfl | rfl
        · refine nt (by decide) ⟨hi, hi, ?_⟩
          rw [nar0]
          exact z1
        · refine nf rfl ⟨hi, hi, ?_⟩
          rw [nar1]
          exact z1
      have g2 : ∀ a k, ¬ ((a = 10 ∨ a = 11 ∨ a = 12 ∨ a = 88 ∨ a = 90) ∧ k = nW ∨ (a = 1 ∧ k = 3) ∨ (a = 57 ∧ k = 49) ∨ (a = 89 ∧ 80 * nW ≤ k ∧ k < 80 * nW + nT)) → V2 a k = V a k := by
        intro a k hp
        rw [z3 a k (by omega)]
        show (if a = 90 ∧ k = nW then _ else if a = 88 ∧ k = nW then _ else V1 a k) = _
        rw [if_neg (by omega), if_neg (by omega), g1 a k (by omega)]
      have q2 : V2 10 nW = 0 ∧ V2 11 nW = nI (if c = 1 then nT else 80) ∧ V2 12 nW = nI (if c = 1 then nG else 1000) ∧ V2 1 3 = nI (nW + 1) ∧ V2 88 nW = bI (c = 1) ∧ V2 90 nW = -1 := by
        refine ⟨?_, ?_, ?_, ?_, ?_, ?_⟩
        · rw [z3 10 nW (by omega), up2_a (by decide), up2_a (by decide)]; exact q1.1
        · rw [z3 11 nW (by omega), up2_a (by decide), up2_a (by decide)]; exact q1.2.1
        · rw [z3 12 nW (by omega), up2_a (by decide), up2_a (by decide)]; exact q1.2.2.1
        · rw [z3 1 3 (by omega), up2_a (by decide), up2_a (by decide)]; exact q1.2.2.2
        · rw [z3 88 nW (by omega), up2_a (by decide), up2_s]
        · rw [z3 90 nW (by omega), up2_s]
      refine ⟨_, V1, V2, nW + 1, fun j => if j = nW then decide (c = 1) else fz j, fun j => if j = nW then 0 else pl j, fun j => if j = nW then (if c = 1 then nT else 0) else en j, fun j => if j = nW then (if c = 1 then nG else 0) else tk j, fun j => if j = nW then 0 else qq j, fun j t => if j = nW then (decide (t < nT) && ins t) else wi j t, hx, hy, fun a k hp => g2 a k (by omega), ⟨⟨by omega, q2.2.2.2.1, z4⟩, fun j hj => ?_, fun j hj => ?_, fun j t hj hz ht he => ?_, fun j t hj hz ht => ?_, fun j t hj h1 h2 => ?_, fun i h1 h2 => ?_⟩⟩
      · by_cases e : j = nW
        · subst e
          simp only [if_true]
          refine ⟨q2.1, ?_, ?_, ?_, ?_, fun t ht => ?_⟩
          · rw [q2.2.1]
            by_cases hc2 : c = 1 <;> simp [hc2]
          · rw [q2.2.2.1]
            by_cases hc2 : c = 1 <;> simp [hc2]
          · rw [q2.2.2.2.2.1]
            by_cases hc2 : c = 1 <;> simp [hc2]
          · rw [q2.2.2.2.2.2]; rfl
          · by_cases htn : t < nT
            · rw [z2 t (Nat.zero_le _) htn]
              simp [htn]
            · rw [g2 89 (80 * j + t) (by omega), w9 _ (by omega) (by omega)]
              simp [htn, bI]
        · obtain ⟨c1, c2, c3, c4, c5, c6⟩ := w4 j (by omega)
          simp only [if_neg e]
          exact ⟨by rw [g2 10 j (by omega)]; exact c1, by rw [g2 11 j (by omega)]; exact c2, by rw [g2 12 j (by omega)]; exact c3, by rw [g2 88 j (by omega)]; exact c4, by rw [g2 90 j (by omega)]; exact c5, fun t ht => by rw [g2 89 (80 * j + t) (by omega)]; exact c6 t ht⟩
      · by_cases e : j = nW
        · subst e
          simp only [if_true]
          refine ⟨?_, ?_, Nat.le_refl _, Nat.zero_le _, fun _ => Nat.zero_le _⟩ <;> split <;> omega
        · simp only [if_neg e]
          exact w5 j (by omega)
      · by_cases e : j = nW
        · subst e
          simp only [if_true] at hz he ⊢
          have hc2 : c = 1 := by simpa using hz
          rw [if_pos hc2] at he
          simp [show ¬ t < nT by omega]
        · simp only [if_neg e] at hz he ⊢
          exact w6 j t (by omega) hz ht he
      · by_cases e : j = nW
        · subst e
          simp only [if_true] at hz ht ⊢
          have hc2 : c = 1 := by simpa using hz
          rw [if_pos hc2] at ht ⊢
          rcases hc.2.2.2.2 t ht with ⟨i1, i2⟩ | ⟨i1, i2, i3⟩
          · simp [i1, ht]
          · simp [i1]
            omega
        · simp only [if_neg e] at hz ht ⊢
          exact w7 j t (by omega) hz ht
      · by_cases e : j = nW
        · subst e
          simp only [if_true] at h2
          omega
        · simp only [if_neg e] at h1 h2 ⊢
          exact w8 j t (by omega) h1 h2
      · rw [g2 89 i (by omega)]
        exact w9 i (by omega) h2
  · exact ⟨-1, V, V, nW, fz, pl, en, tk, qq, wi, wX11_walk_0 hK ⟨_, x_win (N := 1) hK (by decide) h1, nf rfl ⟨rfl, rfl⟩⟩, wX12_walk_0 hK ⟨_, m_win (N := 1) hK (by decide) (by decide) h1, nf rfl ⟨rfl, rfl⟩⟩, fr_rfl, hW⟩
end
