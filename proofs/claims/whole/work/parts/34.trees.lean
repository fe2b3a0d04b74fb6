/-- going down to t: the knot above, and the looks -/
def dt (ke : Nat → Nat) (lc rc : Nat → Option Nat) (t : Nat) : Nat → Option Nat → Nat → Nat → Option Nat × Nat
  | 0, ab, _, c => (ab, c)
  | f + 1, ab, k, c => if k = t then (ab, c) else match sd ke lc rc t k with
    | none => (ab, c)
    | some k' => dt ke lc rc t f (some k) k' (c + 1)
/-- the least below k: the knot above, it, and the looks -/
def lm (lc : Nat → Option Nat) : Nat → Nat → Nat → Nat → Nat × Nat × Nat
  | 0, l, k, c => (l, k, c)
  | f + 1, l, k, c => match lc k with
    | none => (l, k, c)
    | some k' => lm lc f k k' (c + 1)
theorem lm_pure {lc rc : Nat → Option Nat} : ∀ {h f l k c : Nat} {B : List Nat}, h ≤ f → TS lc rc h (some k) B → B.Nodup → ∃ l' k' c' B', lm lc f l k c = (l', k', c') ∧ B = k' :: B' ∧ lc k' = none ∧ c' < c + B.length ∧ ((l' = l ∧ k' = k ∧ TS lc rc h (rc k) B') ∨ (l' ∈ B' ∧ TS (upF lc l' (rc k')) rc h (some k) B'))
  | 0, f, l, k, c, B, hf, q, hn => by simp [TS] at q
  | h + 1, 0, l, k, c, B, hf, q, hn => by omega
  | h + 1, f + 1, l, k, c, B, hf, ⟨X, Y, e, q1, q2⟩, hn => by
    subst e
    unfold lm
    have hn1 := List.nodup_append.mp hn
    have hn2 := List.nodup_cons.mp hn1.2.1
    cases hk : lc k with
    | none =>
      rw [hk, TS_none] at q1
      subst q1
      exact ⟨l, k, c, Y, rfl, rfl, hk, by simp, Or.inl ⟨rfl, rfl, TS_mono1 q2⟩⟩
    | some k2 =>
      rw [hk] at q1
      obtain ⟨l', k', c', B', g1, g2, g3, g4, g5⟩ := lm_pure (l := k) (c := c + 1) (f := f) (by omega) q1 hn1.1
      have hX : ∀ u, u ∈ X → u ≠ k := fun u hu hx => hn1.2.2 u hu k (by simp) hx
      refine ⟨l', k', c', B' ++ k :: Y, g1, by rw [g2]; rfl, g3, ?_, Or.inr ?_⟩
      · rw [List.length_append]
        simp only [List.length_cons]
        omega
      · rcases g5 with ⟨rfl, rfl, g6⟩ | ⟨g6, g7⟩
        · refine ⟨by simp, B', Y, rfl, ?_, ?_⟩
          · rw [upF_s]
            exact TS_congr (fun u hu => ⟨upF_n (hX u (by rw [g2]; simp [hu])), rfl⟩) g6
          · exact TS_congr (fun u hu => ⟨upF_n (fun hx => hn2.1 (hx ▸ hu)), rfl⟩) q2
        · have hl : l' ∈ X := by rw [g2]; simp [g6]
          refine ⟨by simp [g6], B', Y, rfl, ?_, ?_⟩
          · rw [upF_n (fun hx => hX l' hl hx.symm), hk]
            exact g7
          · exact TS_congr (fun u hu => ⟨upF_n (fun hx => hn1.2.2 l' hl u (by simp [hu]) hx.symm), rfl⟩) q2
/-- what comes where t stood: the pointers, it, and the looks besides -/
def hrT (lc rc : Nat → Option Nat) (t : Nat) : (Nat → Option Nat) × (Nat → Option Nat) × Option Nat × Nat := match lc t with
  | none => (lc, rc, rc t, 0)
  | some a => match rc t with
    | none => (lc, rc, some a, 0)
    | some b => (upF (if (lm lc 80 t b 1).1 = t then lc else upF lc (lm lc 80 t b 1).1 (rc (lm lc 80 t b 1).2.1)) (lm lc 80 t b 1).2.1 (some a), (if (lm lc 80 t b 1).1 = t then rc else upF rc (lm lc 80 t b 1).2.1 (some b)), some (lm lc 80 t b 1).2.1, (lm lc 80 t b 1).2.2)
theorem hrT_pure {lc rc : Nat → Option Nat} {h t : Nat} {A B : List Nat} (q1 : TS lc rc h (lc t) A) (q2 : TS lc rc h (rc t) B) (hn : (A ++ t :: B).Nodup) (hh : h ≤ 80) : TS (hrT lc rc t).1 (hrT lc rc t).2.1 (h + 1) (hrT lc rc t).2.2.1 (A ++ B) ∧ (∀ u, u ∉ A ++ t :: B → (hrT lc rc t).1 u = lc u ∧ (hrT lc rc t).2.1 u = rc u) := by
  unfold hrT
  have hn1 := List.nodup_append.mp hn
  have hn2 := List.nodup_cons.mp hn1.2.1
  cases ha : lc t with
  | none =>
    rw [ha, TS_none] at q1
    subst q1
    exact ⟨TS_mono1 q2, fun u _ => ⟨rfl, rfl⟩⟩
  | some a =>
    cases hb : rc t with
    | none =>
      rw [hb, TS_none] at q2
      subst q2
      rw [ha] at q1
      rw [List.append_nil]
      exact ⟨TS_mono1 q1, fun u _ => ⟨rfl, rfl⟩⟩
    | some b =>
      rw [ha] at q1
      rw [hb] at q2
      obtain ⟨l', k', c', B', g1, g2, g3, g4, g5⟩ := lm_pure (l := t) (c := 1) (f := 80) (by omega) q2 hn2.2
      dsimp only
      rw [g1]
      dsimp only
      subst g2
      have hn3 := List.nodup_cons.mp hn2.2
      have hAk : ∀ u, u ∈ A → u ≠ k' := fun u hu hx => hn1.2.2 u hu k' (by simp) hx
      rcases g5 with ⟨rfl, rfl, g6⟩ | ⟨g6, g7⟩
      · rw [if_pos rfl, if_pos rfl]
        refine ⟨⟨A, B', rfl, ?_, ?_⟩, fun u hu => ⟨upF_n (fun hx => hu (by simp [hx])), rfl⟩⟩
        · rw [upF_s]
          exact TS_congr (fun u hu => ⟨upF_n (hAk u hu), rfl⟩) q1
        · exact TS_congr (fun u hu => ⟨upF_n (fun hx => hn3.1 (hx ▸ hu)), rfl⟩) g6
      · have hlt : l' ≠ t := fun hx => hn2.1 (by rw [← hx]; simp [g6])
        have hlk : k' ≠ l' := fun hx => hn3.1 (hx ▸ g6)
        rw [if_neg hlt, if_neg hlt]
        refine ⟨⟨A, B', rfl, ?_, ?_⟩, fun u hu => ⟨?_, upF_n (fun hx => hu (by simp [hx]))⟩⟩
        · rw [upF_s]
          exact TS_congr (fun u hu => ⟨by rw [upF_n (hAk u hu), upF_n (fun hx => hn1.2.2 u hu l' (by simp [g6]) hx)], upF_n (hAk u hu)⟩) q1
        · rw [upF_s]
          exact TS_congr (fun u hu => ⟨upF_n (fun hx => hn3.1 (hx ▸ hu)), upF_n (fun hx => hn3.1 (hx ▸ hu))⟩) g7
        · rw [upF_n (fun hx => hu (by simp [hx])), upF_n (fun hx => hu (by simp [hx, g6]))]
def hgl (lc : Nat → Option Nat) (t p : Nat) (new : Option Nat) : Nat → Option Nat := if lc p = some t then upF lc p new else lc
def hgr (lc rc : Nat → Option Nat) (t p : Nat) (new : Option Nat) : Nat → Option Nat := if lc p = some t then rc else upF rc p new
theorem hgl_o {lc : Nat → Option Nat} {t p u : Nat} {new : Option Nat} (h : u ≠ p) : hgl lc t p new u = lc u := by
  unfold hgl
  split
  · rw [upF_n h]
  · rfl
theorem hgr_o {lc rc : Nat → Option Nat} {t p u : Nat} {new : Option Nat} (h : u ≠ p) : hgr lc rc t p new u = rc u := by
  unfold hgr
  split
  · rfl
  · rw [upF_n h]
theorem dt_pure {ke : Nat → Nat} {lc rc : Nat → Option Nat} {t : Nat} : ∀ {h f k c : Nat} {ab : Option Nat} {A B : List Nat}, h ≤ f → TS lc rc h (some k) (A ++ t :: B) → srt ke (A ++ t :: B) → (A ++ t :: B).Nodup → k ≠ t → ∃ p c', dt ke lc rc t f ab k c = (some p, c') ∧ p ∈ A ++ t :: B ∧ p ≠ t ∧ c' < c + (A ++ t :: B).length ∧ ∃ h2 A2 B2, h2 < h ∧ TS lc rc h2 (some t) (A2 ++ t :: B2) ∧ (∀ u, u ∈ A2 ++ t :: B2 → u ∈ A ++ t :: B) ∧ (A2 ++ t :: B2).Nodup ∧ p ∉ A2 ++ t :: B2 ∧ ∀ lc' rc' new, (∀ u, u ∉ A2 ++ t :: B2 → lc' u = lc u ∧ rc' u = rc u) → TS lc' rc' h2 new (A2 ++ B2) → TS (hgl lc' t p new) (hgr lc' rc' t p new) h (some k) (A ++ B)
  | 0, f, k, c, ab, A, B, hf, q, hs, hn, hk => by simp [TS] at q
  | h + 1, 0, k, c, ab, A, B, hf, q, hs, hn, hk => by omega
  | h + 1, f + 1, k, c, ab, A, B, hf, ⟨X, Y, e, q1, q2⟩, hs, hn, hk => by
    have hs' := hs
    rw [e] at hs'
    obtain ⟨hsX, hsY, hXY⟩ := List.pairwise_append.mp hs'
    have hsY2 := List.pairwise_cons.mp hsY
    have hn' := hn
    rw [e] at hn'
    obtain ⟨hnX, hnY, hdX⟩ := List.nodup_append.mp hn'
    have hnY2 := List.nodup_cons.mp hnY
    unfold dt
    rw [if_neg hk]
    obtain ⟨hsA, hsB, hAB⟩ := List.pairwise_append.mp hs
    have hsB2 := List.pairwise_cons.mp hsB
    have hkX : ∀ u, u ∈ X → u ≠ k := fun u hu hx => hdX u hu k (by simp) hx
    have hkY : ∀ u, u ∈ Y → u ≠ k := fun u hu hx => hnY2.1 (hx ▸ hu)
    rcases app_mid e.symm with ⟨hkA, A1, eA, eY⟩ | ⟨hkB, B1, eB, eX⟩
    · have hl : ¬ (ah ke (ke k) (some k) t = true) := by
        rw [ah_lts]
        exact lts_as (hAB k hkA t (by simp))
      rw [show sd ke lc rc t k = rc k from if_neg hl]
      cases hrk : rc k with
      | none =>
        rw [hrk, TS_none] at q2
        rw [q2] at eY
        simp at eY
      | some k' =>
        dsimp only
        rw [hrk, eY] at q2
        have htY : t ∈ Y := by rw [eY]; simp
        have hlt : lc k ≠ some t := fun hx => by
          rw [hx] at q1
          exact hdX t (TS_mem q1) t (by simp [htY]) rfl
        by_cases e2 : k' = t
        · subst e2
          have hd : dt ke lc rc k' f (some k) k' (c + 1) = (some k, c + 1) := by
            cases f with
            | zero => rfl
            | succ f => unfold dt; rw [if_pos rfl]
          refine ⟨k, c + 1, hd, by rw [e]; simp, hk, ?_, h, A1, B, by omega, q2, fun u hu => by rw [e, eY]; rw [List.mem_append, List.mem_cons]; exact Or.inr (Or.inr hu), by rw [← eY]; exact hnY2.2, by rw [← eY]; exact hnY2.1, ?_⟩
          · rw [eA]
            simp only [List.length_append, List.length_cons]
            omega
          · intro lc' rc' new g1 g2
            have hkn : k ∉ A1 ++ k' :: B := by rw [← eY]; exact hnY2.1
            obtain ⟨g3, g4⟩ := g1 k hkn
            refine ⟨X, A1 ++ B, by rw [eA]; simp, ?_, ?_⟩
            · rw [show hgl lc' k' k new k = lc k from by unfold hgl; rw [g3, if_neg hlt]; exact g3]
              refine TS_congr (fun u hu => ?_) q1
              have := g1 u (by rw [← eY]; exact fun hx => hdX u hu u (by simp [hx]) rfl)
              rw [hgl_o (hkX u hu), hgr_o (hkX u hu)]
              exact this
            · rw [show hgr lc' rc' k' k new k = new from by unfold hgr; rw [g3, if_neg hlt, upF_s]]
              refine TS_congr (fun u hu => ?_) g2
              have hu2 : u ∈ Y := by
                rw [eY]
                rcases List.mem_append.mp hu with z | z
                · simp [z]
                · simp [z]
              rw [hgl_o (hkY u hu2), hgr_o (hkY u hu2)]
              exact ⟨rfl, rfl⟩
        · obtain ⟨p, c', z1, z2, z3, z4, h2, A2, B2, z5, z6, z7, z8, z9, z10⟩ := dt_pure (t := t) (f := f) (ab := some k) (c := c + 1) (by omega) q2 (by rw [← eY]; exact hsY2.2) (by rw [← eY]; exact hnY2.2) e2
          have hpY : p ∈ Y := by rw [eY]; exact z2
          refine ⟨p, c', z1, by rw [e]; simp [hpY], z3, ?_, h2, A2, B2, by omega, z6, fun u hu => by rw [e, eY, List.mem_append, List.mem_cons]; exact Or.inr (Or.inr (z7 u hu)), z8, z9, ?_⟩
          · rw [e, eY]
            simp only [List.length_append, List.length_cons] at z4 ⊢
            omega
          · intro lc' rc' new g1 g2
            have hsub : ∀ u, u ∈ A2 ++ t :: B2 → u ∈ Y := fun u hu => by rw [eY]; exact z7 u hu
            have hkp : k ≠ p := fun hx => hnY2.1 (hx ▸ hpY)
            obtain ⟨g3, g4⟩ := g1 k (fun hx => hnY2.1 (hsub k hx))
            refine ⟨X, A1 ++ B, by rw [eA]; simp, ?_, ?_⟩
            · rw [hgl_o hkp, g3]
              refine TS_congr (fun u hu => ?_) q1
              have := g1 u (fun hx => hdX u hu u (by simp [hsub u hx]) rfl)
              have hup : u ≠ p := fun hx => hdX u hu p (by simp [hpY]) hx
              rw [hgl_o hup, hgr_o hup]
              exact this
            · rw [hgr_o hkp, g4, hrk]
              exact z10 lc' rc' new g1 g2
    · have hkB' : k ∈ B := by
        rcases List.mem_cons.mp hkB with z | z
        · exact absurd z hk
        · exact z
      have hl : ah ke (ke k) (some k) t = true := by
        rw [ah_lts]
        exact hsB2.1 k hkB'
      rw [show sd ke lc rc t k = lc k from if_pos hl]
      obtain ⟨B3, rfl⟩ : ∃ B3, B1 = t :: B3 := by
        cases B1 with
        | nil =>
          simp only [List.nil_append, List.cons.injEq] at eB
          exact absurd eB.1.symm hk
        | cons x B3 =>
          simp only [List.cons_append, List.cons.injEq] at eB
          exact ⟨B3, by rw [eB.1]⟩
      have eB' : B = B3 ++ k :: Y := by simpa using eB
      cases hrk : lc k with
      | none =>
        rw [hrk, TS_none] at q1
        rw [q1] at eX
        simp at eX
      | some k' =>
        dsimp only
        rw [hrk, eX] at q1
        have htX : t ∈ X := by rw [eX]; simp
        by_cases e2 : k' = t
        · subst e2
          have hd : dt ke lc rc k' f (some k) k' (c + 1) = (some k, c + 1) := by
            cases f with
            | zero => rfl
            | succ f => unfold dt; rw [if_pos rfl]
          refine ⟨k, c + 1, hd, by rw [e]; simp, hk, ?_, h, A, B3, by omega, q1, fun u hu => by rw [e, eX]; rw [List.mem_append]; exact Or.inl hu, by rw [← eX]; exact hnX, by rw [← eX]; exact fun hx => hkX k hx rfl, ?_⟩
          · rw [eB']
            simp only [List.length_append, List.length_cons]
            omega
          · intro lc' rc' new g1 g2
            have hkn : k ∉ A ++ k' :: B3 := by rw [← eX]; exact fun hx => hkX k hx rfl
            obtain ⟨g3, g4⟩ := g1 k hkn
            refine ⟨A ++ B3, Y, by rw [eB']; simp, ?_, ?_⟩
            · rw [show hgl lc' k' k new k = new from by unfold hgl; rw [g3, if_pos hrk, upF_s]]
              refine TS_congr (fun u hu => ?_) g2
              have hu2 : u ∈ X := by
                rw [eX]
                rcases List.mem_append.mp hu with z | z
                · simp [z]
                · simp [z]
              rw [hgl_o (hkX u hu2), hgr_o (hkX u hu2)]
              exact ⟨rfl, rfl⟩
            · rw [show hgr lc' rc' k' k new k = rc k from by unfold hgr; rw [g3, if_pos hrk]; exact g4]
              refine TS_congr (fun u hu => ?_) q2
              have := g1 u (by rw [← eX]; exact fun hx => hdX u hx u (by simp [hu]) rfl)
              rw [hgl_o (hkY u hu), hgr_o (hkY u hu)]
              exact this
        · obtain ⟨p, c', z1, z2, z3, z4, h2, A2, B2, z5, z6, z7, z8, z9, z10⟩ := dt_pure (t := t) (f := f) (ab := some k) (c := c + 1) (by omega) q1 (by rw [← eX]; exact hsX) (by rw [← eX]; exact hnX) e2
          have hpX : p ∈ X := by rw [eX]; exact z2
          refine ⟨p, c', z1, by rw [e]; simp [hpX], z3, ?_, h2, A2, B2, by omega, z6, fun u hu => by rw [e, eX, List.mem_append]; exact Or.inl (z7 u hu), z8, z9, ?_⟩
          · rw [e, eX]
            simp only [List.length_append, List.length_cons] at z4 ⊢
            omega
          · intro lc' rc' new g1 g2
            have hsub : ∀ u, u ∈ A2 ++ t :: B2 → u ∈ X := fun u hu => by rw [eX]; exact z7 u hu
            have hkp : k ≠ p := fun hx => hkX p hpX hx.symm
            obtain ⟨g3, g4⟩ := g1 k (fun hx => hkX k (hsub k hx) rfl)
            refine ⟨A ++ B3, Y, by rw [eB']; simp, ?_, ?_⟩
            · rw [hgl_o hkp, g3, hrk]
              exact z10 lc' rc' new g1 g2
            · rw [hgr_o hkp, g4]
              refine TS_congr (fun u hu => ?_) q2
              have := g1 u (fun hx => hdX u (hsub u hx) u (by simp [hu]) rfl)
              have hup : u ≠ p := fun hx => hdX p hpX p (by simp [← hx, hu]) rfl
              rw [hgl_o hup, hgr_o hup]
              exact this
