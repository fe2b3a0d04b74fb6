/-! ===== an ask through a tree ===== -/
/-- the knots that are looked at: each ahead of what is below it -/
def preF (ke : Nat → Nat) (lo hi : Nat) (lc rc : Nat → Option Nat) : Nat → Option Nat → List Nat
  | 0, _ => []
  | h + 1, o => match o with
    | none => []
    | some t => t :: ((if lo ≤ ke t then preF ke lo hi lc rc h (lc t) else []) ++ (if ke t < hi then preF ke lo hi lc rc h (rc t) else []))
/-- the same, in order -/
def inF (ke : Nat → Nat) (lo hi : Nat) (lc rc : Nat → Option Nat) : Nat → Option Nat → List Nat
  | 0, _ => []
  | h + 1, o => match o with
    | none => []
    | some t => (if lo ≤ ke t then inF ke lo hi lc rc h (lc t) else []) ++ t :: (if ke t < hi then inF ke lo hi lc rc h (rc t) else [])
theorem pi_perm {ke : Nat → Nat} {lo hi : Nat} {lc rc : Nat → Option Nat} : ∀ {h : Nat} {o : Option Nat}, List.Perm (preF ke lo hi lc rc h o) (inF ke lo hi lc rc h o)
  | 0, _ => List.Perm.refl _
  | h + 1, none => List.Perm.refl _
  | h + 1, some t => by
    unfold preF inF
    refine List.Perm.trans (List.Perm.cons t (List.Perm.append ?_ ?_)) List.perm_middle.symm
    · split
      · exact pi_perm
      · exact List.Perm.refl _
    · split
      · exact pi_perm
      · exact List.Perm.refl _
theorem preF_none {ke : Nat → Nat} {lo hi : Nat} {lc rc : Nat → Option Nat} {h : Nat} : preF ke lo hi lc rc h none = [] := by
  cases h <;> rfl
theorem inF_none {ke : Nat → Nat} {lo hi : Nat} {lc rc : Nat → Option Nat} {h : Nat} : inF ke lo hi lc rc h none = [] := by
  cases h <;> rfl
theorem preF_s {ke : Nat → Nat} {lo hi : Nat} {lc rc : Nat → Option Nat} {h t : Nat} : preF ke lo hi lc rc (h + 1) (some t) = t :: ((if lo ≤ ke t then preF ke lo hi lc rc h (lc t) else []) ++ (if ke t < hi then preF ke lo hi lc rc h (rc t) else [])) := rfl
theorem preF_le {ke : Nat → Nat} {lo hi : Nat} {lc rc : Nat → Option Nat} : ∀ {h h' : Nat} {o : Option Nat} {L : List Nat}, TS lc rc h o L → h ≤ h' → preF ke lo hi lc rc h' o = preF ke lo hi lc rc h o
  | 0, h', o, L, q, _ => by
    obtain ⟨rfl, rfl⟩ := q
    rw [preF_none, preF_none]
  | h + 1, 0, o, L, q, e => by omega
  | h + 1, h' + 1, none, L, q, e => rfl
  | h + 1, h' + 1, some t, L, ⟨A, B, _, q1, q2⟩, e => by
    rw [preF_s, preF_s, preF_le q1 (show h ≤ h' by omega), preF_le q2 (show h ≤ h' by omega)]
theorem preF_len {ke : Nat → Nat} {lo hi : Nat} {lc rc : Nat → Option Nat} : ∀ {h : Nat} {o : Option Nat} {L : List Nat}, TS lc rc h o L → (preF ke lo hi lc rc h o).length ≤ L.length
  | 0, o, L, q => Nat.zero_le _
  | h + 1, none, L, q => Nat.zero_le _
  | h + 1, some t, L, ⟨A, B, e, q1, q2⟩ => by
    subst e
    have l1 := preF_len (ke := ke) (lo := lo) (hi := hi) q1
    have l2 := preF_len (ke := ke) (lo := lo) (hi := hi) q2
    unfold preF
    rw [List.length_cons, List.length_append, List.length_append, List.length_cons]
    have e1 : (if lo ≤ ke t then preF ke lo hi lc rc h (lc t) else []).length ≤ A.length := by
      split
      · exact l1
      · exact Nat.zero_le _
    have e2 : (if ke t < hi then preF ke lo hi lc rc h (rc t) else []).length ≤ B.length := by
      split
      · exact l2
      · exact Nat.zero_le _
    omega
/-- a knot that is within is seen -/
def tstp (lo hi : Nat) (q : QD) (fl : Nat → Nat → Nat) (A B f ky : Nat) (s : RuS) (t : Nat) : RuS := if lo ≤ fl ky t ∧ fl ky t < hi then sstep (hq q fl A B) (fl f) (qw q) s t else s
theorem tstp_c {lo hi : Nat} {q : QD} {fl : Nat → Nat → Nat} {A B f ky : Nat} (s : RuS) (a b : Nat) : tstp lo hi q fl A B f ky (tstp lo hi q fl A B f ky s a) b = tstp lo hi q fl A B f ky (tstp lo hi q fl A B f ky s b) a := by
  unfold tstp
  by_cases ha : lo ≤ fl ky a ∧ fl ky a < hi
  · by_cases hb : lo ≤ fl ky b ∧ fl ky b < hi
    · rw [if_pos ha, if_pos hb, if_pos ha, if_pos hb]
      exact sstep_c _ _ _
    · rw [if_pos ha, if_neg hb, if_neg hb, if_pos ha]
  · by_cases hb : lo ≤ fl ky b ∧ fl ky b < hi
    · rw [if_neg ha, if_pos hb, if_neg ha]
    · rw [if_neg ha, if_neg hb, if_neg ha]
/-- what is still to be gone to -/
def tdo (P : Option Nat → List Nat) : List Nat → List Nat
  | [] => []
  | u :: T => P (some u) ++ tdo P T
def okT (lc rc : Nat → Option Nat) (nT : Nat) (o : Option Nat) : Prop := ∃ h L, h ≤ 80 ∧ TS lc rc h o L ∧ ∀ u, u ∈ L → u < nT
section
variable {ke : Nat → Nat} {lo hi nT : Nat} {lc rc : Nat → Option Nat}
theorem okT_none : okT lc rc nT none := ⟨0, [], by omega, ⟨rfl, rfl⟩, fun u hu => by cases hu⟩
theorem okT_in {t : Nat} (h : okT lc rc nT (some t)) : t < nT := by
  obtain ⟨h, L, h1, h2, h3⟩ := h
  exact h3 t (TS_mem h2)
theorem okT_s {t : Nat} (h : okT lc rc nT (some t)) : okT lc rc nT (lc t) ∧ okT lc rc nT (rc t) ∧ preF ke lo hi lc rc 80 (some t) = t :: ((if lo ≤ ke t then preF ke lo hi lc rc 80 (lc t) else []) ++ (if ke t < hi then preF ke lo hi lc rc 80 (rc t) else [])) := by
  obtain ⟨h, L, h1, h2, h3⟩ := h
  cases h with
  | zero => exact absurd h2.1 (by simp)
  | succ h =>
    have h2' := h2
    obtain ⟨A, B, e, q1, q2⟩ := h2
    subst e
    refine ⟨⟨h, A, by omega, q1, fun u hu => h3 u (by simp [hu])⟩, ⟨h, B, by omega, q2, fun u hu => h3 u (by simp [hu])⟩, ?_⟩
    rw [preF_le h2' h1, preF_le q1 (show h ≤ 80 by omega), preF_le q2 (show h ≤ 80 by omega)]
    rfl
theorem preF_pos {t : Nat} (h : okT lc rc nT (some t)) : 1 ≤ (preF ke lo hi lc rc 80 (some t)).length := by
  rw [(okT_s h).2.2, List.length_cons]
  omega
theorem tdo_len {T : List Nat} (h : ∀ u, u ∈ T → okT lc rc nT (some u)) : T.length ≤ (tdo (preF ke lo hi lc rc 80) T).length := by
  induction T with
  | nil => exact Nat.zero_le _
  | cons u T ih =>
    have h1 := preF_pos (ke := ke) (lo := lo) (hi := hi) (h u (by simp))
    have h2 := ih (fun x hx => h x (by simp [hx]))
    show T.length + 1 ≤ (preF ke lo hi lc rc 80 (some u) ++ tdo (preF ke lo hi lc rc 80) T).length
    rw [List.length_append]
    omega
end
section
variable {G : Gp} {d : Nat} {K : SK} {n : Nat × Nat} {V V' : SV} {J : SJV} {O : SO} {r : Option Value}
variable {z a b ci m nT A B t ky p sn kd lo hi : Nat} {q : QD} {fl : Nat → Nat → Nat} {s : RuS} {nm ke : Nat → Nat} {g : GS} {lc rc : Nat → Option Nat} {root : Option Nat}
/-- the pending ones, the next one last -/
def stk (b : Nat) (T : List Nat) (V : SV) : Prop := ∀ j, j < T.length → V (b + 4) j = nI (nmL T.reverse j)
theorem stk_push {u : Nat} {T : List Nat} (h : stk b T V) : stk b (u :: T) (up2 V (b + 4) T.length (nI u)) := by
  intro j hj
  rw [List.length_cons] at hj
  rw [List.reverse_cons]
  by_cases e : j = T.length
  · rw [e, up2_s]
    have := nmL_at (A := T.reverse) (B := []) (t := u)
    rw [List.length_reverse] at this
    rw [this]
  · rw [up2_k e, h j (by omega), nmL_l (by rw [List.length_reverse]; omega)]
theorem stk_pop {u : Nat} {T : List Nat} (h : stk b (u :: T) V) : stk b T V ∧ V (b + 4) T.length = nI u := by
  refine ⟨fun j hj => ?_, ?_⟩
  · rw [h j (by rw [List.length_cons]; omega), List.reverse_cons, nmL_l (by rw [List.length_reverse]; omega)]
  · rw [h T.length (by rw [List.length_cons]; omega), List.reverse_cons]
    have := nmL_at (A := T.reverse) (B := []) (t := u)
    rw [List.length_reverse] at this
    rw [this]
theorem stk_fr {T : List Nat} (h : stk b T V) (hf : fr (fun x _ => x ≠ b + 4) V V') : stk b T V' := fun j hj => by rw [hf _ _ (by omega)]; exact h j hj
theorem nI_p1 (x : Nat) : nI (x + 1) + (-1) = nI x := by
  rw [show (-1 : Int32) = - 1 from rfl, ← Int32.sub_eq_add_neg, nI_pred]
theorem TrC_o (h : TrC b m lc rc root V) (hf : fr (fun x k => x ≠ b + 2 ∧ x ≠ b + 3 ∧ (x = b → k ≠ 12 ∧ k ≠ 13)) V V') : TrC b m lc rc root V' := ⟨h.1, by rw [hf _ _ (by omega)]; exact h.2.1, by rw [hf _ _ (by omega)]; exact h.2.2.1, fun t ht => by rw [hf _ _ (by omega), hf _ _ (by omega)]; exact h.2.2.2 t ht⟩
theorem c10_120 (hK : StK K) (hi' : IsSt K b 10 ky) (ha : IsAk K a) (hT : TrC b m lc rc root V) {T : List Nat} (hok : ∀ u, u ∈ T → okT lc rc nT (some u)) (hst : stk b T V) (ht : okT lc rc nT (some t)) (h80 : nT ≤ 80) (hlen : T.length ≤ 80) (hlo : lo ≤ 101) (hkey : ke t < 100) {x3 x6 : Int32} : ∃ (o : Option Nat) (T' : List Nat), preF ke lo hi lc rc 80 o ++ tdo (preF ke lo hi lc rc 80) T' = (if lo ≤ ke t then preF ke lo hi lc rc 80 (lc t) else []) ++ tdo (preF ke lo hi lc rc 80) T ∧ (o = none → T' = []) ∧ okT lc rc nT o ∧ (∀ u, u ∈ T' → okT lc rc nT (some u)) ∧ stk b T' V ∧ T'.length ≤ 80 ∧ ∀ (r : Option Value) (V' : SV), Ev G (d + 1) mX10_run 162 [(0, .ref b), (1, .ref a), (2, .int (nI lo)), (3, .int x3), (4, .int (nI T'.length)), (5, .int (moI o)), (6, .int x6), (7, .int (nI (ke t)))] (K, n, V, J, O) r (K, n, V', J, O) → Ev G (d + 1) mX10_run 120 [(0, .ref b), (1, .ref a), (2, .int (nI lo)), (3, .int x3), (4, .int (nI T.length)), (5, .int (nI t)), (6, .int x6), (7, .int (nI (ke t)))] (K, n, V, J, O) r (K, n, V', J, O) := by
  have htn := okT_in ht
  obtain ⟨okl, okr, -⟩ := okT_s (ke := ke) (lo := lo) (hi := hi) ht
  have hin : vp_in (nI t) 80 := nI_v (by omega) (by omega)
  have et : (nI t).toNatClampNeg = t := nI_c (by omega)
  have el := (hT.2.2.2 t (by omega)).1
  have pop : ∀ (X : Option Nat), X = none → (∃ (o : Option Nat) (T' : List Nat), preF ke lo hi lc rc 80 o ++ tdo (preF ke lo hi lc rc 80) T' = tdo (preF ke lo hi lc rc 80) T ∧ (o = none → T' = []) ∧ okT lc rc nT o ∧ (∀ u, u ∈ T' → okT lc rc nT (some u)) ∧ stk b T' V ∧ T'.length ≤ 80 ∧ ∀ (r : Option Value) (V' : SV), Ev G (d + 1) mX10_run 162 [(0, .ref b), (1, .ref a), (2, .int (nI lo)), (3, .int x3), (4, .int (nI T'.length)), (5, .int (moI o)), (6, .int x6), (7, .int (nI (ke t)))] (K, n, V, J, O) r (K, n, V', J, O) → ((nI T.length ≤ 0 → Ev G (d + 1) mX10_run 162 [(0, .ref b), (1, .ref a), (2, .int (nI lo)), (3, .int x3), (4, .int (nI T.length)), (5, .int (-1)), (6, .int x6), (7, .int (nI (ke t)))] (K, n, V, J, O) r (K, n, V', J, O)) ∧ (¬ nI T.length ≤ 0 → (vp_in (nI T.length + (-1)) 80 ∧ Ev G (d + 1) mX10_run 162 [(0, .ref b), (1, .ref a), (2, .int (nI lo)), (3, .int x3), (4, .int (nI T.length + (-1))), (5, .int (V (b + 4) (nI T.length + (-1)).toNatClampNeg)), (6, .int x6), (7, .int (nI (ke t)))] (K, n, V, J, O) r (K, n, V', J, O))))) := by
    intro X _
    cases T with
    | nil =>
      refine ⟨none, [], by rw [preF_none]; rfl, fun _ => rfl, okT_none, fun u hu => (by cases hu), hst, Nat.zero_le _, fun r V' hE => ?_⟩
      exact bt (by decide) hE
    | cons u T =>
      obtain ⟨s1, s2⟩ := stk_pop hst
      rw [List.length_cons] at hlen
      refine ⟨some u, T, rfl, fun e => (by cases e), hok u (by simp), fun x hx => hok x (by simp [hx]), s1, by omega, fun r V' hE => ?_⟩
      rw [List.length_cons, nI_p1, nI_c (by omega), s2]
      refine bf ?_ ⟨nI_v (by omega) (by omega), hE⟩
      show ¬ nI (T.length + 1) ≤ nI 0
      rw [nI_le' (by omega) (by omega)]
      omega
  by_cases c : lo ≤ ke t
  · rw [if_pos c]
    have hc : ¬ nI (ke t) < nI lo := by
      rw [nI_l' (by omega) (by omega)]
      omega
    cases hl : lc t with
    | some l =>
      rw [hl] at okl
      refine ⟨some l, T, rfl, fun e => (by cases e), okl, hok, hst, hlen, fun r V' hE => wX10_run_120 hK hi' ha (bf hc ⟨hin, ?_⟩)⟩
      rw [et, el, hl]
      have hl80 := hT.1.2.1 t l hl
      exact nt (nI_nm1 (by omega)) hE
    | none =>
      obtain ⟨o, T', e1, e2, e3, e4, e5, e6, e7⟩ := pop none rfl
      refine ⟨o, T', by rw [e1, preF_none]; rfl, e2, e3, e4, e5, e6, fun r V' hE => wX10_run_120 hK hi' ha (bf hc ⟨hin, ?_⟩)⟩
      rw [et, el, hl]
      exact nf rfl (e7 r V' hE)
  · rw [if_neg c]
    have hc : nI (ke t) < nI lo := by
      rw [nI_l' (by omega) (by omega)]
      omega
    obtain ⟨o, T', e1, e2, e3, e4, e5, e6, e7⟩ := pop none rfl
    exact ⟨o, T', by rw [e1]; rfl, e2, e3, e4, e5, e6, fun r V' hE => wX10_run_120 hK hi' ha (bt hc (e7 r V' hE))⟩
theorem c10_86 (hK : StK K) (hi' : IsSt K b 10 ky) (ha : IsAk K a) (hT : TrC b m lc rc root V) {T : List Nat} (hok : ∀ u, u ∈ T → okT lc rc nT (some u)) (hst : stk b T V) (ht : okT lc rc nT (some t)) (h80 : nT ≤ 80) (hlen : T.length < 80) (hhi : hi ≤ 101) (hkey : ke t < 100) {x2 x6 : Int32} : ∃ (T' : List Nat) (V1 : SV), tdo (preF ke lo hi lc rc 80) T' = (if ke t < hi then preF ke lo hi lc rc 80 (rc t) else []) ++ tdo (preF ke lo hi lc rc 80) T ∧ (∀ u, u ∈ T' → okT lc rc nT (some u)) ∧ stk b T' V1 ∧ T'.length ≤ 80 ∧ fr (fun x _ => x = b + 4) V V1 ∧ ∀ (r : Option Value) (V' : SV), Ev G (d + 1) mX10_run 120 [(0, .ref b), (1, .ref a), (2, .int x2), (3, .int (nI hi - 1)), (4, .int (nI T'.length)), (5, .int (nI t)), (6, .int x6), (7, .int (nI (ke t)))] (K, n, V1, J, O) r (K, n, V', J, O) → Ev G (d + 1) mX10_run 86 [(0, .ref b), (1, .ref a), (2, .int x2), (3, .int (nI hi - 1)), (4, .int (nI T.length)), (5, .int (nI t)), (6, .int x6), (7, .int (nI (ke t)))] (K, n, V, J, O) r (K, n, V', J, O) := by
  have htn := okT_in ht
  obtain ⟨okl, okr, -⟩ := okT_s (ke := ke) (lo := lo) (hi := hi) ht
  have hin : vp_in (nI t) 80 := nI_v (by omega) (by omega)
  have et : (nI t).toNatClampNeg = t := nI_c (by omega)
  have el := (hT.2.2.2 t (by omega)).2
  by_cases c : ke t < hi
  · rw [if_pos c]
    have hc : ¬ nI hi - 1 < nI (ke t) := by
      rw [pr_ltx (by omega) (by omega)]
      exact fun z => z c
    cases hl : rc t with
    | some l =>
      rw [hl] at okr
      have hl80 := hT.1.2.2.1 t l hl
      refine ⟨l :: T, up2 V (b + 4) T.length (nI l), rfl, fun u hu => ?_, stk_push hst, by rw [List.length_cons]; omega, fr_up fr_rfl rfl, fun r V' hE => wX10_run_86 hK hi' ha (bf hc ⟨hin, ?_⟩)⟩
      · rcases List.mem_cons.mp hu with e | e
        · rw [e]; exact okr
        · exact hok u e
      · rw [et, el, hl, nI_1, nI_c (show T.length < 100000 by omega)]
        exact bf (nI_nm1 (by omega)) ⟨hin, nI_v (by omega) (by omega), hE⟩
    | none =>
      refine ⟨T, V, by rw [preF_none]; rfl, hok, hst, by omega, fr_rfl, fun r V' hE => wX10_run_86 hK hi' ha (bf hc ⟨hin, ?_⟩)⟩
      rw [et, el, hl]
      exact bt rfl hE
  · rw [if_neg c]
    have hc : nI hi - 1 < nI (ke t) := by
      rw [pr_ltx (by omega) (by omega)]
      exact c
    exact ⟨T, V, rfl, hok, hst, by omega, fr_rfl, fun r V' hE => wX10_run_86 hK hi' ha (bt hc hE)⟩
theorem frU_tr {x k : Nat} (hab : apart 5 a b) (hz : 3 ≤ 5) (h : frU 5 a b x k) : (x ≠ b + 2 ∧ x ≠ b + 3 ∧ (x = b → k ≠ 12 ∧ k ≠ 13)) := by
  unfold apart at hab
  unfold frU at h
  omega
theorem c10_run30 (hK : StK K) (hi' : IsSt K b 10 ky) (ha : IsAk K a) (hab : apart 5 a b) (hz : 3 ≤ 5) (hb : 96 ≤ b) (hky : ky < 4) (h80 : nT ≤ 80) (hlo : lo ≤ 101) (hhi : hi ≤ 101) : ∀ (N : Nat) (T : List Nat) (o : Option Nat) (s : RuS) (c x6 : Nat) (V : SV), (preF (fl ky) lo hi lc rc 80 o ++ tdo (preF (fl ky) lo hi lc rc 80) T).length = N → x6 + N ≤ m → okT lc rc nT o → (∀ u, u ∈ T → okT lc rc nT (some u)) → (o = none → T = []) → stk b T V → TrC b m lc rc root V → AkRun a nT q fl A B V → RC a nT (fl (qc q)) s V → V b 8 = nI c → ∃ V', Ev G (d + 3) mX10_run 30 [(0, .ref b), (1, .ref a), (2, .int (nI lo)), (3, .int (nI hi - 1)), (4, .int (nI T.length)), (5, .int (moI o)), (6, .int (nI x6))] (K, n, V, J, O) (some (.int (rsl (qw q) ((preF (fl ky) lo hi lc rc 80 o ++ tdo (preF (fl ky) lo hi lc rc 80) T).foldl (tstp lo hi q fl A B (qc q) ky) s)))) (K, n, V', J, O) ∧ V' b 8 = nI (c + N) ∧ fr (frU 5 a b) V V' := by
  intro N
  induction N with
  | zero =>
    intro T o s c x6 V hN hx hoo hoT hno hst hT hA hS h8
    have hm := hT.1.1
    rw [List.length_eq_zero_iff] at hN
    rw [hN]
    have hend : ∀ {x4 x5 x6 : Int32}, Ev G (d + 3) mX10_run 168 [(0, .ref b), (1, .ref a), (2, .int (nI lo)), (3, .int (nI hi - 1)), (4, .int x4), (5, .int x5), (6, .int x6)] (K, n, V, J, O) (some (.int (rsl (qw q) s))) (K, n, V, J, O) := wX10_run_168 hK hi' ha ⟨_, c0_result hK ha hA.1 hA.2.1.2.1 hS, rfl, rfl⟩
    have ho : o = none := by
      cases o with
      | none => rfl
      | some t =>
        have := preF_pos (ke := fl ky) (lo := lo) (hi := hi) hoo
        rw [List.append_eq_nil_iff] at hN
        rw [hN.1] at this
        simp at this
    refine ⟨V, wX10_run_30 hK hi' ha ?_, h8, fr_rfl⟩
    by_cases e : V b 13 ≤ nI x6
    · exact bt e hend
    · refine bf e (bt ?_ hend)
      rw [ho]
      rfl
  | succ N ih =>
    intro T o s c x6 V hN hx hoo hoT hno hst hT hA hS h8
    have hm := hT.1.1
    cases o with
    | none =>
      rw [hno rfl, preF_none] at hN
      cases hN
    | some t =>
      have htn := okT_in hoo
      obtain ⟨okl, okr, eP⟩ := okT_s (ke := fl ky) (lo := lo) (hi := hi) hoo
      have hab' := hab
      unfold apart at hab'
      have f0 : fr (fun x k => x = b ∧ k = 8) V (up2 V b 8 (V b 8 + 1)) := fr_up fr_rfl ⟨rfl, rfl⟩
      have hkk := hA.2.2.2.1.2 ky t hky htn
      have eke : up2 V b 8 (V b 8 + 1) (4 + 1 + ky) t = nI (fl ky t) := by rw [up2_a (by omega), hkk.1]
      rw [eP] at hN ⊢
      rw [List.cons_append, List.length_cons, List.append_assoc, List.length_append, List.length_append] at hN
      have hTl := tdo_len (ke := fl ky) (lo := lo) (hi := hi) hoT
      have hTlen : T.length < 80 := by omega
      -- what is seen
      have see : ∃ V1, fr (frU 5 a b) V V1 ∧ stk b T V1 ∧ TrC b m lc rc root V1 ∧ AkRun a nT q fl A B V1 ∧ RC a nT (fl (qc q)) (tstp lo hi q fl A B (qc q) ky s t) V1 ∧ V1 b 8 = nI (c + 1) ∧ ∀ (r : Option Value) (V' : SV), Ev G (d + 3) mX10_run 86 [(0, .ref b), (1, .ref a), (2, .int (nI lo)), (3, .int (nI hi - 1)), (4, .int (nI T.length)), (5, .int (nI t)), (6, .int (nI x6)), (7, .int (nI (fl ky t)))] (K, n, V1, J, O) r (K, n, V', J, O) → Ev G (d + 3) mX10_run 30 [(0, .ref b), (1, .ref a), (2, .int (nI lo)), (3, .int (nI hi - 1)), (4, .int (nI T.length)), (5, .int (nI t)), (6, .int (nI x6))] (K, n, V, J, O) r (K, n, V', J, O) := by
        have start := fun (r : Option Value) (V' : SV) hh => wX10_run_30 (G := G) (d := d + 2) (K := K) (n := n) (V := V) (V' := V') (J := J) (O := O) (r := r) (x2 := nI lo) (x3 := nI hi - 1) (x4 := nI T.length) (x5 := nI t) (x6 := nI x6) hK hi' ha (bf (by rw [hT.2.1, nI_le' (by omega) (by omega)]; omega) (bf (nI_nm1 (by omega)) ⟨nI_v (by omega) (by omega), hh⟩))
        rw [nI_c (show t < 100000 by omega), eke, nI_l' (by omega) (by omega), pr_ltx (by omega) (by omega)] at start
        unfold tstp
        by_cases c1 : lo ≤ fl ky t ∧ fl ky t < hi
        · rw [if_pos c1]
          obtain ⟨V1, z1, z2, z3⟩ := c0_see (G := G) (d := d) (n := n) (J := J) (O := O) (V := up2 V b 8 (V b 8 + 1)) hK ha (AkRun_b hA hab hz hb) (RC_b hS hab hz) htn
          have f1 : fr (frU 5 a b) V V1 := fr_mo (fr_tr f0 z3) (fun x k q => by unfold frU; unfold frA at q; omega)
          have f1' : fr (fun x k => x ≠ b + 4) V V1 := fr_mo (fr_tr f0 z3) (fun x k q => by unfold frA at q; omega)
          refine ⟨V1, f1, stk_fr hst f1', TrC_o hT (fr_mo f1 (fun x k q => frU_tr hab hz q)), AkRun_fr (AkRun_b hA hab hz hb) (fr_mo z3 (fun x k q => by have := hA.2.2.2.2.2.2; unfold frA at q; omega)), z2, by rw [z3 _ _ (by unfold frA; omega), up2_s, h8, nI_1], fun r V' hE => start r V' (bf (by omega) (bf (fun z => z c1.2) ⟨V1, z1, hE⟩))⟩
        · rw [if_neg c1]
          have f1 : fr (frU 5 a b) V (up2 V b 8 (V b 8 + 1)) := fr_mo f0 (fun x k q => by unfold frU; omega)
          refine ⟨up2 V b 8 (V b 8 + 1), f1, stk_fr hst (fr_mo f0 (fun x k q => by omega)), TrC_o hT (fr_mo f0 (fun x k q => by omega)), AkRun_b hA hab hz hb, RC_b hS hab hz, by rw [up2_s, h8, nI_1], fun r V' hE => start r V' ?_⟩
          by_cases c2 : fl ky t < lo
          · exact bt c2 hE
          · exact bf c2 (bt (by omega) hE)
      obtain ⟨V1, f1, g1, g2, g3, g4, g5, g6⟩ := see
      obtain ⟨T1, V2, e1, e2, e3, e4, e5, e6⟩ := c10_86 (G := G) (d := d + 2) (n := n) (J := J) (O := O) (a := a) (ke := fl ky) (lo := lo) (hi := hi) (x2 := nI lo) (x6 := nI x6) hK hi' ha g2 hoT g1 hoo h80 hTlen hhi hkk.2
      have hT2 := TrC_o g2 (fr_mo e5 (fun x k q => by omega))
      obtain ⟨o', T', w1, w2, w3, w4, w5, w6, w7⟩ := c10_120 (G := G) (d := d + 2) (n := n) (J := J) (O := O) (a := a) (ke := fl ky) (lo := lo) (hi := hi) (x3 := nI hi - 1) (x6 := nI x6) hK hi' ha hT2 e2 e3 hoo h80 e4 hlo hkk.2
      have hA2 := AkRun_fr g3 (fr_mo e5 (fun x k q => by have := hA.2.2.2.2.2.2; omega))
      have hS2 := RC_fr g4 (fr_mo e5 (fun x k q => by omega))
      rw [e1] at w1
      obtain ⟨V3, y1, y2, y3⟩ := ih T' o' (tstp lo hi q fl A B (qc q) ky s t) (c + 1) (x6 + 1) V2 (by rw [w1, List.length_append, List.length_append]; omega) (by omega) w3 w4 w2 w5 hT2 hA2 hS2 (by rw [e5 _ _ (by omega)]; exact g5)
      refine ⟨V3, ?_, by rw [y2]; congr 1; omega, fr_mo (fr_tr (fr_tr f1 e5) y3) (fun x k q => by unfold frU at *; omega)⟩
      rw [List.cons_append, List.foldl_cons, List.append_assoc, ← w1]
      exact g6 _ _ (e6 _ _ (w7 _ _ (wX10_run_162 hK hi' ha (by rw [nI_1]; exact y1))))
theorem c10_run (hK : StK K) (hi' : IsSt K b 10 ky) (ha : IsAk K a) (hab : apart 5 a b) (hz : 3 ≤ 5) (hb : 96 ≤ b) (hky : ky < 4) {L : List Nat} (hL : TS lc rc 80 root L) (hm : L.length = m) (hn : ∀ u, u ∈ L → u < nT) : tyC 5 G (d + 3) K mX10_run b a ky nT q fl A B (TrC b m lc rc root) (rsl (qw q) ((preF (fl ky) (loE q A B ky) (hiE q A B ky) lc rc 80 root).foldl (tstp (loE q A B ky) (hiE q A B ky) q fl A B (qc q) ky) (0, 0, none))) (preF (fl ky) (loE q A B ky) (hiE q A B ky) lc rc 80 root).length := fun n J O V h1 h2 h3 h4 h5 => by
  have hh := hiE_le (q := q) (A := A) (B := B) (ky := ky)
  have hl := loE_le h1.1 (ky := ky) h1.2.2.2.2.1 h1.2.2.2.2.2.1
  have y1 := c0_highEnd (G := G) (d := d + 1) (n := n) (J := J) (O := O) hK ha h1.1 h1.2.1 h1.2.2.1 h1.2.2.2.2.1 h1.2.2.2.2.2.1 hky
  have y2 := c0_lowEnd (G := G) (d := d + 1) (n := n) (J := J) (O := O) hK ha h1.1 h1.2.1 h1.2.2.1 h1.2.2.2.2.1 h1.2.2.2.2.2.1 hky
  have hlen := preF_len (ke := fl ky) (lo := loE q A B ky) (hi := hiE q A B ky) hL
  have e0 : preF (fl ky) (loE q A B ky) (hiE q A B ky) lc rc 80 root ++ tdo (preF (fl ky) (loE q A B ky) (hiE q A B ky) lc rc 80) [] = preF (fl ky) (loE q A B ky) (hiE q A B ky) lc rc 80 root := List.append_nil _
  obtain ⟨V1, z1, z2, z3⟩ := c10_run30 (G := G) (d := d) (n := n) (J := J) (O := O) (lo := loE q A B ky) (hi := hiE q A B ky) (m := m) (root := root) hK hi' ha hab hz hb hky h1.2.2.2.1.1 (by omega) (by omega) (preF (fl ky) (loE q A B ky) (hiE q A B ky) lc rc 80 root).length [] root (0, 0, none) 0 0 V (by rw [e0]) (by omega) ⟨80, L, by omega, hL, hn⟩ (fun u hu => by cases hu) (fun _ => rfl) (fun j hj => by cases hj) h3 h1 h2 h4
  rw [e0] at z1
  exact ⟨V1, wX10_run_0 hK hi' ha ⟨_, by rw [h5]; exact y2, _, by rw [h5]; exact y1, by rw [h3.2.2.1]; exact z1⟩, by rw [z2, Nat.zero_add], z3⟩
theorem TrM_n (h : TrM sn m lc rc root V) (hf : fr frN V V') : TrM sn m lc rc root V' := TrM_o h (fr_mo hf (fun x k q => by unfold frN at q; omega))
theorem c12_tree0 (hK : StK K) (hs : sn < 10) (hky : ky < 4) : ∀ (h : Nat) (o : Option Nat) (L : List Nat) (s : RuS) (c : Nat) (V : SV), TS lc rc h o L → (∀ u, u ∈ L → u < nT) → TrM sn m lc rc root V → mKe sn ky nT (fl ky) V → AkRunM p nT q fl A B V → RM nT s V → V 57 33 = nI c → ∃ V', Ev G (d + 3 + h) mX12_seeTree 0 [(0, .ref 57), (1, .int (nI p)), (2, .int (nI sn)), (3, .int (moI o))] (K, n, V, J, O) none (K, n, V', J, O) ∧ RM nT ((inF (fl ky) (loE q A B ky) (hiE q A B ky) lc rc h o).foldl (tstp (loE q A B ky) (hiE q A B ky) q fl A B (qr q) ky) s) V' ∧ V' 57 33 = nI (c + (inF (fl ky) (loE q A B ky) (hiE q A B ky) lc rc h o).length) ∧ fr frN V V' := by
  have hh := hiE_le (q := q) (A := A) (B := B) (ky := ky)
  have nn : ∀ (D : Nat) (h : Nat) (s : RuS) (c : Nat) (V : SV), RM nT s V → V 57 33 = nI c → ∃ V', Ev G (D + 1) mX12_seeTree 0 [(0, .ref 57), (1, .int (nI p)), (2, .int (nI sn)), (3, .int (moI none))] (K, n, V, J, O) none (K, n, V', J, O) ∧ RM nT ((inF (fl ky) (loE q A B ky) (hiE q A B ky) lc rc h none).foldl (tstp (loE q A B ky) (hiE q A B ky) q fl A B (qr q) ky) s) V' ∧ V' 57 33 = nI (c + (inF (fl ky) (loE q A B ky) (hiE q A B ky) lc rc h none).length) ∧ fr frN V V' := fun D h s c V hS h8 => ⟨V, wX12_seeTree_0 hK (bf (by decide) ⟨rfl, rfl⟩), by rw [inF_none]; exact hS, by rw [inF_none]; exact h8, fr_rfl⟩
  intro h
  induction h with
  | zero =>
    intro o L s c V hL hn hT hk hA hS h8
    obtain ⟨rfl, rfl⟩ := hL
    exact nn (d + 2) 0 s c V hS h8
  | succ h ih =>
    intro o L s c V hL hn hT hk hA hS h8
    cases o with
    | none => exact nn (d + 3 + h) (h + 1) s c V hS h8
    | some t =>
      obtain ⟨LA, LB, e, q1, q2⟩ := hL
      subst e
      have hl := loE_le hA.1 (ky := ky) hA.2.2.2.2.1 hA.2.2.2.2.2.1
      have htn : t < nT := hn t (by simp)
      have hnT := hk.2.2.1
      obtain ⟨l1, l2⟩ := look1 h8
      have hkk := hk.2.2.2.2 t htn
      generalize hV1 : up2 V 57 33 (V 57 33 + 1) = V1 at l1 l2
      have hT1 := TrM_n hT l1
      have hk1 := mKe_n hk l1
      have hA1 := AkRunM_n hA l1
      have hS1 : RM nT s V1 := hV1 ▸ RM_l hS
      have y1 := c12_keyIn (G := G) (d := d + 3 + h) (n := n) (J := J) (O := O) hK hk1 htn
      have y2 := c12_leastOf (G := G) (d := d + 2 + h) (n := n) (J := J) (O := O) hK hA1 hs hky hk1.2.2.2.1
      have ix : (nI (80 * sn + t)).toNatClampNeg = 80 * sn + t := nI_c (by omega)
      have hin : vp_in (nI (80 * sn + t)) 800 := nI_v (by omega) (by omega)
      obtain ⟨p1, p2⟩ := hT.2.2.2 t (by omega)
      have ed : d + 2 + h + 1 = d + 3 + h := by omega
      -- the lesser side
      have left : ∃ V2, fr frN V1 V2 ∧ RM nT ((if loE q A B ky ≤ fl ky t then inF (fl ky) (loE q A B ky) (hiE q A B ky) lc rc h (lc t) else []).foldl (tstp (loE q A B ky) (hiE q A B ky) q fl A B (qr q) ky) s) V2 ∧ V2 57 33 = nI (c + 1 + (if loE q A B ky ≤ fl ky t then inF (fl ky) (loE q A B ky) (hiE q A B ky) lc rc h (lc t) else []).length) ∧ ∀ (V' : SV), Ev G (d + 3 + h + 1) mX12_seeTree 51 [(0, .ref 57), (1, .int (nI p)), (2, .int (nI sn)), (3, .int (nI t)), (4, .int (nI (fl ky t)))] (K, n, V2, J, O) none (K, n, V', J, O) → Ev G (d + 3 + h + 1) mX12_seeTree 0 [(0, .ref 57), (1, .int (nI p)), (2, .int (nI sn)), (3, .int (nI t))] (K, n, V, J, O) none (K, n, V', J, O) := by
        have start := fun (V' : SV) hh => wX12_seeTree_0 (G := G) (d := d + 3 + h) (K := K) (n := n) (V := V) (V' := V') (J := J) (O := O) (r := none) (x1 := nI p) (x2 := nI sn) (x3 := nI t) hK (bt (nI_pos' (by omega)) ⟨_, by rw [hV1]; exact y1, _, by rw [hV1, ← ed]; exact y2, hh⟩)
        rw [nI_l' (by omega) (by omega), ix80, ix, hV1, p1] at start
        by_cases c1 : loE q A B ky ≤ fl ky t
        · rw [if_pos c1]
          obtain ⟨V2, z1, z2, z3, z4⟩ := ih (lc t) LA s (c + 1) V1 q1 (fun u hu => hn u (by simp [hu])) hT1 hk1 hA1 hS1 l2
          exact ⟨V2, z4, z2, z3, fun V' hE => start V' (bf (by omega) ⟨hin, V2, z1, hE⟩)⟩
        · rw [if_neg c1]
          exact ⟨V1, fr_rfl, hS1, l2, fun V' hE => start V' (bt (by omega) hE)⟩
      obtain ⟨V2, g1, g2, g3, g4⟩ := left
      have hk2 := mKe_n hk1 g1
      have hA2 := AkRunM_n hA1 g1
      generalize hLs : (if loE q A B ky ≤ fl ky t then inF (fl ky) (loE q A B ky) (hiE q A B ky) lc rc h (lc t) else []) = Ls at g2 g3
      have y3 := c12_leastOf (G := G) (d := d + 2 + h) (n := n) (J := J) (O := O) hK hA2 hs hky hk2.2.2.2.1
      have y4 := c12_mostOf (G := G) (d := d + 2 + h) (n := n) (J := J) (O := O) hK hA2 hs hky hk2.2.2.2.1
      rw [ed] at y3 y4
      -- itself
      have mid : ∃ V3, fr frN V2 V3 ∧ RM nT (tstp (loE q A B ky) (hiE q A B ky) q fl A B (qr q) ky (Ls.foldl (tstp (loE q A B ky) (hiE q A B ky) q fl A B (qr q) ky) s) t) V3 ∧ V3 57 33 = V2 57 33 ∧ ∀ (V' : SV), Ev G (d + 3 + h + 1) mX12_seeTree 80 [(0, .ref 57), (1, .int (nI p)), (2, .int (nI sn)), (3, .int (nI t)), (4, .int (nI (fl ky t)))] (K, n, V3, J, O) none (K, n, V', J, O) → Ev G (d + 3 + h + 1) mX12_seeTree 51 [(0, .ref 57), (1, .int (nI p)), (2, .int (nI sn)), (3, .int (nI t)), (4, .int (nI (fl ky t)))] (K, n, V2, J, O) none (K, n, V', J, O) := by
        have yw : Ev G (d + 3 + h) mX12_within 0 [(0, .long (nI (fl ky t)).toInt64), (2, .long (nI (loE q A B ky)).toInt64), (4, .long (nI (hiE q A B ky) - 1).toInt64)] (K, n, V2, J, O) (some (.int (bI (btw (nI (loE q A B ky)) (nI (fl ky t)) (nI (hiE q A B ky) - 1))))) (K, n, V2, J, O) := c12_wi hK rfl rfl
        have eb : btw (nI (loE q A B ky)) (nI (fl ky t)) (nI (hiE q A B ky) - 1) ↔ (loE q A B ky ≤ fl ky t ∧ fl ky t < hiE q A B ky) := by
          unfold btw
          rw [nI_le' (by omega) (by omega), le_pr (by omega) (by omega)]
        unfold tstp
        by_cases c1 : loE q A B ky ≤ fl ky t ∧ fl ky t < hiE q A B ky
        · rw [if_pos c1]
          obtain ⟨V3, z1, z2, z3⟩ := c12_see (G := G) (d := d + 1 + h) (n := n) (J := J) (O := O) hK hA2 g2 htn
          rw [show d + 1 + h + 2 = d + 3 + h by omega] at z1
          exact ⟨V3, fr_mo z3 (fun x k q => frMs_N q), z2, z3 _ _ (by unfold frMs; omega), fun V' hE => wX12_seeTree_51 hK ⟨_, y3, _, y4, _, yw, bz_y (eb.mpr c1) ⟨V3, z1, hE⟩⟩⟩
        · rw [if_neg c1]
          exact ⟨V2, fr_rfl, g2, rfl, fun V' hE => wX12_seeTree_51 hK ⟨_, y3, _, y4, _, yw, bz_n (fun z => c1 (eb.mp z)) hE⟩⟩
      obtain ⟨V3, k1, k2, k3, k4⟩ := mid
      have f3 : fr frN V1 V3 := fr_mo (fr_tr g1 k1) (fun x k q => q.elim id id)
      have hk3 := mKe_n hk1 f3
      have hA3 := AkRunM_n hA1 f3
      have y5 := c12_mostOf (G := G) (d := d + 2 + h) (n := n) (J := J) (O := O) hK hA3 hs hky hk3.2.2.2.1
      rw [ed] at y5
      have e75 : V3 75 (80 * sn + t) = moI (rc t) := by rw [f3 _ _ (by unfold frN; omega), l1 _ _ (by unfold frN; omega)]; exact p2
      have elist : inF (fl ky) (loE q A B ky) (hiE q A B ky) lc rc (h + 1) (some t) = Ls ++ t :: (if fl ky t < hiE q A B ky then inF (fl ky) (loE q A B ky) (hiE q A B ky) lc rc h (rc t) else []) := by rw [← hLs]; rfl
      rw [elist, List.foldl_append, List.foldl_cons, List.length_append, List.length_cons]
      by_cases c2 : fl ky t < hiE q A B ky
      · rw [if_pos c2]
        obtain ⟨V4, z1, z2, z3, z4⟩ := ih (rc t) LB _ (c + 1 + Ls.length) V3 q2 (fun u hu => hn u (by simp [hu])) (TrM_n hT1 f3) hk3 hA3 k2 (by rw [k3]; exact g3)
        refine ⟨V4, g4 V4 (k4 V4 (wX12_seeTree_80 hK ⟨_, y5, ?_⟩)), z2, by rw [z3]; congr 1; omega, fr_mo (fr_tr (fr_tr l1 f3) z4) (fun x k q => q.elim (fun q => q.elim id id) id)⟩
        rw [pr_ltx (by omega) (by omega), ix80, ix, e75]
        exact ⟨fun z => absurd c2 z, fun _ => ⟨hin, V4, z1, rfl, rfl⟩⟩
      · rw [if_neg c2]
        refine ⟨V3, g4 V3 (k4 V3 (wX12_seeTree_80 hK ⟨_, y5, ?_⟩)), k2, by rw [k3, g3]; congr 1; simp; omega, fr_mo (fr_tr l1 f3) (fun x k q => q.elim id id)⟩
        rw [pr_ltx (by omega) (by omega)]
        exact ⟨fun _ => ⟨rfl, rfl⟩, fun z => absurd c2 z⟩
theorem m5_run (hK : StK K) (hs : sn < 10) (hky : ky < 4) {L : List Nat} (hL : TS lc rc 80 root L) (hn : ∀ u, u ∈ L → u < nT) : tyM G (d + 84) K 5 sn p ky nT q fl A B (TrM sn m lc rc root) (rsl (qw q) ((inF (fl ky) (loE q A B ky) (hiE q A B ky) lc rc 80 root).foldl (tstp (loE q A B ky) (hiE q A B ky) q fl A B (qr q) ky) (0, 0, none))) (inF (fl ky) (loE q A B ky) (hiE q A B ky) lc rc 80 root).length := fun n J O V h1 h2 h3 h4 h5 h6 h7 h8 h9 => by
  obtain ⟨V1, z1, z2, z3, z4, z5⟩ := c12_begin (G := G) (d := d + 83) (n := n) (J := J) (O := O) hK h1 h2 h3 h4 h5 h6
  have hT1 := TrM_o h9 (fr_mo z5 (fun x k q => by omega) : fr (fun a _ => a ≠ 73 ∧ a ≠ 74 ∧ a ≠ 75 ∧ a ≠ 76) V V1)
  obtain ⟨V2, y1, y2, y3, y4⟩ := c12_tree0 (G := G) (d := d) (n := n) (J := J) (O := O) (m := m) (root := root) hK hs hky 80 root L (0, 0, none) 0 V1 hL hn hT1 (mKe_o h7 (fr_mo z5 (fun x k q => by omega))) z2 z3 z4
  rw [show d + 3 + 80 = d + 83 by omega] at y1
  refine ⟨V2, wX12_throughOf_0 hK ⟨V1, z1, nI_v hs (by omega), ?_⟩, by rw [y3, Nat.zero_add], frV2 z5 y4⟩
  rw [nI_c (by omega)]
  refine tw_5 (by rw [z5 _ _ (by omega)]; exact h8) ⟨nI_v hs (by omega), V2, ?_, c12_242 hK (AkRunM_n z2 y4) y2⟩
  rw [hT1.2.2.1]
  exact y1
end
