theorem nd_split {X Y A B : List Nat} {t : Nat} (e : X ++ t :: Y = A ++ t :: B) (hn : (A ++ t :: B).Nodup) : X = A ∧ Y = B := by
  have hn1 := List.nodup_append.mp hn
  have hn2 := List.nodup_cons.mp hn1.2.1
  rcases app_mid e with ⟨h, -⟩ | ⟨-, B1, h1, h2⟩
  · exact absurd rfl (hn1.2.2 t h t (by simp))
  · cases B1 with
    | nil =>
      simp only [List.nil_append, List.cons.injEq, true_and] at h1
      exact ⟨by simpa using h2, h1.symm⟩
    | cons x B1 =>
      simp only [List.cons_append, List.cons.injEq] at h1
      exact absurd (by rw [h1.2]; simp) hn2.1
theorem srt_nd {ke : Nat → Nat} {L : List Nat} (h : srt ke L) : L.Nodup := by
  refine List.Pairwise.imp (S := fun a b => a ≠ b) ?_ h
  intro a b hx he
  subst he
  exact lts_ir hx
theorem nd_len : ∀ {A B : List Nat}, A.Nodup → (∀ u, u ∈ A → u ∈ B) → A.length ≤ B.length
  | [], B, _, _ => by simp
  | a :: A, B, hn, hs => by
    have hn2 := List.nodup_cons.mp hn
    have ha := hs a (by simp)
    have := nd_len (A := A) (B := B.erase a) hn2.2 (fun u hu => (List.mem_erase_of_ne (fun hx => by subst hx; exact hn2.1 hu)).mpr (hs u (by simp [hu])))
    rw [List.length_erase_of_mem ha] at this
    have := List.length_pos_of_mem ha
    simp only [List.length_cons]
    omega
theorem lm_c {lc : Nat → Option Nat} {j : Nat} : ∀ {f l k c : Nat}, lm lc f l k (c + j) = ((lm lc f l k c).1, (lm lc f l k c).2.1, (lm lc f l k c).2.2 + j)
  | 0, _, _, _ => rfl
  | f + 1, l, k, c => by
    unfold lm
    cases lc k with
    | none => rfl
    | some k' =>
      dsimp only
      rw [show c + j + 1 = c + 1 + j by omega]
      exact lm_c
/-- taking t from the tree with the root k: pointers, root, looks -/
def tkT (ke : Nat → Nat) (lc rc : Nat → Option Nat) (k t : Nat) : (Nat → Option Nat) × (Nat → Option Nat) × Option Nat × Nat := match dt ke lc rc t 80 none k 0 with
  | (none, c) => ((hrT lc rc t).1, (hrT lc rc t).2.1, (hrT lc rc t).2.2.1, c + 1 + (hrT lc rc t).2.2.2)
  | (some p, c) => (hgl (hrT lc rc t).1 t p (hrT lc rc t).2.2.1, hgr (hrT lc rc t).1 (hrT lc rc t).2.1 t p (hrT lc rc t).2.2.1, some k, c + 1 + (hrT lc rc t).2.2.2)
/-- what lies below t -/
theorem at_t {ke : Nat → Nat} {lc rc : Nat → Option Nat} {k t : Nat} {A B : List Nat} (q : TS lc rc 80 (some k) (A ++ t :: B)) (hs : srt ke (A ++ t :: B)) : ∃ h A2 B2, h < 80 ∧ TS lc rc h (lc t) A2 ∧ TS lc rc h (rc t) B2 ∧ (A2 ++ t :: B2).Nodup ∧ (∀ u, u ∈ A2 ++ t :: B2 → u ∈ A ++ t :: B) ∧ (A2 ++ t :: B2).length ≤ (A ++ t :: B).length := by
  have hn := srt_nd hs
  by_cases e : k = t
  · subst e
    obtain ⟨X, Y, e, q1, q2⟩ := q
    obtain ⟨rfl, rfl⟩ := nd_split e.symm hn
    exact ⟨79, X, Y, by decide, q1, q2, hn, fun u hu => hu, Nat.le_refl _⟩
  · obtain ⟨p, c', -, -, -, -, h2, A2, B2, z5, z6, z7, z8, -⟩ := dt_pure (f := 80) (c := 0) (ab := none) (Nat.le_refl 80) q hs hn e
    cases h2 with
    | zero => simp [TS] at z6
    | succ h3 =>
      obtain ⟨X, Y, e, q1, q2⟩ := z6
      obtain ⟨rfl, rfl⟩ := nd_split e.symm z8
      exact ⟨h3, X, Y, by omega, q1, q2, z8, z7, nd_len z8 z7⟩
theorem tk_pure {ke : Nat → Nat} {lc rc : Nat → Option Nat} {k t : Nat} {A B : List Nat} (q : TS lc rc 80 (some k) (A ++ t :: B)) (hs : srt ke (A ++ t :: B)) : TS (tkT ke lc rc k t).1 (tkT ke lc rc k t).2.1 80 (tkT ke lc rc k t).2.2.1 (A ++ B) := by
  have hn := srt_nd hs
  by_cases e : k = t
  · subst e
    obtain ⟨X, Y, e, q1, q2⟩ := q
    obtain ⟨rfl, rfl⟩ := nd_split e.symm hn
    have hd : dt ke lc rc k 80 none k 0 = (none, 0) := by
      unfold dt
      rw [if_pos rfl]
    unfold tkT
    rw [hd]
    exact (hrT_pure q1 q2 hn (by decide)).1
  · obtain ⟨p, c', z1, z2, z3, z4, h2, A2, B2, z5, z6, z7, z8, z9, z10⟩ := dt_pure (f := 80) (c := 0) (ab := none) (Nat.le_refl 80) q hs hn e
    cases h2 with
    | zero => simp [TS] at z6
    | succ h3 =>
      obtain ⟨X, Y, e, q1, q2⟩ := z6
      obtain ⟨rfl, rfl⟩ := nd_split e.symm z8
      obtain ⟨y1, y2⟩ := hrT_pure q1 q2 z8 (by omega)
      unfold tkT
      rw [z1]
      exact z10 _ _ _ y2 y1
theorem moI_e {o : Option Nat} {t : Nat} (h : ∀ k, o = some k → k ≤ 9999) (ht : t < 100000) : (moI o = nI t) = (o = some t) := by
  cases o with
  | none =>
    simp only [moI, reduceCtorEq, eq_iff_iff, iff_false]
    intro e
    have := congrArg Int32.toInt e
    rw [nI_ti ht] at this
    have e2 : (-1 : Int32).toInt = -1 := by decide
    omega
  | some k =>
    have := h k rfl
    show (nI k = nI t) = _
    rw [nI_eq' (by omega) (by omega), Option.some.injEq]
section
variable {G : Gp} {d : Nat} {K : SK} {n : Nat × Nat} {V V' : SV} {J J' : SJV} {O O' : SO} {r : Option Value}
variable {b ky s nT m : Nat} {ke : Nat → Nat} {lc rc : Nat → Option Nat} {root : Option Nat}
theorem c10_heir68 (hK : StK K) (ha : IsSt K b 10 ky) {t : Nat} : ∀ (f h l k c st : Nat) (B : List Nat) (V : SV), h ≤ f → TS lc rc h (some k) B → (∀ u, u ∈ B → u < 80) → TrC b m lc rc root V → st + B.length ≤ m → V b 8 = nI c → (∀ x4, Ev G d mX10_heirOf 112 [(0, .ref b), (1, .int (nI t)), (2, .int (nI (lm lc f l k c).1)), (3, .int (nI (lm lc f l k c).2.1)), (4, .int x4)] (K, n, up2 V b 8 (nI (lm lc f l k c).2.2), J, O) r (K, n, V', J, O)) → Ev G d mX10_heirOf 68 [(0, .ref b), (1, .int (nI t)), (2, .int (nI l)), (3, .int (nI k)), (4, .int (nI st))] (K, n, V, J, O) r (K, n, V', J, O)
  | f, 0, l, k, c, st, B, V, hf, q, _, _, _, _, _ => by simp [TS] at q
  | 0, h + 1, l, k, c, st, B, V, hf, q, _, _, _, _, _ => by omega
  | f + 1, h + 1, l, k, c, st, B, V, hf, q, hB, hT, hst, h8, hE => by
    have hk80 := hB k (TS_mem q)
    obtain ⟨X, Y, e, q1, q2⟩ := q
    have hlen : B.length = X.length + Y.length + 1 := by rw [e]; simp; omega
    have hm := hT.1.1
    obtain ⟨f1, f2⟩ := hT.2.2.2 k hk80
    have g1 : fr (fun a k => a = b ∧ k = 8) V (up2 V b 8 (nI (c + 1))) := fr_up fr_rfl ⟨rfl, rfl⟩
    refine wX10_heirOf_68 hK ha (bf ?_ ⟨nI_v hk80 (by omega), ?_⟩)
    · rw [hT.2.1, nI_le' (by omega) (by omega)]
      omega
    · rw [nI_c (show k < 100000 by omega), f1, h8, nI_1, nI_1, moI_m1 (pb_m hT.1.2.1 k)]
      unfold lm at hE
      cases hl : lc k with
      | none =>
        rw [hl] at hE
        have := hE (nI st)
        dsimp only at this
        rw [← h8, up2_self] at this
        exact bt rfl this
      | some k' =>
        rw [hl] at hE q1
        refine bf (fun e => by cases e) ⟨nI_v hk80 (by omega), ?_⟩
        refine c10_heir68 hK ha f h k k' (c + 1) (st + 1) X _ (by omega) q1 (fun u hu => hB u (by rw [e]; simp [hu])) (hT.fr g1) (by omega) up2_s ?_
        intro x4
        rw [up2_2]
        exact hE x4
theorem c10_heirOf (hK : StK K) (ha : IsSt K b 10 ky) (hT : TrC b m lc rc root V) {t h c : Nat} {A B : List Nat} (q1 : TS lc rc h (lc t) A) (q2 : TS lc rc h (rc t) B) (hh : h < 80) (h80 : ∀ u, u ∈ A ++ t :: B → u < 80) (hlen : (A ++ t :: B).length ≤ m) (hn : (A ++ t :: B).Nodup) (h8 : V b 8 = nI c) : ∃ V', Ev G d mX10_heirOf 0 [(0, .ref b), (1, .int (nI t))] (K, n, V, J, O) (some (.int (moI (hrT lc rc t).2.2.1))) (K, n, V', J, O) ∧ TrC b m (hrT lc rc t).1 (hrT lc rc t).2.1 root V' ∧ V' b 8 = nI (c + (hrT lc rc t).2.2.2) ∧ (∀ u, (hrT lc rc t).2.2.1 = some u → u < 80) ∧ fr (fun a k => a = b + 2 ∨ a = b + 3 ∨ (a = b ∧ k = 8)) V V' := by
  have ht := h80 t (by simp)
  obtain ⟨f1, f2⟩ := hT.2.2.2 t ht
  have b2 := hT.1.2.1
  have b3 := hT.1.2.2.1
  have hm := hT.1.1
  unfold hrT
  cases hl : lc t with
  | none =>
    refine ⟨V, wX10_heirOf_0 hK ha ⟨nI_v ht (by omega), ?_⟩, hT, h8, fun u e => b3 t u e, fr_rfl⟩
    rw [nI_c (by omega), f1, hl]
    refine bt rfl (wX10_heirOf_20 hK ha ⟨nI_v ht (by omega), ?_⟩)
    rw [nI_c (by omega), f1, hl, f2]
    exact nf rfl ⟨nI_v ht (by omega), rfl, rfl⟩
  | some a =>
    have ha80 := b2 t a hl
    cases hr : rc t with
    | none =>
      refine ⟨V, wX10_heirOf_0 hK ha ⟨nI_v ht (by omega), ?_⟩, hT, h8, fun u e => by cases e; exact ha80, fr_rfl⟩
      rw [nI_c (by omega), f1, hl, f2, hr]
      refine bf (by rw [moI_m1 (fun u e => by cases e; omega)]; exact fun e => by cases e) ⟨nI_v ht (by omega), nf rfl ?_⟩
      refine wX10_heirOf_20 hK ha ⟨nI_v ht (by omega), ?_⟩
      rw [nI_c (by omega), f1, hl]
      exact nt (by rw [ne_eq, moI_m1 (fun u e => by cases e; omega)]; exact fun e => by cases e) ⟨nI_v ht (by omega), rfl, rfl⟩
    | some e =>
      have he80 := b3 t e hr
      rw [hr] at q2
      have hB80 : ∀ u, u ∈ B → u < 80 := fun u hu => h80 u (by simp [hu])
      have hn1 := List.nodup_append.mp hn
      have hn2 := List.nodup_cons.mp hn1.2.1
      obtain ⟨l', k', c', B', g1, g2, g3, g4, g5⟩ := lm_pure (l := t) (c := 1) (f := 80) (by omega) q2 hn2.2
      have hk80 : k' < 80 := hB80 k' (by rw [g2]; simp)
      have hl80 : l' < 80 := by
        rcases g5 with ⟨rfl, -⟩ | ⟨h, -⟩
        · exact ht
        · exact hB80 l' (by rw [g2]; simp [h])
      have hfr1 : fr (fun a k => a = b ∧ k = 8) V (up2 V b 8 (nI (c + 1))) := fr_up fr_rfl ⟨rfl, rfl⟩
      have hlm : lm lc 80 t e (1 + c) = (l', k', c' + c) := by rw [lm_c, g1]
      dsimp only
      rw [g1]
      dsimp only
      have hfr2 : fr (fun a k => a = b ∧ k = 8) V (up2 V b 8 (nI (c' + c))) := fr_up fr_rfl ⟨rfl, rfl⟩
      have hT2 := hT.fr hfr2
      generalize hV2 : up2 V b 8 (nI (c' + c)) = V2 at hfr2 hT2
      have e8 : V2 b 8 = nI (c + c') := by rw [← hV2, up2_s, Nat.add_comm]
      obtain ⟨⟨-, -, -, b4⟩, t1, t2, t3⟩ := hT2
      by_cases hlt : l' = t
      · simp only [if_pos hlt]
        refine ⟨up2 V2 (b + 2) k' (moI (some a)), wX10_heirOf_0 hK ha ⟨nI_v ht (by omega), ?_⟩, ⟨⟨hm, pb_up b2 (fun u e => by cases e; exact ha80), b3, b4⟩, ?_, ?_, fun u hu => ⟨up2_F (fun t ht => (t3 t ht).1) u hu, ?_⟩⟩, ?_, fun u e => by cases e; exact hk80, ?_⟩
        · rw [nI_c (by omega), f1, hl, f2, hr, h8, nI_1]
          refine bf (by rw [moI_m1 (fun u e => by cases e; omega)]; exact fun e => by cases e) ⟨nI_v ht (by omega), nt (by rw [ne_eq, moI_m1 (fun u e => by cases e; omega)]; exact fun e => by cases e) ⟨nI_v ht (by omega), ?_⟩⟩
          refine c10_heir68 hK ha 80 h t e (1 + c) 0 B _ (by omega) q2 hB80 (hT.fr hfr1) (by simp at hlen; omega) (by rw [up2_s, Nat.add_comm]) ?_
          intro x4
          rw [hlm, up2_2, hV2]
          dsimp only
          refine wX10_heirOf_112 hK ha (bt (by rw [hlt]) (wX10_heirOf_141 hK ha ⟨nI_v ht (by omega), nI_v hk80 (by omega), rfl, ?_⟩))
          rw [nI_c (by omega), nI_c (by omega), (t3 t ht).1, hl]
        · rw [up2_a (by omega)]; exact t1
        · rw [up2_a (by omega)]; exact t2
        · rw [up2_a (by omega)]; exact (t3 u hu).2
        · rw [up2_a (by omega)]; exact e8
        · exact fr_up (fr_mo hfr2 (fun a k q => Or.inr (Or.inr q))) (Or.inl rfl)
      · simp only [if_neg hlt]
        have hkl : k' ≠ l' := by
          rcases g5 with ⟨h, -⟩ | ⟨h, -⟩
          · exact absurd h hlt
          · intro hx
            rw [g2] at hn2
            exact (List.nodup_cons.mp hn2.2).1 (hx ▸ h)
        have hkt : k' ≠ t := fun hx => hn2.1 (by rw [g2, ← hx]; simp)
        refine ⟨up2 (up2 (up2 V2 (b + 2) l' (moI (rc k'))) (b + 3) k' (moI (some e))) (b + 2) k' (moI (some a)), wX10_heirOf_0 hK ha ⟨nI_v ht (by omega), ?_⟩, ⟨⟨hm, pb_up (pb_up b2 (fun u e => b3 k' u e)) (fun u e => by cases e; exact ha80), pb_up b3 (fun u e => by cases e; exact he80), b4⟩, ?_, ?_, fun u hu => ⟨?_, ?_⟩⟩, ?_, fun u e => by cases e; exact hk80, ?_⟩
        · rw [nI_c (by omega), f1, hl, f2, hr, h8, nI_1]
          refine bf (by rw [moI_m1 (fun u e => by cases e; omega)]; exact fun e => by cases e) ⟨nI_v ht (by omega), nt (by rw [ne_eq, moI_m1 (fun u e => by cases e; omega)]; exact fun e => by cases e) ⟨nI_v ht (by omega), ?_⟩⟩
          refine c10_heir68 hK ha 80 h t e (1 + c) 0 B _ (by omega) q2 hB80 (hT.fr hfr1) (by simp at hlen; omega) (by rw [up2_s, Nat.add_comm]) ?_
          intro x4
          rw [hlm, up2_2, hV2]
          dsimp only
          refine wX10_heirOf_112 hK ha (bf (by rw [nI_e' (by omega) (by omega)]; exact hlt) ⟨nI_v hk80 (by omega), nI_v hl80 (by omega), nI_v ht (by omega), nI_v hk80 (by omega), wX10_heirOf_141 hK ha ⟨nI_v ht (by omega), nI_v hk80 (by omega), rfl, ?_⟩⟩)
          rw [nI_c (show t < 100000 by omega), nI_c (show k' < 100000 by omega), nI_c (show l' < 100000 by omega), (t3 k' hk80).2, up2_a (show b + 3 ≠ b + 2 by omega), (t3 t ht).2, hr, up2_a (show b + 2 ≠ b + 3 by omega), up2_k (show t ≠ l' from fun hx => hlt hx.symm), (t3 t ht).1, hl]
        · rw [up2_a (by omega), up2_a (by omega), up2_a (by omega)]; exact t1
        · rw [up2_a (by omega), up2_a (by omega), up2_a (by omega)]; exact t2
        · refine up2_F (fun t ht => ?_) u hu
          rw [up2_a (by omega)]
          exact up2_F (fun t ht => (t3 t ht).1) t ht
        · rw [up2_a (by omega)]
          refine up2_F (fun t ht => ?_) u hu
          rw [up2_a (by omega)]
          exact (t3 t ht).2
        · rw [up2_a (by omega), up2_a (by omega), up2_a (by omega)]; exact e8
        · have z : fr (fun a k => a = b + 2 ∨ a = b + 3 ∨ (a = b ∧ k = 8)) V V2 := fr_mo hfr2 (fun a k q => Or.inr (Or.inr q))
          exact fr_up (fr_up (fr_up z (Or.inl rfl)) (Or.inr (Or.inl rfl))) (Or.inl rfl)
end
