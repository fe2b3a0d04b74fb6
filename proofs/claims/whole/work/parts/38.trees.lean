def hgA (lc rc : Nat → Option Nat) (root : Option Nat) (t : Nat) (ab new : Option Nat) : (Nat → Option Nat) × (Nat → Option Nat) × Option Nat := match ab with
  | none => (lc, rc, new)
  | some p => (hgl lc t p new, hgr lc rc t p new, root)
theorem tkT_hg {ke : Nat → Nat} {lc rc : Nat → Option Nat} {k t : Nat} : tkT ke lc rc k t = ((hgA (hrT lc rc t).1 (hrT lc rc t).2.1 (some k) t (dt ke lc rc t 80 none k 0).1 (hrT lc rc t).2.2.1).1, (hgA (hrT lc rc t).1 (hrT lc rc t).2.1 (some k) t (dt ke lc rc t 80 none k 0).1 (hrT lc rc t).2.2.1).2.1, (hgA (hrT lc rc t).1 (hrT lc rc t).2.1 (some k) t (dt ke lc rc t 80 none k 0).1 (hrT lc rc t).2.2.1).2.2, (dt ke lc rc t 80 none k 0).2 + 1 + (hrT lc rc t).2.2.2) := by
  unfold tkT
  generalize dt ke lc rc t 80 none k 0 = q
  obtain ⟨o, c⟩ := q
  cases o <;> rfl
theorem pb_hgl {lc : Nat → Option Nat} {t p : Nat} {new : Option Nat} (h : pbF lc) (hn : ∀ u, new = some u → u < 80) : pbF (hgl lc t p new) := by
  unfold hgl
  split
  · exact pb_up h hn
  · exact h
theorem pb_hgr {lc rc : Nat → Option Nat} {t p : Nat} {new : Option Nat} (h : pbF rc) (hn : ∀ u, new = some u → u < 80) : pbF (hgr lc rc t p new) := by
  unfold hgr
  split
  · exact h
  · exact pb_up h hn
theorem srt_side {ke : Nat → Nat} {X Y : List Nat} {k t : Nat} (hs : srt ke (X ++ k :: Y)) (ht : t ∈ X ++ k :: Y) (hk : k ≠ t) : if ah ke (ke k) (some k) t = true then t ∈ X else t ∈ Y := by
  obtain ⟨h1, h2, h3⟩ := List.pairwise_append.mp hs
  have h4 := List.pairwise_cons.mp h2
  rw [List.mem_append, List.mem_cons] at ht
  split
  · rename_i q
    rw [ah_lts] at q
    rcases ht with z | z | z
    · exact z
    · exact absurd z.symm hk
    · exact absurd q (lts_as (h4.1 t z))
  · rename_i q
    rw [ah_lts] at q
    rcases ht with z | z | z
    · exact absurd (h3 t z k (by simp)) q
    · exact absurd z.symm hk
    · exact z
theorem srt_X {ke : Nat → Nat} {X Y : List Nat} {k : Nat} (hs : srt ke (X ++ k :: Y)) : srt ke X ∧ srt ke Y := ⟨(List.pairwise_append.mp hs).1, (List.pairwise_cons.mp (List.pairwise_append.mp hs).2.1).2⟩
theorem dt_b {ke : Nat → Nat} {lc rc : Nat → Option Nat} {t N : Nat} (h1 : ∀ a u, lc a = some u → u < N) (h2 : ∀ a u, rc a = some u → u < N) : ∀ {f k c : Nat} {ab : Option Nat}, k < N → (∀ u, ab = some u → u < N) → ∀ u, (dt ke lc rc t f ab k c).1 = some u → u < N
  | 0, k, c, ab, _, ha, u, e => ha u e
  | f + 1, k, c, ab, hk, ha, u, e => by
    unfold dt at e
    split at e
    · exact ha u e
    · cases hsd : sd ke lc rc t k with
      | none =>
        rw [hsd] at e
        exact ha u e
      | some k' =>
        rw [hsd] at e
        refine dt_b h1 h2 (f := f) (k := k') ?_ ?_ u e
        · unfold sd at hsd
          split at hsd
          · exact h1 _ _ hsd
          · exact h2 _ _ hsd
        · intro u e
          cases e
          exact hk
section
variable {G : Gp} {d : Nat} {K : SK} {n : Nat × Nat} {V V' : SV} {J J' : SJV} {O O' : SO} {r : Option Value}
variable {b ky s nT m : Nat} {ke : Nat → Nat} {lc rc : Nat → Option Nat} {root : Option Nat}
theorem c10_hang (hK : StK K) (ha : IsSt K b 10 ky) (hT : TrC b m lc rc root V) {t : Nat} {ab new : Option Nat} (ht : t < 80) (hab : ∀ u, ab = some u → u < 80) (hnew : ∀ u, new = some u → u < 80) : ∃ V', Ev G d mX10_hang 0 [(0, .ref b), (1, .int (moI ab)), (2, .int (nI t)), (3, .int (moI new))] (K, n, V, J, O) none (K, n, V', J, O) ∧ TrC b m (hgA lc rc root t ab new).1 (hgA lc rc root t ab new).2.1 (hgA lc rc root t ab new).2.2 V' ∧ fr (fun a k => a = b + 2 ∨ a = b + 3 ∨ (a = b ∧ k = 12)) V V' := by
  obtain ⟨⟨hm, b2, b3, b4⟩, t1, t2, t3⟩ := hT
  cases ab with
  | none => exact ⟨up2 V b 12 (moI new), wX10_hang_0 hK ha (nf rfl ⟨rfl, rfl⟩), ⟨⟨hm, b2, b3, hnew⟩, by rw [up2_k (by decide)]; exact t1, up2_s, fun u hu => by rw [up2_a (by omega), up2_a (by omega)]; exact t3 u hu⟩, fr_up fr_rfl (Or.inr (Or.inr ⟨rfl, rfl⟩))⟩
  | some p =>
    have hp := hab p rfl
    have e1 := (t3 p hp).1
    refine ⟨if lc p = some t then up2 V (b + 2) p (moI new) else up2 V (b + 3) p (moI new), wX10_hang_0 hK ha (nt (by rw [ne_eq, moI_m1 (fun u e => by cases e; omega)]; exact fun e => by cases e) ⟨nI_v hp (by omega), ?_⟩), ⟨⟨hm, pb_hgl b2 hnew, pb_hgr b3 hnew, b4⟩, ?_, ?_, fun u hu => ⟨?_, ?_⟩⟩, ?_⟩
    · show (V (b + 2) (nI p).toNatClampNeg ≠ nI t → _) ∧ (V (b + 2) (nI p).toNatClampNeg = nI t → _)
      rw [nI_c (by omega), e1, ne_eq, moI_e (pb_m b2 p) (by omega)]
      by_cases q : lc p = some t
      · rw [if_pos q]
        exact ⟨fun h => absurd q h, fun _ => ⟨nI_v hp (by omega), rfl, by rw [show moI (some p) = nI p from rfl, nI_c (by omega)]⟩⟩
      · rw [if_neg q]
        exact ⟨fun _ => ⟨nI_v hp (by omega), rfl, by rw [show moI (some p) = nI p from rfl, nI_c (by omega)]⟩, fun h => absurd h q⟩
    · split
      · rw [up2_a (by omega)]; exact t1
      · rw [up2_a (by omega)]; exact t1
    · split
      · rw [up2_a (by omega)]; exact t2
      · rw [up2_a (by omega)]; exact t2
    · show _ = moI (hgl lc t p new u)
      unfold hgl
      split
      · exact up2_F (fun t ht => (t3 t ht).1) u hu
      · rw [up2_a (by omega)]; exact (t3 u hu).1
    · show _ = moI (hgr lc rc t p new u)
      unfold hgr
      split
      · rw [up2_a (by omega)]; exact (t3 u hu).2
      · exact up2_F (fun t ht => (t3 t ht).2) u hu
    · split
      · exact fr_up fr_rfl (Or.inl rfl)
      · exact fr_up fr_rfl (Or.inr (Or.inl rfl))
theorem c10_take7 (hK : StK K) (ha : IsSt K b 10 ky) (hb : 96 ≤ b) {t : Nat} (ht : t < nT) : ∀ (f h k c : Nat) (ab : Option Nat) (L : List Nat) (V : SV), h ≤ f → TS lc rc h (some k) L → srt ke L → t ∈ L → (∀ u, u ∈ L → u < nT) → TrC b m lc rc root V → cKe ky nT ke V → c + L.length ≤ m → V b 8 = nI c → (∃ (v2 : Int32) (V1 : SV), Ev G (d + 1) mX10_heirOf 0 [(0, .ref b), (1, .int (nI t))] (K, n, up2 V b 8 (nI ((dt ke lc rc t f ab k c).2 + 1)), J, O) (some (.int v2)) (K, n, V1, J, O) ∧ (∃ (V3 : SV), Ev G (d + 1) mX10_hang 0 [(0, .ref b), (1, .int (moI (dt ke lc rc t f ab k c).1)), (2, .int (nI t)), (3, .int v2)] (K, n, V1, J, O) none (K, n, V3, J, O) ∧ (r = none ∧ V' = up2 V3 b 13 (V3 b 13 - 1)))) → Ev G (d + 2) mX10_takeName 7 [(0, .ref b), (1, .int (nI t)), (2, .int (moI ab)), (3, .int (nI k))] (K, n, V, J, O) r (K, n, V', J, O)
  | f, 0, k, c, ab, L, V, hf, q, _, _, _, _, _, _, _ => by simp [TS] at q
  | 0, h + 1, k, c, ab, L, V, hf, q, _, _, _, _, _, _, _ => by omega
  | f + 1, h + 1, k, c, ab, L, V, hf, q, hs, htL, hL, hT, hk, hc, h8 => by
    intro hE
    have hkL := TS_mem q
    have hkn := hL k hkL
    have h80 := hk.2.1
    have hm := hT.1.1
    obtain ⟨X, Y, e, q1, q2⟩ := q
    have hlen : L.length = X.length + Y.length + 1 := by rw [e]; simp; omega
    have g1 : fr (fun a k => a = b ∧ k = 8) V (up2 V b 8 (nI (c + 1))) := fr_up fr_rfl ⟨rfl, rfl⟩
    have hk1 : ¬ nI k = -1 := by rw [moI_s, moI_m1 (fun u e => by cases e; omega)]; exact fun e => by cases e
    unfold dt at hE
    by_cases e2 : k = t
    · subst e2
      rw [if_pos rfl] at hE
      dsimp only at hE
      refine wX10_takeName_7 hK ha (bf hk1 (bt rfl (bt rfl ?_)))
      rw [h8, nI_1]
      exact hE
    · rw [if_neg e2] at hE
      refine wX10_takeName_7 hK ha (bf hk1 (bf (by rw [nI_e' (by omega) (by omega)]; exact e2) (bf ?_ ⟨moI (sd ke lc rc t k), ?_, ?_⟩)))
      · rw [h8, hT.2.1, nI_le' (by omega) (by omega)]
        omega
      · rw [h8, nI_1]
        exact c10_sideFor hK ha (cKe_8 hk hb g1) (hT.fr g1) ht hkn
      · rw [h8, nI_1]
        subst e
        have hside := srt_side hs htL e2
        obtain ⟨hsX, hsY⟩ := srt_X hs
        unfold sd at hE ⊢
        split at hside
        · rename_i qq
          simp only [if_pos qq] at hE ⊢
          cases hl : lc k with
          | none =>
            rw [hl, TS_none] at q1
            rw [q1] at hside
            simp at hside
          | some k' =>
            rw [hl] at hE q1
            refine c10_take7 hK ha hb ht f h k' (c + 1) (some k) X _ (by omega) q1 hsX hside (fun u hu => hL u (by simp [hu])) (hT.fr g1) (cKe_8 hk hb g1) (by omega) up2_s ?_
            rw [up2_2]
            exact hE
        · rename_i qq
          simp only [if_neg qq] at hE ⊢
          cases hl : rc k with
          | none =>
            rw [hl, TS_none] at q2
            rw [q2] at hside
            simp at hside
          | some k' =>
            rw [hl] at hE q2
            refine c10_take7 hK ha hb ht f h k' (c + 1) (some k) Y _ (by omega) q2 hsY hside (fun u hu => hL u (by simp [hu])) (hT.fr g1) (cKe_8 hk hb g1) (by omega) up2_s ?_
            rw [up2_2]
            exact hE
theorem c10_takeName (hK : StK K) (ha : IsSt K b 10 ky) (hb : 96 ≤ b) (hk : cKe ky nT ke V) {k t : Nat} {A B : List Nat} (hT : TrC b m lc rc (some k) V) (hS : TS lc rc 80 (some k) (A ++ t :: B)) (hs : srt ke (A ++ t :: B)) (hL : ∀ u, u ∈ A ++ t :: B → u < nT) (hm : (A ++ t :: B).length = m) (h8 : V b 8 = nI 0) : ∃ V', Ev G (d + 2) mX10_takeName 0 [(0, .ref b), (1, .int (nI t))] (K, n, V, J, O) none (K, n, V', J, O) ∧ TrC b (m - 1) (tkT ke lc rc k t).1 (tkT ke lc rc k t).2.1 (tkT ke lc rc k t).2.2.1 V' ∧ V' b 8 = nI (tkT ke lc rc k t).2.2.2 ∧ fr (fun a k => a = b + 2 ∨ a = b + 3 ∨ (a = b ∧ (k = 8 ∨ k = 12 ∨ k = 13))) V V' := by
  have h80 := hk.2.1
  have hm80 := hT.1.1
  have htn := hL t (by simp)
  obtain ⟨h, A2, B2, x1, x2, x3, x4, x5, x6⟩ := at_t hS hs
  rw [tkT_hg]
  generalize hdt : dt ke lc rc t 80 none k 0 = q
  have hq : ∀ u, q.1 = some u → u < 80 := by
    rw [← hdt]
    exact dt_b hT.1.2.1 hT.1.2.2.1 (hT.1.2.2.2 k rfl) (fun u e => by cases e)
  obtain ⟨o, c⟩ := q
  dsimp only at hq ⊢
  have g1 : fr (fun a k => a = b ∧ k = 8) V (up2 V b 8 (nI (c + 1))) := fr_up fr_rfl ⟨rfl, rfl⟩
  obtain ⟨V1, y1, y2, y3, y4, y5⟩ := c10_heirOf (G := G) (d := d + 1) (n := n) (J := J) (O := O) (c := c + 1) hK ha (hT.fr g1) x2 x3 x1 (fun u hu => by have := hL u (x5 u hu); omega) (by omega) x4 up2_s
  obtain ⟨V3, z1, z2, z3⟩ := c10_hang (G := G) (d := d + 1) (n := n) (J := J) (O := O) (t := t) (ab := o) hK ha y2 (by omega) hq y4
  have hm1 : 1 ≤ m := by
    rw [← hm]
    simp
    omega
  have f3 : V3 b 13 = nI m := z2.2.1
  refine ⟨up2 V3 b 13 (nI (m - 1)), wX10_takeName_0 hK ha ?_, ⟨⟨by omega, z2.1.2⟩, up2_s, ?_, fun u hu => ?_⟩, ?_, ?_⟩
  · rw [hT.2.2.1]
    refine c10_take7 hK ha hb htn 80 80 k 0 none _ V (by omega) hS hs (by simp) hL hT hk (by omega) h8 ?_
    rw [hdt]
    refine ⟨_, V1, y1, V3, z1, rfl, ?_⟩
    rw [f3, show nI m - 1 = nI (m - 1) from nI_s hm1]
  · rw [up2_k (by decide)]
    exact z2.2.2.1
  · rw [up2_a (by omega), up2_a (by omega)]
    exact z2.2.2.2 u hu
  · rw [up2_k (by decide), z3 b 8 (by omega), y3]
  · refine fr_up ?_ (Or.inr (Or.inr ⟨rfl, by omega⟩))
    exact fr_mo (fr_tr (fr_tr g1 y5) z3) (fun a k q => by omega)
end
