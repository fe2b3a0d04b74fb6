theorem dt_c {ke : Nat → Nat} {lc rc : Nat → Option Nat} {t j : Nat} : ∀ {f k c : Nat} {ab : Option Nat}, dt ke lc rc t f ab k (c + j) = ((dt ke lc rc t f ab k c).1, (dt ke lc rc t f ab k c).2 + j)
  | 0, _, _, _ => rfl
  | f + 1, k, c, ab => by
    unfold dt
    split
    · rfl
    · cases sd ke lc rc t k with
      | none => rfl
      | some k' =>
        dsimp only
        rw [show c + j + 1 = c + 1 + j by omega]
        exact dt_c
theorem moI_0 {o : Option Nat} (h : ∀ k, o = some k → k ≤ 9999) : (0 ≤ moI o) = (o ≠ none) := by
  cases o with
  | none => simp [moI]
  | some k =>
    have := h k rfl
    simp only [ne_eq, reduceCtorEq, not_false_eq_true, eq_iff_iff, iff_true]
    exact nI_pos' (by omega)
section
variable {G : Gp} {d : Nat} {K : SK} {n : Nat × Nat} {V V' : SV} {J J' : SJV} {O O' : SO} {r : Option Value}
variable {b ky s nT m : Nat} {ke : Nat → Nat} {lc rc : Nat → Option Nat} {root : Option Nat}
theorem c12_hang (hK : StK K) (hs : s < 10) (hT : TrM s m lc rc root V) {t : Nat} {ab new : Option Nat} (ht : t < 80) (hab : ∀ u, ab = some u → u < 80) (hnew : ∀ u, new = some u → u < 80) : ∃ V', Ev G d mX12_hang 0 [(0, .ref 57), (1, .int (nI s)), (2, .int (moI ab)), (3, .int (nI t)), (4, .int (moI new))] (K, n, V, J, O) none (K, n, V', J, O) ∧ TrM s m (hgA lc rc root t ab new).1 (hgA lc rc root t ab new).2.1 (hgA lc rc root t ab new).2.2 V' ∧ V' 57 32 = V 57 32 ∧ fr (frT s) V V' := by
  obtain ⟨⟨hm, b2, b3, b4⟩, t1, t2, t3⟩ := hT
  cases ab with
  | none =>
    refine ⟨up2 V 76 s (moI new), wX12_hang_0 hK (bf (by decide) ⟨nI_v hs (by omega), rfl, by rw [nI_c (by omega)]⟩), ⟨⟨hm, b2, b3, hnew⟩, by rw [up2_a (by decide)]; exact t1, up2_s, fun u hu => by rw [up2_a (by omega), up2_a (by omega)]; exact t3 u hu⟩, by rw [up2_a (by decide)], fr_up fr_rfl (Or.inr (Or.inl ⟨by omega, rfl⟩))⟩
  | some p =>
    have hp := hab p rfl
    have e1 := (t3 p hp).1
    refine ⟨if lc p = some t then up2 V 74 (80 * s + p) (moI new) else up2 V 75 (80 * s + p) (moI new), wX12_hang_0 hK (bt (nI_pos' (by omega)) ?_), ⟨⟨hm, pb_hgl b2 hnew, pb_hgr b3 hnew, b4⟩, ?_, ?_, fun u hu => ⟨?_, ?_⟩⟩, ?_, ?_⟩
    · rw [show moI (some p) = nI p from rfl, ix80, nI_c (show 80 * s + p < 100000 by omega), e1, ne_eq, moI_e (pb_m b2 p) (by omega)]
      refine ⟨nI_v (by omega) (by omega), ?_⟩
      by_cases q : lc p = some t
      · rw [if_pos q]
        exact ⟨fun h => absurd q h, fun _ => ⟨nI_v (by omega) (by omega), rfl, rfl⟩⟩
      · rw [if_neg q]
        exact ⟨fun _ => ⟨nI_v (by omega) (by omega), rfl, rfl⟩, fun h => absurd h q⟩
    · split
      · rw [up2_a (by omega)]; exact t1
      · rw [up2_a (by omega)]; exact t1
    · split
      · rw [up2_a (by omega)]; exact t2
      · rw [up2_a (by omega)]; exact t2
    · show _ = moI (hgl lc t p new u)
      unfold hgl
      split
      · exact up2_M (fun t ht => (t3 t ht).1) u hu
      · rw [up2_a (by omega)]; exact (t3 u hu).1
    · show _ = moI (hgr lc rc t p new u)
      unfold hgr
      split
      · rw [up2_a (by omega)]; exact (t3 u hu).2
      · exact up2_M (fun t ht => (t3 t ht).2) u hu
    · split
      · rw [up2_a (by omega)]
      · rw [up2_a (by omega)]
    · split
      · exact fr_up fr_rfl (Or.inl ⟨by omega, by omega, by omega⟩)
      · exact fr_up fr_rfl (Or.inl ⟨by omega, by omega, by omega⟩)
theorem c12_take165 (hK : StK K) (hs : s < 10) {x2 x3 x4 x5 x6 : Int32} : ∀ (f h l k c : Nat) (B : List Nat) (V : SV), h ≤ f → TS lc rc h (some k) B → (∀ u, u ∈ B → u < 80) → TrM s m lc rc root V → V 57 32 = nI c → Ev G (d + 1) mX12_takeFromTree 165 [(0, .ref 57), (1, .int (nI s)), (2, .int x2), (3, .int x3), (4, .int x4), (5, .int x5), (6, .int x6), (7, .int (nI (lm lc f l k c).1)), (8, .int (nI (lm lc f l k c).2.1))] (K, n, up2 V 57 32 (nI (lm lc f l k c).2.2), J, O) r (K, n, V', J, O) → Ev G (d + 1) mX12_takeFromTree 165 [(0, .ref 57), (1, .int (nI s)), (2, .int x2), (3, .int x3), (4, .int x4), (5, .int x5), (6, .int x6), (7, .int (nI l)), (8, .int (nI k))] (K, n, V, J, O) r (K, n, V', J, O)
  | f, 0, l, k, c, B, V, hf, q, _, _, _ => by simp [TS] at q
  | 0, h + 1, l, k, c, B, V, hf, q, _, _, _ => by omega
  | f + 1, h + 1, l, k, c, B, V, hf, q, hB, hT, h8 => by
    intro hE
    have hk80 := hB k (TS_mem q)
    obtain ⟨X, Y, e, q1, q2⟩ := q
    obtain ⟨f1, f2⟩ := hT.2.2.2 k hk80
    have g1 : fr (fun a k => a = 57 ∧ k = 32) V (up2 V 57 32 (nI (c + 1))) := fr_up fr_rfl ⟨rfl, rfl⟩
    unfold lm at hE
    cases hl : lc k with
    | none =>
      rw [hl] at hE
      dsimp only at hE
      rw [← h8, up2_self] at hE
      exact hE
    | some k' =>
      rw [hl] at hE q1
      have hv : vp_in (80 * nI s + nI k) 800 := by
        rw [ix80]
        exact nI_v (by omega) (by omega)
      refine wX12_takeFromTree_165 hK ⟨hv, ?_⟩
      rw [ix80, nI_c (show 80 * s + k < 100000 by omega), f1, h8, nI_1, moI_neg (pb_m hT.1.2.1 k)]
      refine bf (by rw [hl]; exact fun e => by cases e) ⟨nI_v (by omega) (by omega), ?_⟩
      rw [hl]
      refine c12_take165 hK hs f h k k' (c + 1) X _ (by omega) q1 (fun u hu => hB u (by rw [e]; simp [hu])) (hT.fr g1) up2_s ?_
      rw [up2_2]
      exact hE
theorem c12_take20 (hK : StK K) {t : Nat} (ht : t < nT) : ∀ (f h k c : Nat) (ab : Option Nat) (L : List Nat) (V : SV), h ≤ f → TS lc rc h (some k) L → srt ke L → t ∈ L → (∀ u, u ∈ L → u < nT) → TrM s m lc rc root V → mKe s ky nT ke V → V 57 32 = nI c → Ev G (d + 3) mX12_takeFromTree 20 [(0, .ref 57), (1, .int (nI s)), (2, .int (nI t)), (3, .int (moI (dt ke lc rc t f ab k c).1)), (4, .int (nI t))] (K, n, up2 V 57 32 (nI (dt ke lc rc t f ab k c).2), J, O) r (K, n, V', J, O) → Ev G (d + 3) mX12_takeFromTree 20 [(0, .ref 57), (1, .int (nI s)), (2, .int (nI t)), (3, .int (moI ab)), (4, .int (nI k))] (K, n, V, J, O) r (K, n, V', J, O)
  | f, 0, k, c, ab, L, V, hf, q, _, _, _, _, _, _ => by simp [TS] at q
  | 0, h + 1, k, c, ab, L, V, hf, q, _, _, _, _, _, _ => by omega
  | f + 1, h + 1, k, c, ab, L, V, hf, q, hsL, htL, hL, hT, hk, h8 => by
    intro hE
    have hkL := TS_mem q
    have hkn := hL k hkL
    have h80 := hk.2.2.1
    have hs := hk.1
    obtain ⟨X, Y, e, q1, q2⟩ := q
    obtain ⟨f1, f2⟩ := hT.2.2.2 k (by omega)
    have g1 : fr (fun a k => a = 57 ∧ k = 32) V (up2 V 57 32 (nI (c + 1))) := fr_up fr_rfl ⟨rfl, rfl⟩
    have hk1 : mKe s ky nT ke (up2 V 57 32 (nI (c + 1))) := mKe_o hk (fr_mo g1 (fun a k q => by omega))
    unfold dt at hE
    by_cases e2 : k = t
    · subst e2
      rw [if_pos rfl] at hE
      dsimp only at hE
      rw [← h8, up2_self] at hE
      exact hE
    · rw [if_neg e2] at hE
      refine wX12_takeFromTree_20 hK (bf (by rw [nI_e' (by omega) (by omega)]; exact e2) ⟨bI (ah ke (ke k) (some k) t = true), c12_isLess hK hk ht hkn, ?_⟩)
      rw [ix80, nI_c (show 80 * s + k < 100000 by omega), f1, f2, h8, nI_1]
      subst e
      have hside := srt_side hsL htL e2
      obtain ⟨hsX, hsY⟩ := srt_X hsL
      unfold sd at hE
      split at hside
      · rename_i qq
        rw [if_pos qq] at hE
        rw [bI_t qq]
        refine bf one0 ⟨nI_v (by omega) (by omega), ?_⟩
        cases hl : lc k with
        | none =>
          rw [hl, TS_none] at q1
          rw [q1] at hside
          simp at hside
        | some k' =>
          rw [hl] at hE q1
          refine c12_take20 hK ht f h k' (c + 1) (some k) X _ (by omega) q1 hsX hside (fun u hu => hL u (by simp [hu])) (hT.fr g1) hk1 up2_s ?_
          rw [up2_2]
          exact hE
      · rename_i qq
        rw [if_neg qq] at hE
        rw [bI_f qq]
        refine bt rfl ⟨nI_v (by omega) (by omega), ?_⟩
        cases hl : rc k with
        | none =>
          rw [hl, TS_none] at q2
          rw [q2] at hside
          simp at hside
        | some k' =>
          rw [hl] at hE q2
          refine c12_take20 hK ht f h k' (c + 1) (some k) Y _ (by omega) q2 hsY hside (fun u hu => hL u (by simp [hu])) (hT.fr g1) hk1 up2_s ?_
          rw [up2_2]
          exact hE
theorem c12_takeFromTree (hK : StK K) (hk : mKe s ky nT ke V) {k t : Nat} {A B : List Nat} (hT : TrM s m lc rc (some k) V) (hS : TS lc rc 80 (some k) (A ++ t :: B)) (hsr : srt ke (A ++ t :: B)) (hL : ∀ u, u ∈ A ++ t :: B → u < nT) (hm : (A ++ t :: B).length = m) (h8 : V 57 32 = nI 0) : ∃ V', Ev G (d + 3) mX12_takeFromTree 0 [(0, .ref 57), (1, .int (nI s)), (2, .int (nI t))] (K, n, V, J, O) none (K, n, V', J, O) ∧ TrM s (m - 1) (tkT ke lc rc k t).1 (tkT ke lc rc k t).2.1 (tkT ke lc rc k t).2.2.1 V' ∧ V' 57 32 = nI (tkT ke lc rc k t).2.2.2 ∧ fr (frT s) V V' := by
  have h80 := hk.2.2.1
  have hs := hk.1
  have hm80 := hT.1.1
  have htn := hL t (by simp)
  have hm1 : 1 ≤ m := by
    rw [← hm]
    simp
    omega
  obtain ⟨h, A2, B2, x1, x2, x3, x4, x5, x6⟩ := at_t hS hsr
  rw [tkT_hg]
  have hq : ∀ u, (dt ke lc rc t 80 none k 0).1 = some u → u < 80 := dt_b hT.1.2.1 hT.1.2.2.1 (hT.1.2.2.2 k rfl) (fun u e => by cases e)
  have hdt1 : dt ke lc rc t 80 none k (0 + 1) = ((dt ke lc rc t 80 none k 0).1, (dt ke lc rc t 80 none k 0).2 + 1) := dt_c
  generalize dt ke lc rc t 80 none k 0 = q at hq hdt1 ⊢
  obtain ⟨o, c⟩ := q
  dsimp only at hq hdt1 ⊢
  -- the state where t is found
  have g0 : fr (fun a k => a = 57 ∧ k = 32) V (up2 V 57 32 (nI 1)) := fr_up fr_rfl ⟨rfl, rfl⟩
  have gR : ∀ {V'}, Ev G (d + 3) mX12_takeFromTree 20 [(0, .ref 57), (1, .int (nI s)), (2, .int (nI t)), (3, .int (moI o)), (4, .int (nI t))] (K, n, up2 V 57 32 (nI (c + 1)), J, O) none (K, n, V', J, O) → Ev G (d + 3) mX12_takeFromTree 0 [(0, .ref 57), (1, .int (nI s)), (2, .int (nI t))] (K, n, V, J, O) none (K, n, V', J, O) := by
    intro V' hE
    refine wX12_takeFromTree_0 hK ⟨nI_v hs (by omega), ?_⟩
    rw [nI_c (show s < 100000 by omega), hT.2.2.1, h8, nI_1]
    refine c12_take20 (ky := ky) (root := some k) (m := m) hK htn 80 80 k (0 + 1) none (A ++ t :: B) (up2 V 57 32 (nI (0 + 1))) (by omega) hS hsr (by simp) hL (hT.fr g0) (mKe_o hk (fr_mo g0 (fun a k q => by omega))) up2_s ?_
    rw [hdt1, up2_2]
    exact hE
  have g1 : fr (frT s) V (up2 (up2 V 57 32 (nI (c + 1))) 73 s (nI (m - 1))) := fr_up (fr_up fr_rfl (Or.inr (Or.inr ⟨rfl, rfl⟩))) (Or.inr (Or.inl ⟨by omega, rfl⟩))
  have hT1 : TrM s (m - 1) lc rc (some k) (up2 (up2 V 57 32 (nI (c + 1))) 73 s (nI (m - 1))) := ⟨⟨by omega, hT.1.2⟩, up2_s, by rw [up2_a (by omega), up2_a (by omega)]; exact hT.2.2.1, fun u hu => by rw [up2_a (by omega), up2_a (by omega), up2_a (by omega), up2_a (by omega)]; exact hT.2.2.2 u hu⟩
  have e32 : up2 (up2 V 57 32 (nI (c + 1))) 73 s (nI (m - 1)) 57 32 = nI (c + 1) := by rw [up2_a (by omega), up2_s]
  have em : up2 V 57 32 (nI (c + 1)) 73 s - 1 = nI (m - 1) := by
    rw [up2_a (by omega), hT.2.1]
    exact nI_s hm1
  obtain ⟨f1, f2⟩ := hT.2.2.2 t (by omega)
  have f1' : up2 V 57 32 (nI (c + 1)) 74 (80 * s + t) = moI (lc t) := by rw [up2_a (by omega)]; exact f1
  have f2' : up2 V 57 32 (nI (c + 1)) 75 (80 * s + t) = moI (rc t) := by rw [up2_a (by omega)]; exact f2
  have f1n : up2 (up2 V 57 32 (nI (c + 1))) 73 s (nI (m - 1)) 74 (80 * s + t) = moI (lc t) := by rw [up2_a (by omega)]; exact f1'
  have f2n : up2 (up2 V 57 32 (nI (c + 1))) 73 s (nI (m - 1)) 75 (80 * s + t) = moI (rc t) := by rw [up2_a (by omega)]; exact f2'
  have b2 := hT.1.2.1
  have b3 := hT.1.2.2.1
  have hB80 : ∀ u, u ∈ B2 → u < 80 := fun u hu => by have := hL u (x5 u (by simp [hu])); omega
  have hn1 := List.nodup_append.mp x4
  have hn2 := List.nodup_cons.mp hn1.2.1
  have ht80 : t < 80 := by omega
  have hix : 80 * s + t < 800 := by omega
  generalize hV1 : up2 (up2 V 57 32 (nI (c + 1))) 73 s (nI (m - 1)) = V1 at g1 hT1 e32 f1n f2n
  have hstep : ∀ {V'}, ((moI (lc t) < 0 → Ev G (d + 3) mX12_takeFromTree 128 [(0, .ref 57), (1, .int (nI s)), (2, .int (nI t)), (3, .int (moI o)), (4, .int (nI t)), (5, .int (moI (lc t))), (6, .int (moI (rc t)))] (K, n, V1, J, O) none (K, n, V', J, O)) ∧ (¬ moI (lc t) < 0 → ((0 ≤ moI (rc t) → Ev G (d + 3) mX12_takeFromTree 165 [(0, .ref 57), (1, .int (nI s)), (2, .int (nI t)), (3, .int (moI o)), (4, .int (nI t)), (5, .int (moI (lc t))), (6, .int (moI (rc t))), (7, .int (nI t)), (8, .int (moI (rc t)))] (K, n, up2 V1 57 32 (V1 57 32 + 1), J, O) none (K, n, V', J, O)) ∧ (¬ 0 ≤ moI (rc t) → Ev G (d + 3) mX12_takeFromTree 128 [(0, .ref 57), (1, .int (nI s)), (2, .int (nI t)), (3, .int (moI o)), (4, .int (nI t)), (5, .int (moI (lc t))), (6, .int (moI (rc t)))] (K, n, V1, J, O) none (K, n, V', J, O))))) → Ev G (d + 3) mX12_takeFromTree 20 [(0, .ref 57), (1, .int (nI s)), (2, .int (nI t)), (3, .int (moI o)), (4, .int (nI t))] (K, n, up2 V 57 32 (nI (c + 1)), J, O) none (K, n, V', J, O) := by
    intro V' hE
    refine wX12_takeFromTree_20 hK (bt rfl ⟨nI_v hs (by omega), nI_v hs (by omega), by rw [ix80]; exact nI_v hix (by omega), by rw [ix80]; exact nI_v hix (by omega), ?_⟩)
    rw [ix80, nI_c (show 80 * s + t < 100000 by omega), nI_c (show s < 100000 by omega), em]
    rw [← hV1, up2_a (show 57 ≠ 73 by decide)] at hE
    rw [f1', f2']
    exact hE
  unfold hrT
  cases hl : lc t with
  | none =>
    dsimp only
    obtain ⟨V3, z1, z2, z3, z4⟩ := c12_hang (G := G) (d := d + 2) (n := n) (J := J) (O := O) (t := t) (ab := o) (new := rc t) hK hs hT1 ht80 hq (fun u e => b3 t u e)
    refine ⟨V3, gR (hstep (bt (by rw [hl]; decide) (wX12_takeFromTree_128 hK ?_))), z2, ?_, ?_⟩
    · rw [hl]
      exact bf (by decide) ⟨V3, z1, rfl, rfl⟩
    · rw [z3, e32]
    · exact fr_mo (fr_tr g1 z4) (fun a k q => q.elim id id)
  | some a =>
    have ha80 := b2 t a hl
    have hnn : ¬ moI (lc t) < 0 := by
      rw [hl]
      exact nI_pos (by omega)
    have hpp : 0 ≤ moI (lc t) := by
      rw [hl]
      exact nI_pos' (by omega)
    cases hr : rc t with
    | none =>
      dsimp only
      obtain ⟨V3, z1, z2, z3, z4⟩ := c12_hang (G := G) (d := d + 2) (n := n) (J := J) (O := O) (t := t) (ab := o) (new := some a) hK hs hT1 ht80 hq (fun u e => by cases e; exact ha80)
      refine ⟨V3, gR (hstep (bf hnn (bf (by rw [hr]; decide) (wX12_takeFromTree_128 hK (bt hpp ⟨V3, ?_, rfl, rfl⟩))))), z2, ?_, ?_⟩
      · rw [hl]
        exact z1
      · rw [z3, e32]
      · exact fr_mo (fr_tr g1 z4) (fun a k q => q.elim id id)
    | some e =>
      have he80 := b3 t e hr
      rw [hr] at x3
      obtain ⟨l', k', c', B', g1', g2, g3, g4, g5⟩ := lm_pure (l := t) (c := 1) (f := 80) (by omega) x3 hn2.2
      have hk80 : k' < 80 := hB80 k' (by rw [g2]; simp)
      have hl80 : l' < 80 := by
        rcases g5 with ⟨rfl, -⟩ | ⟨h, -⟩
        · exact ht80
        · exact hB80 l' (by rw [g2]; simp [h])
      have hlm : lm lc 80 t e (1 + (c + 1)) = (l', k', c' + (c + 1)) := by rw [lm_c, g1']
      dsimp only
      rw [g1']
      dsimp only
      have gA : fr (fun a k => a = 57 ∧ k = 32) V1 (up2 V1 57 32 (nI (1 + (c + 1)))) := fr_up fr_rfl ⟨rfl, rfl⟩
      have gB : fr (fun a k => a = 57 ∧ k = 32) V1 (up2 V1 57 32 (nI (c' + (c + 1)))) := fr_up fr_rfl ⟨rfl, rfl⟩
      have hT2 := hT1.fr gB
      have hgo : ∀ {V'}, Ev G (d + 3) mX12_takeFromTree 165 [(0, .ref 57), (1, .int (nI s)), (2, .int (nI t)), (3, .int (moI o)), (4, .int (nI t)), (5, .int (nI a)), (6, .int (nI e)), (7, .int (nI l')), (8, .int (nI k'))] (K, n, up2 V1 57 32 (nI (c' + (c + 1))), J, O) none (K, n, V', J, O) → Ev G (d + 3) mX12_takeFromTree 0 [(0, .ref 57), (1, .int (nI s)), (2, .int (nI t))] (K, n, V, J, O) none (K, n, V', J, O) := by
        intro V' hE
        refine gR (hstep (bf hnn (bt (by rw [hr]; exact nI_pos' (by omega)) ?_)))
        rw [hl, hr, e32, nI_1, show c + 1 + 1 = 1 + (c + 1) by omega]
        refine c12_take165 hK hs 80 h t e (1 + (c + 1)) B2 _ (by omega) x3 hB80 (hT1.fr gA) up2_s ?_
        rw [hlm, up2_2]
        exact hE
      have e32' : up2 V1 57 32 (nI (c' + (c + 1))) 57 32 = nI (c + 1 + c') := by rw [up2_s, Nat.add_comm]
      generalize up2 V1 57 32 (nI (c' + (c + 1))) = V2 at gB hT2 hgo e32'
      obtain ⟨⟨hm', -, -, b4⟩, t1, t2, t3⟩ := hT2
      have gB' : fr (frT s) V1 V2 := fr_mo gB (fun a k q => Or.inr (Or.inr q))
      have hl74 : V2 74 (80 * s + k') = moI none := by rw [(t3 k' hk80).1, g3]
      by_cases hlt : l' = t
      · simp only [if_pos hlt]
        have hT3 : TrM s (m - 1) (upF lc k' (some a)) rc (some k) (up2 V2 74 (80 * s + k') (nI a)) := ⟨⟨hm', pb_up b2 (fun u e => by cases e; exact ha80), b3, b4⟩, by rw [up2_a (by omega)]; exact t1, by rw [up2_a (by omega)]; exact t2, fun u hu => ⟨up2_M (x := some a) (fun t ht => (t3 t ht).1) u hu, by rw [up2_a (by omega)]; exact (t3 u hu).2⟩⟩
        have gC : fr (frT s) V2 (up2 V2 74 (80 * s + k') (nI a)) := fr_up fr_rfl (Or.inl ⟨by omega, by omega, by omega⟩)
        obtain ⟨V3, z1, z2, z3, z4⟩ := c12_hang (G := G) (d := d + 2) (n := n) (J := J) (O := O) (t := t) (ab := o) (new := some k') hK hs hT3 ht80 hq (fun u e => by cases e; exact hk80)
        refine ⟨V3, hgo (wX12_takeFromTree_165 hK ⟨by rw [ix80]; exact nI_v (by omega) (by omega), ?_⟩), z2, ?_, ?_⟩
        · rw [ix80, nI_c (show 80 * s + k' < 100000 by omega), hl74]
          refine bt (by decide) (bt (by rw [hlt]) (wX12_takeFromTree_255 hK ⟨by rw [ix80]; exact nI_v (by omega) (by omega), V3, ?_, rfl, rfl⟩))
          rw [ix80, nI_c (show 80 * s + k' < 100000 by omega)]
          exact z1
        · rw [z3, up2_a (by omega)]; exact e32'
        · exact fr_mo (fr_tr (fr_tr (fr_tr g1 gB') gC) z4) (fun a k q => by rcases q with ((q | q) | q) | q <;> exact q)
      · simp only [if_neg hlt]
        have hT3 : TrM s (m - 1) (upF (upF lc l' (rc k')) k' (some a)) (upF rc k' (some e)) (some k) (up2 (up2 (up2 V2 74 (80 * s + l') (moI (rc k'))) 75 (80 * s + k') (nI e)) 74 (80 * s + k') (nI a)) := by
          refine ⟨⟨hm', pb_up (pb_up b2 (fun u e => b3 k' u e)) (fun u e => by cases e; exact ha80), pb_up b3 (fun u e => by cases e; exact he80), b4⟩, ?_, ?_, fun u hu => ⟨?_, ?_⟩⟩
          · rw [up2_a (by omega), up2_a (by omega), up2_a (by omega)]; exact t1
          · rw [up2_a (by omega), up2_a (by omega), up2_a (by omega)]; exact t2
          · refine up2_M (x := some a) (fun t ht => ?_) u hu
            rw [up2_a (by omega)]
            exact up2_M (fun t ht => (t3 t ht).1) t ht
          · rw [up2_a (by omega)]
            refine up2_M (x := some e) (fun t ht => ?_) u hu
            rw [up2_a (by omega)]
            exact (t3 t ht).2
        have gC : fr (frT s) V2 (up2 (up2 (up2 V2 74 (80 * s + l') (moI (rc k'))) 75 (80 * s + k') (nI e)) 74 (80 * s + k') (nI a)) := fr_up (fr_up (fr_up fr_rfl (Or.inl ⟨by omega, by omega, by omega⟩)) (Or.inl ⟨by omega, by omega, by omega⟩)) (Or.inl ⟨by omega, by omega, by omega⟩)
        obtain ⟨V3, z1, z2, z3, z4⟩ := c12_hang (G := G) (d := d + 2) (n := n) (J := J) (O := O) (t := t) (ab := o) (new := some k') hK hs hT3 ht80 hq (fun u e => by cases e; exact hk80)
        refine ⟨V3, hgo (wX12_takeFromTree_165 hK ⟨by rw [ix80]; exact nI_v (by omega) (by omega), ?_⟩), z2, ?_, ?_⟩
        · rw [ix80, ix80, nI_c (show 80 * s + k' < 100000 by omega), nI_c (show 80 * s + l' < 100000 by omega), hl74]
          refine bt (by decide) (bf (by rw [nI_e' (by omega) (by omega)]; exact hlt) ⟨nI_v (by omega) (by omega), nI_v (by omega) (by omega), nI_v (by omega) (by omega), wX12_takeFromTree_255 hK ⟨by rw [ix80]; exact nI_v (by omega) (by omega), V3, ?_, rfl, rfl⟩⟩)
          rw [ix80, nI_c (show 80 * s + k' < 100000 by omega), (t3 k' hk80).2]
          exact z1
        · rw [z3, up2_a (by omega), up2_a (by omega), up2_a (by omega)]; exact e32'
        · exact fr_mo (fr_tr (fr_tr (fr_tr g1 gB') gC) z4) (fun a k q => by rcases q with ((q | q) | q) | q <;> exact q)
end
