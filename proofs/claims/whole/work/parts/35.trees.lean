/-! ===== trees: what both programs do ===== -/
def pbF (f : Nat → Option Nat) : Prop := ∀ t u, f t = some u → u < 80
def TrC (b m : Nat) (lc rc : Nat → Option Nat) (root : Option Nat) (V : SV) : Prop := (m ≤ 80 ∧ pbF lc ∧ pbF rc ∧ ∀ u, root = some u → u < 80) ∧ V b 13 = nI m ∧ V b 12 = moI root ∧ ∀ t, t < 80 → V (b + 2) t = moI (lc t) ∧ V (b + 3) t = moI (rc t)
def TrM (s m : Nat) (lc rc : Nat → Option Nat) (root : Option Nat) (V : SV) : Prop := (m ≤ 80 ∧ pbF lc ∧ pbF rc ∧ ∀ u, root = some u → u < 80) ∧ V 73 s = nI m ∧ V 76 s = moI root ∧ ∀ t, t < 80 → V 74 (80 * s + t) = moI (lc t) ∧ V 75 (80 * s + t) = moI (rc t)
theorem pb_up {f : Nat → Option Nat} {a : Nat} {x : Option Nat} (h : pbF f) (hx : ∀ u, x = some u → u < 80) : pbF (upF f a x) := fun t u e => by
  unfold upF at e
  split at e
  · exact hx u e
  · exact h t u e
theorem pb_pl {ke : Nat → Nat} {f : Nat → Option Nat} {t p : Nat} (h : pbF f) (ht : t < 80) : pbF (pl ke f t p) := by
  have h1 : pbF (upF f t none) := pb_up h (fun u e => by cases e)
  unfold pl
  split
  · exact pb_up h1 (fun u e => by cases e; exact ht)
  · exact h1
theorem pb_pr {ke : Nat → Nat} {f : Nat → Option Nat} {t p : Nat} (h : pbF f) (ht : t < 80) : pbF (pr ke f t p) := by
  have h1 : pbF (upF f t none) := pb_up h (fun u e => by cases e)
  unfold pr
  split
  · exact h1
  · exact pb_up h1 (fun u e => by cases e; exact ht)
theorem up2_F {V : SV} {a : Nat} {f : Nat → Option Nat} {i : Nat} {x : Option Nat} (h : ∀ t, t < 80 → V a t = moI (f t)) : ∀ t, t < 80 → up2 V a i (moI x) a t = moI (upF f i x t) := fun t ht => by
  by_cases e : t = i
  · subst e
    rw [up2_s, upF_s]
  · rw [up2_k e, upF_n e]
    exact h t ht
theorem up2_M {V : SV} {a s : Nat} {f : Nat → Option Nat} {i : Nat} {x : Option Nat} (h : ∀ t, t < 80 → V a (80 * s + t) = moI (f t)) : ∀ t, t < 80 → up2 V a (80 * s + i) (moI x) a (80 * s + t) = moI (upF f i x t) := fun t ht => by
  by_cases e : t = i
  · subst e
    rw [up2_s, upF_s]
  · rw [up2_k (show 80 * s + t ≠ 80 * s + i by omega), upF_n e]
    exact h t ht
theorem moI_s {t : Nat} : nI t = moI (some t) := rfl
theorem moI_n : (-1 : Int32) = moI none := rfl
theorem pb_m {f : Nat → Option Nat} (h : pbF f) (t : Nat) : ∀ k, f t = some k → k ≤ 9999 := fun k e => by
  have := h t k e
  omega
section
variable {G : Gp} {d : Nat} {K : SK} {n : Nat × Nat} {V V' : SV} {J J' : SJV} {O O' : SO} {r : Option Value}
variable {b ky s nT m : Nat} {ke : Nat → Nat} {lc rc : Nat → Option Nat} {root : Option Nat}
theorem TrC.fr (h : TrC b m lc rc root V) (hf : fr (fun a k => a = b ∧ k = 8) V V') : TrC b m lc rc root V' := ⟨h.1, by rw [hf b 13 (by omega)]; exact h.2.1, by rw [hf b 12 (by omega)]; exact h.2.2.1, fun t ht => by rw [hf (b + 2) t (by omega), hf (b + 3) t (by omega)]; exact h.2.2.2 t ht⟩
theorem TrM.fr (h : TrM s m lc rc root V) (hf : fr (fun a k => a = 57 ∧ k = 32) V V') : TrM s m lc rc root V' := ⟨h.1, by rw [hf 73 s (by omega)]; exact h.2.1, by rw [hf 76 s (by omega)]; exact h.2.2.1, fun t ht => by rw [hf 74 _ (by omega), hf 75 _ (by omega)]; exact h.2.2.2 t ht⟩
theorem cKe_8 (hk : cKe ky nT ke V) (hb : 96 ≤ b) (hf : fr (fun a k => a = b ∧ k = 8) V V') : cKe ky nT ke V' := hk.fr hb (fr_mo hf (fun a k q => by omega))
theorem c10_sideFor (hK : StK K) (ha : IsSt K b 10 ky) (hk : cKe ky nT ke V) (hT : TrC b m lc rc root V) {t k : Nat} (ht : t < nT) (hk2 : k < nT) : Ev G (d + 1) mX10_sideFor 0 [(0, .ref b), (1, .int (nI t)), (2, .int (nI k))] (K, n, V, J, O) (some (.int (moI (sd ke lc rc t k)))) (K, n, V, J, O) := by
  have h80 := hk.2.1
  obtain ⟨e1, e2⟩ := hk.2.2 k hk2
  obtain ⟨f1, f2⟩ := hT.2.2.2 k (by omega)
  refine wX10_sideFor_0 hK ha ⟨nI_v (by omega) (by omega), bI (ah ke (ke k) (some k) t = true), ?_, ?_⟩
  · rw [nI_c (by omega), e1]
    exact c5_comes hK ha (by decide) hk ht (by omega) (o := some k) (fun u e => by cases e; omega)
  · rw [nI_c (show k < 100000 by omega), f1, f2]
    unfold sd
    by_cases q : ah ke (ke k) (some k) t = true
    · rw [bI_t q, if_pos q]
      exact bf one0 ⟨nI_v (by omega) (by omega), rfl⟩
    · rw [bI_f q, if_neg q]
      exact bt rfl ⟨nI_v (by omega) (by omega), rfl⟩
theorem c10_put7 (hK : StK K) (ha : IsSt K b 10 ky) (hb : 96 ≤ b) {t : Nat} (ht : t < nT) : ∀ (f h k c : Nat) (L : List Nat) (x2 : Int32) (V : SV), h ≤ f → TS lc rc h (some k) L → (∀ u, u ∈ L → u < nT) → TrC b m lc rc root V → cKe ky nT ke V → c + L.length ≤ m → V b 8 = nI c → Ev G (d + 2) mX10_putName 45 [(0, .ref b), (1, .int (nI t)), (2, .int (nI (dn ke lc rc t f k c).1)), (3, .int (-1))] (K, n, up2 V b 8 (nI (dn ke lc rc t f k c).2), J, O) r (K, n, V', J, O) → Ev G (d + 2) mX10_putName 7 [(0, .ref b), (1, .int (nI t)), (2, .int x2), (3, .int (nI k))] (K, n, V, J, O) r (K, n, V', J, O)
  | f, 0, k, c, L, x2, V, hf, q, _, _, _, _, _, _ => by simp [TS] at q
  | 0, h + 1, k, c, L, x2, V, hf, q, _, _, _, _, _, _ => by omega
  | f + 1, h + 1, k, c, L, x2, V, hf, q, hL, hT, hk, hc, h8, hE => by
    have hkL := TS_mem q
    have hkn := hL k hkL
    have h80 := hk.2.1
    have hm := hT.1.1
    obtain ⟨X, Y, e, q1, q2⟩ := q
    have hlen : L.length = X.length + Y.length + 1 := by rw [e]; simp; omega
    have g1 : fr (fun a k => a = b ∧ k = 8) V (up2 V b 8 (nI (c + 1))) := fr_up fr_rfl ⟨rfl, rfl⟩
    refine wX10_putName_7 hK ha (bf (by rw [moI_s, moI_m1 (fun u e => by cases e; omega)]; exact fun e => by cases e) (bf ?_ ⟨moI (sd ke lc rc t k), ?_, ?_⟩))
    · rw [h8, hT.2.1, nI_le' (by omega) (by omega)]
      omega
    · rw [h8, nI_1]
      exact c10_sideFor hK ha (cKe_8 hk hb g1) (hT.fr g1) ht hkn
    · rw [h8, nI_1]
      unfold dn at hE
      cases hsd : sd ke lc rc t k with
      | none =>
        rw [hsd] at hE
        exact wX10_putName_7 hK ha (bt rfl hE)
      | some k' =>
        rw [hsd] at hE
        have hE2 : Ev G (d + 2) mX10_putName 45 [(0, .ref b), (1, .int (nI t)), (2, .int (nI (dn ke lc rc t f k' (c + 1)).1)), (3, .int (-1))] (K, n, up2 (up2 V b 8 (nI (c + 1))) b 8 (nI (dn ke lc rc t f k' (c + 1)).2), J, O) r (K, n, V', J, O) := by
          rw [up2_2]
          exact hE
        unfold sd at hsd
        split at hsd
        · rw [hsd] at q1
          exact c10_put7 hK ha hb ht f h k' (c + 1) X _ _ (by omega) q1 (fun u hu => hL u (by rw [e]; simp [hu])) (hT.fr g1) (cKe_8 hk hb g1) (by omega) up2_s hE2
        · rw [hsd] at q2
          exact c10_put7 hK ha hb ht f h k' (c + 1) Y _ _ (by omega) q2 (fun u hu => hL u (by rw [e]; simp [hu])) (hT.fr g1) (cKe_8 hk hb g1) (by omega) up2_s hE2
theorem c10_putName (hK : StK K) (ha : IsSt K b 10 ky) (hb : 96 ≤ b) (hk : cKe ky nT ke V) (hT : TrC b m lc rc root V) {L : List Nat} (hS : TS lc rc 80 root L) (hL : ∀ u, u ∈ L → u < nT) (hm : L.length = m) (hm2 : m < 80) {t : Nat} (ht : t < nT) (h8 : V b 8 = nI 0) : ∃ V', Ev G (d + 2) mX10_putName 0 [(0, .ref b), (1, .int (nI t))] (K, n, V, J, O) none (K, n, V', J, O) ∧ (match root with
    | none => TrC b (m + 1) (upF lc t none) (upF rc t none) (some t) V' ∧ V' b 8 = nI 0
    | some k => TrC b (m + 1) (pl ke lc t (dn ke lc rc t 80 k 0).1) (pr ke rc t (dn ke lc rc t 80 k 0).1) root V' ∧ V' b 8 = nI (dn ke lc rc t 80 k 0).2) ∧ fr (fun a k => a = b + 2 ∨ a = b + 3 ∨ (a = b ∧ (k = 8 ∨ k = 12 ∨ k = 13))) V V' := by
  have h80 := hk.2.1
  obtain ⟨⟨b1, b2, b3, b4⟩, t1, t2, t3⟩ := hT
  have bl : pbF (upF lc t none) := pb_up b2 (fun u e => by cases e)
  have br : pbF (upF rc t none) := pb_up b3 (fun u e => by cases e)
  cases root with
  | none =>
    refine ⟨up2 (up2 (up2 (up2 V (b + 2) t (moI none)) (b + 3) t (moI none)) b 13 (nI (m + 1))) b 12 (nI t), wX10_putName_0 hK ha ?_, ⟨⟨⟨by omega, bl, br, fun u e => by cases e; omega⟩, ?_, ?_, fun u hu => ⟨?_, ?_⟩⟩, ?_⟩, ?_⟩
    · rw [t2]
      refine wX10_putName_7 hK ha (bt rfl (wX10_putName_45 hK ha ⟨nI_v (by omega) (by omega), nI_v (by omega) (by omega), nf rfl ⟨rfl, ?_⟩⟩))
      rw [nI_c (by omega), up2_a (by omega), up2_a (by omega), t1, nI_1]
      rfl
    · rw [up2_k (by decide), up2_s]
    · rw [up2_s]
      rfl
    · rw [up2_a (by omega), up2_a (by omega), up2_a (by omega)]
      exact up2_F (fun t ht => (t3 t ht).1) u hu
    · rw [up2_a (by omega), up2_a (by omega)]
      refine up2_F (fun t ht => ?_) u hu
      rw [up2_a (by omega)]
      exact (t3 t ht).2
    · rw [up2_k (by decide), up2_k (by decide), up2_a (by omega), up2_a (by omega)]
      exact h8
    · exact fr_up (fr_up (fr_up (fr_up fr_rfl (Or.inl rfl)) (Or.inr (Or.inl rfl))) (Or.inr (Or.inr ⟨rfl, by omega⟩))) (Or.inr (Or.inr ⟨rfl, by omega⟩))
  | some k =>
    dsimp only
    generalize hdn : dn ke lc rc t 80 k 0 = pc
    have hpL : pc.1 < nT := by
      have : ∀ (f h k c : Nat) (L : List Nat), TS lc rc h (some k) L → (∀ u, u ∈ L → u < nT) → (dn ke lc rc t f k c).1 < nT := by
        intro f
        induction f with
        | zero => exact fun h k c L q hL => hL k (TS_mem q)
        | succ f ih =>
          intro h k c L q hL
          have hkL := hL k (TS_mem q)
          unfold dn
          cases hsd : sd ke lc rc t k with
          | none => exact hkL
          | some k' =>
            dsimp only
            cases h with
            | zero => simp [TS] at q
            | succ h =>
              obtain ⟨X, Y, e, q1, q2⟩ := q
              unfold sd at hsd
              split at hsd
              · rw [hsd] at q1
                exact ih h k' _ X q1 (fun u hu => hL u (by rw [e]; simp [hu]))
              · rw [hsd] at q2
                exact ih h k' _ Y q2 (fun u hu => hL u (by rw [e]; simp [hu]))
      rw [← hdn]
      exact this 80 80 k 0 L hS hL
    obtain ⟨p, c⟩ := pc
    dsimp only at hpL ⊢
    have hkp := hk.2.2 p hpL
    generalize hV1 : up2 (up2 (up2 (up2 V b 8 (nI c)) (b + 2) t (moI none)) (b + 3) t (moI none)) b 13 (nI (m + 1)) = V1
    have f1 : fr (fun a k => a = b + 2 ∨ a = b + 3 ∨ (a = b ∧ (k = 8 ∨ k = 12 ∨ k = 13))) V V1 := by
      rw [← hV1]
      exact fr_up (fr_up (fr_up (fr_up fr_rfl (Or.inr (Or.inr ⟨rfl, by omega⟩))) (Or.inl rfl)) (Or.inr (Or.inl rfl))) (Or.inr (Or.inr ⟨rfl, by omega⟩))
    have k1 : cKe ky nT ke V1 := hk.fr hb (fr_mo f1 (fun a k q => by omega))
    have l1 : ∀ u, u < 80 → V1 (b + 2) u = moI (upF lc t none u) := fun u hu => by
      rw [← hV1, up2_a (by omega), up2_a (by omega)]
      refine up2_F (fun t ht => ?_) u hu
      rw [up2_a (by omega)]
      exact (t3 t ht).1
    have r1 : ∀ u, u < 80 → V1 (b + 3) u = moI (upF rc t none u) := fun u hu => by
      rw [← hV1, up2_a (by omega)]
      refine up2_F (fun t ht => ?_) u hu
      rw [up2_a (by omega), up2_a (by omega)]
      exact (t3 t ht).2
    have m1 : V1 b 13 = nI (m + 1) := by rw [← hV1, up2_s]
    have o1 : V1 b 12 = moI (some k) := by
      rw [← hV1, up2_k (by decide), up2_a (by omega), up2_a (by omega), up2_k (by decide)]
      exact t2
    have e1 : V1 b 8 = nI c := by
      rw [← hV1, up2_k (by decide), up2_a (by omega), up2_a (by omega), up2_s]
    refine ⟨if ah ke (ke p) (some p) t = true then up2 V1 (b + 2) p (nI t) else up2 V1 (b + 3) p (nI t), wX10_putName_0 hK ha ?_, ⟨⟨⟨by omega, pb_pl b2 (by omega), pb_pr b3 (by omega), b4⟩, ?_, ?_, fun u hu => ⟨?_, ?_⟩⟩, ?_⟩, ?_⟩
    · rw [t2]
      refine c10_put7 hK ha hb ht 80 80 k 0 L _ V (by omega) hS hL ⟨⟨b1, b2, b3, b4⟩, t1, t2, t3⟩ hk (by omega) h8 ?_
      rw [hdn]
      dsimp only
      refine wX10_putName_45 hK ha ⟨nI_v (by omega) (by omega), nI_v (by omega) (by omega), nt (by
        rw [moI_s, ne_eq, moI_m1 (fun u e => by cases e; omega)]; exact fun e => by cases e) ⟨nI_v (by omega) (by omega), bI (ah ke (ke p) (some p) t = true), ?_, ?_⟩⟩
      all_goals rw [nI_c (show t < 100000 by omega), nI_c (show p < 100000 by omega), up2_a (show b ≠ b + 3 by omega), up2_a (show b ≠ b + 2 by omega), up2_k (show 13 ≠ 8 by decide), t1, nI_1]
      all_goals rw [show up2 (up2 (up2 (up2 V b 8 (nI c)) (b + 2) t (-1)) (b + 3) t (-1)) b 13 (nI (m + 1)) = V1 from hV1]
      · rw [(k1.2.2 p hpL).1]
        exact c5_comes hK ha (by decide) k1 ht (by omega) (o := some p) (fun u e => by cases e; omega)
      · by_cases q : ah ke (ke p) (some p) t = true
        · rw [bI_t q, if_pos q]
          exact bf one0 ⟨nI_v (by omega) (by omega), rfl, rfl⟩
        · rw [bI_f q, if_neg q]
          exact bt rfl ⟨nI_v (by omega) (by omega), rfl, rfl⟩
    · split
      · rw [up2_a (by omega)]; exact m1
      · rw [up2_a (by omega)]; exact m1
    · split
      · rw [up2_a (by omega)]; exact o1
      · rw [up2_a (by omega)]; exact o1
    · unfold pl
      split
      · exact up2_F (x := some t) l1 u hu
      · rw [up2_a (by omega)]; exact l1 u hu
    · unfold pr
      split
      · rw [up2_a (by omega)]; exact r1 u hu
      · exact up2_F (x := some t) r1 u hu
    · split
      · rw [up2_a (by omega)]; exact e1
      · rw [up2_a (by omega)]; exact e1
    · split
      · exact fr_up f1 (Or.inl rfl)
      · exact fr_up f1 (Or.inr (Or.inl rfl))
end
