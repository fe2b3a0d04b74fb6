section
variable {G : Gp} {d : Nat} {K : SK} {n : Nat × Nat} {V V' : SV} {J J' : SJV} {O O' : SO} {r : Option Value}
variable {b ky s nT m : Nat} {ke : Nat → Nat} {lc rc : Nat → Option Nat} {root : Option Nat}
theorem mKe_o (hk : mKe s ky nT ke V) (hf : fr (fun a _ => a ≠ 58 ∧ a ≠ 71) V V') : mKe s ky nT ke V' := ⟨hk.1, hk.2.1, hk.2.2.1, by rw [hf 71 s (by omega)]; exact hk.2.2.2.1, fun t ht => by rw [hf 58 (4 * t + ky) (by omega)]; exact hk.2.2.2.2 t ht⟩
theorem dn_congr {lc' rc' : Nat → Option Nat} {t : Nat} : ∀ {f h k c : Nat} {L : List Nat}, TS lc rc h (some k) L → (∀ u, u ∈ L → lc' u = lc u ∧ rc' u = rc u) → dn ke lc' rc' t f k c = dn ke lc rc t f k c
  | 0, _, _, _, _, _, _ => rfl
  | f + 1, 0, k, c, L, q, _ => by simp [TS] at q
  | f + 1, h + 1, k, c, L, q, g => by
    have hkL := TS_mem q
    obtain ⟨X, Y, e, q1, q2⟩ := q
    unfold dn
    rw [show sd ke lc' rc' t k = sd ke lc rc t k from by unfold sd; rw [(g k hkL).1, (g k hkL).2]]
    cases hsd : sd ke lc rc t k with
    | none => rfl
    | some k' =>
      dsimp only
      unfold sd at hsd
      split at hsd
      · rw [hsd] at q1
        exact dn_congr q1 (fun u hu => g u (by rw [e]; simp [hu]))
      · rw [hsd] at q2
        exact dn_congr q2 (fun u hu => g u (by rw [e]; simp [hu]))
theorem c12_put61 (hK : StK K) {t : Nat} (ht : t < nT) : ∀ (f h k c : Nat) (L : List Nat) (V : SV), h ≤ f → TS lc rc h (some k) L → (∀ u, u ∈ L → u < nT) → TrM s m lc rc root V → mKe s ky nT ke V → c + L.length < 100000 → V 57 32 = nI c → Ev G (d + 3) mX12_putInTree 61 [(0, .ref 57), (1, .int (nI s)), (2, .int (nI t)), (3, .int (nI k)), (4, .int 1)] (K, n, V, J, O) none (K, n, (if ah ke (ke (dn ke lc rc t f k c).1) (some (dn ke lc rc t f k c).1) t = true then up2 (up2 V 57 32 (nI (dn ke lc rc t f k c).2)) 74 (80 * s + (dn ke lc rc t f k c).1) (nI t) else up2 (up2 V 57 32 (nI (dn ke lc rc t f k c).2)) 75 (80 * s + (dn ke lc rc t f k c).1) (nI t)), J, O)
  | f, 0, k, c, L, V, hf, q, _, _, _, _, _ => by simp [TS] at q
  | 0, h + 1, k, c, L, V, hf, q, _, _, _, _, _ => by omega
  | f + 1, h + 1, k, c, L, V, hf, q, hL, hT, hk, hc, h8 => by
    have hkL := TS_mem q
    have hkn := hL k hkL
    have h80 := hk.2.2.1
    have hs := hk.1
    obtain ⟨X, Y, e, q1, q2⟩ := q
    have hlen : L.length = X.length + Y.length + 1 := by rw [e]; simp; omega
    have g1 : fr (fun a k => a = 57 ∧ k = 32) V (up2 V 57 32 (nI (c + 1))) := fr_up fr_rfl ⟨rfl, rfl⟩
    have hk1 : mKe s ky nT ke (up2 V 57 32 (nI (c + 1))) := mKe_o hk (fr_mo g1 (fun a k q => by omega))
    have hT1 := hT.fr g1
    obtain ⟨f1, f2⟩ := hT.2.2.2 k (by omega)
    refine wX12_putInTree_61 hK (bf one0 ⟨bI (ah ke (ke k) (some k) t = true), ?_, ?_⟩)
    · rw [h8, nI_1]
      exact c12_isLess hK hk1 ht hkn
    · rw [ix80, nI_c (show 80 * s + k < 100000 by omega), f1, f2, h8, nI_1, moI_neg (pb_m hT.1.2.2.1 k), moI_neg (pb_m hT.1.2.1 k)]
      unfold dn sd
      by_cases q : ah ke (ke k) (some k) t = true
      · simp only [if_pos q, bI_t q]
        refine bf one0 ⟨nI_v (by omega) (by omega), ?_⟩
        cases hl : lc k with
        | none =>
          refine bt rfl (bf one0 ⟨nI_v (by omega) (by omega), wX12_putInTree_172 hK (wX12_putInTree_61 hK (bt rfl ⟨rfl, ?_⟩))⟩)
          dsimp only
          rw [if_pos q]
        | some k' =>
          rw [hl] at q1
          refine bf (fun e => by cases e) (wX12_putInTree_172 hK ?_)
          have := c12_put61 hK ht f h k' (c + 1) X _ (by omega) q1 (fun u hu => hL u (by rw [e]; simp [hu])) hT1 hk1 (by omega) up2_s
          rw [up2_2] at this
          exact this
      · simp only [if_neg q, bI_f q]
        refine bt trivial ⟨nI_v (by omega) (by omega), ?_⟩
        cases hl : rc k with
        | none =>
          refine bt rfl (bt trivial ⟨nI_v (by omega) (by omega), wX12_putInTree_172 hK (wX12_putInTree_61 hK (bt rfl ⟨rfl, ?_⟩))⟩)
          dsimp only
          rw [if_neg q]
        | some k' =>
          rw [hl] at q2
          refine bf (fun e => by cases e) (wX12_putInTree_172 hK ?_)
          have := c12_put61 hK ht f h k' (c + 1) Y _ (by omega) q2 (fun u hu => hL u (by rw [e]; simp [hu])) hT1 hk1 (by omega) up2_s
          rw [up2_2] at this
          exact this
def frT (s : Nat) : Nat → Nat → Prop := fun a k => ((a = 74 ∨ a = 75) ∧ 80 * s ≤ k ∧ k < 80 * s + 80) ∨ ((a = 73 ∨ a = 76) ∧ k = s) ∨ (a = 57 ∧ k = 32)
theorem c12_putInTree (hK : StK K) (hk : mKe s ky nT ke V) (hT : TrM s m lc rc root V) {L : List Nat} (hS : TS lc rc 80 root L) (hL : ∀ u, u ∈ L → u < nT) (hm : L.length = m) (hm2 : m < 80) {t : Nat} (ht : t < nT) (htL : t ∉ L) (h8 : V 57 32 = nI 0) : ∃ V', Ev G (d + 3) mX12_putInTree 0 [(0, .ref 57), (1, .int (nI s)), (2, .int (nI t))] (K, n, V, J, O) none (K, n, V', J, O) ∧ (match root with
    | none => TrM s (m + 1) (upF lc t none) (upF rc t none) (some t) V' ∧ V' 57 32 = nI 0
    | some k => TrM s (m + 1) (pl ke lc t (dn ke lc rc t 80 k 0).1) (pr ke rc t (dn ke lc rc t 80 k 0).1) root V' ∧ V' 57 32 = nI (dn ke lc rc t 80 k 0).2) ∧ fr (frT s) V V' := by
  have h80 := hk.2.2.1
  have hs := hk.1
  obtain ⟨⟨b1, b2, b3, b4⟩, t1, t2, t3⟩ := hT
  have bl : pbF (upF lc t none) := pb_up b2 (fun u e => by cases e)
  have br : pbF (upF rc t none) := pb_up b3 (fun u e => by cases e)
  generalize hV1 : up2 (up2 (up2 V 74 (80 * s + t) (moI none)) 75 (80 * s + t) (moI none)) 73 s (nI (m + 1)) = V1
  have f1 : fr (frT s) V V1 := by
    rw [← hV1]
    exact fr_up (fr_up (fr_up fr_rfl (Or.inl ⟨by omega, by omega, by omega⟩)) (Or.inl ⟨by omega, by omega, by omega⟩)) (Or.inr (Or.inl ⟨by omega, rfl⟩))
  have k1 : mKe s ky nT ke V1 := mKe_o hk (fr_mo f1 (fun a k q => by unfold frT at q; omega))
  have l1 : ∀ u, u < 80 → V1 74 (80 * s + u) = moI (upF lc t none u) := fun u hu => by
    rw [← hV1, up2_a (by omega), up2_a (by omega)]
    exact up2_M (fun t ht => (t3 t ht).1) u hu
  have r1 : ∀ u, u < 80 → V1 75 (80 * s + u) = moI (upF rc t none u) := fun u hu => by
    rw [← hV1, up2_a (by omega)]
    refine up2_M (fun t ht => ?_) u hu
    rw [up2_a (by omega)]
    exact (t3 t ht).2
  have m1 : V1 73 s = nI (m + 1) := by rw [← hV1, up2_s]
  have o1 : V1 76 s = moI root := by
    rw [← hV1, up2_a (by omega), up2_a (by omega), up2_a (by omega)]
    exact t2
  have e1 : V1 57 32 = nI 0 := by
    rw [← hV1, up2_a (by omega), up2_a (by omega), up2_a (by omega)]
    exact h8
  have T1 : TrM s (m + 1) (upF lc t none) (upF rc t none) root V1 := ⟨⟨by omega, bl, br, b4⟩, m1, o1, fun u hu => ⟨l1 u hu, r1 u hu⟩⟩
  cases root with
  | none =>
    refine ⟨up2 V1 76 s (nI t), wX12_putInTree_0 hK ?_, ⟨⟨⟨by omega, bl, br, fun u e => by cases e; omega⟩, ?_, ?_, fun u hu => ⟨?_, ?_⟩⟩, ?_⟩, fr_up f1 (Or.inr (Or.inl ⟨by omega, rfl⟩))⟩
    · rw [ix80, nI_c (show 80 * s + t < 100000 by omega), nI_c (show s < 100000 by omega), t1, t2, nI_1]
      refine ⟨nI_v (by omega) (by omega), nI_v (by omega) (by omega), nI_v (by omega) (by omega), nI_v (by omega) (by omega), nI_v (by omega) (by omega), bf (by decide) ⟨nI_v (by omega) (by omega), rfl, ?_⟩⟩
      rw [← hV1]
      rfl
    · rw [up2_a (by omega)]; exact m1
    · rw [up2_s]; rfl
    · rw [up2_a (by omega)]; exact l1 u hu
    · rw [up2_a (by omega)]; exact r1 u hu
    · rw [up2_a (by omega)]; exact e1
  | some k =>
    dsimp only
    have hgr : ∀ u, u ∈ L → upF lc t none u = lc u ∧ upF rc t none u = rc u := fun u hu => ⟨upF_n (fun hx => htL (hx ▸ hu)), upF_n (fun hx => htL (hx ▸ hu))⟩
    have hS1 := TS_congr hgr hS
    have hE := c12_put61 (G := G) (d := d) (n := n) (J := J) (O := O) (root := some k) hK ht 80 80 k 0 L V1 (by omega) hS1 hL T1 k1 (by omega) e1
    rw [dn_congr hS hgr] at hE
    have hp : (dn ke lc rc t 80 k 0).1 < nT := by
      have : ∀ (f h k c : Nat) (L : List Nat), TS lc rc h (some k) L → (∀ u, u ∈ L → u < nT) → (dn ke lc rc t f k c).1 < nT := by
        intro f
        induction f with
        | zero => exact fun h k c L q hL => hL k (TS_mem q)
        | succ f ih =>
          intro h k c L q hL
          have hkL := hL k (TS_mem q)
          unfold dn
          cases hsd : sd ke lc rc t k with
          | none => exact hkL
          | some k' =>
            dsimp only
            cases h with
            | zero => simp [TS] at q
            | succ h =>
              obtain ⟨X, Y, e, q1, q2⟩ := q
              unfold sd at hsd
              split at hsd
              · rw [hsd] at q1
                exact ih h k' _ X q1 (fun u hu => hL u (by rw [e]; simp [hu]))
              · rw [hsd] at q2
                exact ih h k' _ Y q2 (fun u hu => hL u (by rw [e]; simp [hu]))
      exact this 80 80 k 0 L hS hL
    generalize dn ke lc rc t 80 k 0 = pc at hE hp ⊢
    obtain ⟨p, c⟩ := pc
    dsimp only at hE hp ⊢
    refine ⟨if ah ke (ke p) (some p) t = true then up2 (up2 V1 57 32 (nI c)) 74 (80 * s + p) (nI t) else up2 (up2 V1 57 32 (nI c)) 75 (80 * s + p) (nI t), wX12_putInTree_0 hK ?_, ⟨⟨⟨by omega, pb_pl b2 (by omega), pb_pr b3 (by omega), b4⟩, ?_, ?_, fun u hu => ⟨?_, ?_⟩⟩, ?_⟩, ?_⟩
    · rw [ix80, nI_c (show 80 * s + t < 100000 by omega), nI_c (show s < 100000 by omega), t1, t2, nI_1]
      have hk4 := b4 k rfl
      refine ⟨nI_v (by omega) (by omega), nI_v (by omega) (by omega), nI_v (by omega) (by omega), nI_v (by omega) (by omega), nI_v (by omega) (by omega), bt (nI_pos' (by show k < _; omega)) ⟨nI_v (by omega) (by omega), ?_⟩⟩
      rw [show up2 (up2 (up2 V 74 (80 * s + t) (-1)) 75 (80 * s + t) (-1)) 73 s (nI (m + 1)) = V1 from hV1]
      exact hE
    · split
      · rw [up2_a (by omega), up2_a (by omega)]; exact m1
      · rw [up2_a (by omega), up2_a (by omega)]; exact m1
    · split
      · rw [up2_a (by omega), up2_a (by omega)]; exact o1
      · rw [up2_a (by omega), up2_a (by omega)]; exact o1
    · unfold pl
      split
      · exact up2_M (x := some t) (fun t ht => by rw [up2_a (by omega)]; exact l1 t ht) u hu
      · rw [up2_a (by omega), up2_a (by omega)]; exact l1 u hu
    · unfold pr
      split
      · rw [up2_a (by omega), up2_a (by omega)]; exact r1 u hu
      · exact up2_M (x := some t) (fun t ht => by rw [up2_a (by omega)]; exact r1 t ht) u hu
    · split
      · rw [up2_a (by omega), up2_s]
      · rw [up2_a (by omega), up2_s]
    · split
      · exact fr_up (fr_up f1 (Or.inr (Or.inr ⟨rfl, rfl⟩))) (Or.inl ⟨by omega, by omega, by omega⟩)
      · exact fr_up (fr_up f1 (Or.inr (Or.inr ⟨rfl, rfl⟩))) (Or.inl ⟨by omega, by omega, by omega⟩)
end
