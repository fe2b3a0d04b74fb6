/-! ===== misses of the reference; the calls ===== -/
section
variable {G : Gp} {dd : Nat} {K : SK} {n : Nat × Nat} {V V' : SV} {J J' : SJV} {O O' : SO} {r : Option Value}
variable {nC : Nat} {cel : Nat → Nat}
theorem nI_a0 (x : Int32) : x + 0 = x := Int32.add_zero x
theorem fr84 {V : SV} (j j' : Nat) (y y' : Int32) : fr (fun a _ => a = 83 ∨ a = 84) V (up2 (up2 V 83 j y) 84 j' y') := fr_up (fr_up fr_rfl (Or.inl rfl)) (Or.inr rfl)
theorem st83 {V : SV} {s' p line i : Nat} {os us : Nat → Nat} (hl : line < 1000) (hi : i < 1000) (hh : ∀ q, q < s' → q ≠ p → (V 83 q = nI (os q) ∧ os q < 1000) ∧ (V 84 q = nI (us q) ∧ us q < 1000)) : ∀ q, q < s' → (up2 (up2 V 83 p (nI line)) 84 p (nI i) 83 q = nI ((fun q => if q = p then line else os q) q) ∧ (fun q => if q = p then line else os q) q < 1000) ∧ (up2 (up2 V 83 p (nI line)) 84 p (nI i) 84 q = nI ((fun q => if q = p then i else us q) q) ∧ (fun q => if q = p then i else us q) q < 1000) := by
  intro q hq
  by_cases e : q = p
  · subst e
    simp [up2, hl, hi]
  · obtain ⟨⟨h1, h2⟩, h3, h4⟩ := hh q hq e
    simp [up2, e, h1, h2, h3, h4]
theorem c12_opt (hK : StK K) {w f : Nat} (hw : 1 ≤ w ∧ w ≤ 8) (hf : 1 ≤ f ∧ f ≤ 8) : ∀ (k i s ms : Nat) (g : Nat → Nat) (V : SV), i + k = nC → s ≤ f → mC' nC cel V → (∀ q, q < s → V 83 q = nI (g q) ∧ g q < 1000) → ∃ V', Ev G (dd + 2) mX12_misses 52 [(0, .ref 57), (1, .int (nI w)), (2, .int (nI f)), (3, .int 1), (4, .int (nI s)), (5, .int (nI ms)), (6, .int (nI i))] (K, n, V, J, O) (some (.int (nI (ms + opt nC f (fun i => cel i / w) k i s g)))) (K, n, V', J, O) ∧ fr (fun a _ => a = 83 ∨ a = 84) V V' := by
  intro k
  induction k with
  | zero =>
    intro i s ms h V e hs hC hh
    exact ⟨V, wX12_misses_52 hK (bt (lp_out hC.2.1 (by omega) (by have := hC.1; omega)) ⟨rfl, rfl⟩), fr_rfl⟩
  | succ k ih =>
    intro i s ms g V e hs hC hh
    have h60 := hC.1
    obtain ⟨hc1, hc2⟩ := hC.2.2 i (by omega)
    obtain ⟨hdiv, hd9⟩ := dv w (cel i) hw hc2
    have head : ∀ {r V'}, Ev G (dd + 2) mX12_misses 100 [(0, .ref 57), (1, .int (nI w)), (2, .int (nI f)), (3, .int 1), (4, .int (nI s)), (5, .int (nI ms)), (6, .int (nI i)), (7, .int (nI (cel i / w))), (8, .int (nI (ffst (fun q => g q == cel i / w) s 0)))] (K, n, V, J, O) r (K, n, V', J, O) → Ev G (dd + 2) mX12_misses 52 [(0, .ref 57), (1, .int (nI w)), (2, .int (nI f)), (3, .int 1), (4, .int (nI s)), (5, .int (nI ms)), (6, .int (nI i))] (K, n, V, J, O) r (K, n, V', J, O) := by
      intro r V' hk
      refine wX12_misses_52 hK (bf (lp_in hC.2.1 (by omega) (by omega)) ⟨nI_v (by omega) (by omega), nI_ne0 (by omega) (by omega), ?_⟩)
      rw [nI_c (by omega), hc1, hdiv]
      exact c12_find hK (by omega) (by omega) hh hk s 0 (by omega) rfl
    have store : ∀ {s' ms' p V' r}, p < 8 → Ev G (dd + 2) mX12_misses 52 [(0, .ref 57), (1, .int (nI w)), (2, .int (nI f)), (3, .int 1), (4, .int (nI s')), (5, .int (nI ms')), (6, .int (nI (i + 1)))] (K, n, up2 (up2 V 83 p (nI (cel i / w))) 84 p (nI i), J, O) r (K, n, V', J, O) → Ev G (dd + 2) mX12_misses 149 [(0, .ref 57), (1, .int (nI w)), (2, .int (nI f)), (3, .int 1), (4, .int (nI s')), (5, .int (nI ms')), (6, .int (nI i)), (7, .int (nI (cel i / w))), (8, .int (nI p))] (K, n, V, J, O) r (K, n, V', J, O) := by
      intro s' ms' p V' r hp hk
      refine wX12_misses_149 hK ⟨nI_v hp (by omega), nI_v hp (by omega), ?_⟩
      rw [nI_c (by omega), nI_1]
      exact hk
    have cel84 : ∀ p q, q ≠ p → up2 (up2 V 83 p (nI (cel i / w))) 84 p (nI i) 83 q = V 83 q := fun p q h => by simp [up2, h]
    have p84 : ∀ p, up2 (up2 V 83 p (nI (cel i / w))) 84 p (nI i) 83 p = nI (cel i / w) := fun p => by simp [up2]
    unfold opt
    by_cases hfo : ffst (fun q => g q == cel i / w) s 0 < s
    · rw [if_pos hfo]
      have hy := ffst_yes (fun q => g q == cel i / w) s 0 (by omega)
      have hy2 : g (ffst (fun q => g q == cel i / w) s 0) = cel i / w := by simpa using hy
      generalize ffst (fun q => g q == cel i / w) s 0 = p at *
      obtain ⟨V', z1, z2⟩ := ih (i + 1) s ms g _ (by omega) hs (hC.fr (fr84 p p (nI (cel i / w)) (nI i))) (fun q hq => by
        by_cases e : q = p
        · rw [e, p84, hy2]; exact ⟨rfl, by omega⟩
        · rw [cel84 p q e]; exact hh q hq)
      refine ⟨V', head (wX12_misses_100 hK (nt ?_ (store (by omega) z1))), fr_mo (fr_tr (fr84 _ _ _ _) z2) (fun a k q => by omega)⟩
      rw [nI_ne (by omega) (by omega)]; omega
    · rw [if_neg hfo]
      have hps : ffst (fun q => g q == cel i / w) s 0 = s := by have := ffst_le (fun q => g q == cel i / w) s 0; omega
      rw [hps] at head
      by_cases hsf : s < f
      · rw [if_pos hsf]
        obtain ⟨V', z1, z2⟩ := ih (i + 1) (s + 1) (ms + 1) (fun q => if q = s then cel i / w else g q) _ (by omega) (by omega) (hC.fr (fr84 s s (nI (cel i / w)) (nI i))) (fun q hq => by
          by_cases e : q = s
          · rw [e, p84]; simp; omega
          · rw [cel84 s q e]
            simp only [if_neg e]
            exact hh q (by omega))
        have hle : ¬ nI f ≤ nI s := by rw [nI_le' (by omega) (by omega)]; omega
        refine ⟨V', head (wX12_misses_100 hK (nf rfl (bf hle (bf hle ?_)))), fr_mo (fr_tr (fr84 _ _ _ _) z2) (fun a k q => by omega)⟩
        rw [nI_1, nI_1]
        rw [← Nat.add_assoc]
        exact store (by omega) z1
      · rw [if_neg hsf]
        have hv := vic_lt (nu := nxt nC (fun i => cel i / w) (i + 1)) (g := g) (k := s - 1) (t := 1) (b := 0) (s := s) (by omega) (by omega)
        have hoff := wX12_goesOff_0 hK (c12_off1 (G := G) (dd := dd) (n := n) (J := J) (O := O) hK hC (i := i) (g := g) hw (show s ≤ 8 by omega) (by omega) hh (s - 1) 1 0 (by omega) (by omega))
        generalize vic (nxt nC (fun i => cel i / w) (i + 1)) g (s - 1) 1 0 = p at *
        obtain ⟨V', z1, z2⟩ := ih (i + 1) s (ms + 1) (fun q => if q = p then cel i / w else g q) _ (by omega) (by omega) (hC.fr (fr84 p p (nI (cel i / w)) (nI i))) (fun q hq => by
          by_cases e : q = p
          · rw [e, p84]; simp; omega
          · rw [cel84 p q e]
            simp only [if_neg e]
            exact hh q (by omega))
        have hle : nI f ≤ nI s := by rw [nI_le' (by omega) (by omega)]; omega
        refine ⟨V', head (wX12_misses_100 hK (nf rfl (bt hle ⟨_, hoff, bt hle ?_⟩))), fr_mo (fr_tr (fr84 _ _ _ _) z2) (fun a k q => by omega)⟩
        rw [nI_a0, nI_1]
        rw [← Nat.add_assoc]
        exact store (by omega) z1
theorem c12_lru (hK : StK K) {w f : Nat} (hw : 1 ≤ w ∧ w ≤ 8) (hf : 1 ≤ f ∧ f ≤ 8) : ∀ (k i s ms : Nat) (h os us tau : Nat → Nat) (V : SV), i + k = nC → s ≤ f → mC' nC cel V → RLU s i h os us tau → (∀ q, q < s → (V 83 q = nI (os q) ∧ os q < 1000) ∧ (V 84 q = nI (us q) ∧ us q < 1000)) → ∃ V', Ev G (dd + 2) mX12_misses 52 [(0, .ref 57), (1, .int (nI w)), (2, .int (nI f)), (3, .int 0), (4, .int (nI s)), (5, .int (nI ms)), (6, .int (nI i))] (K, n, V, J, O) (some (.int (nI (ms + lru f (fun i => cel i / w) k i s h)))) (K, n, V', J, O) ∧ fr (fun a _ => a = 83 ∨ a = 84) V V' := by
  intro k
  induction k with
  | zero =>
    intro i s ms h os us tau V e hs hC hR hh
    exact ⟨V, wX12_misses_52 hK (bt (lp_out hC.2.1 (by omega) (by have := hC.1; omega)) ⟨rfl, rfl⟩), fr_rfl⟩
  | succ k ih =>
    intro i s ms h os us tau V e hs hC hR hh
    have h60 := hC.1
    obtain ⟨hc1, hc2⟩ := hC.2.2 i (by omega)
    obtain ⟨hdiv, hd9⟩ := dv w (cel i) hw hc2
    obtain ⟨r1, r2, r3, r4⟩ := id hR
    have head : ∀ {r V'}, Ev G (dd + 2) mX12_misses 100 [(0, .ref 57), (1, .int (nI w)), (2, .int (nI f)), (3, .int 0), (4, .int (nI s)), (5, .int (nI ms)), (6, .int (nI i)), (7, .int (nI (cel i / w))), (8, .int (nI (ffst (fun q => os q == cel i / w) s 0)))] (K, n, V, J, O) r (K, n, V', J, O) → Ev G (dd + 2) mX12_misses 52 [(0, .ref 57), (1, .int (nI w)), (2, .int (nI f)), (3, .int 0), (4, .int (nI s)), (5, .int (nI ms)), (6, .int (nI i))] (K, n, V, J, O) r (K, n, V', J, O) := by
      intro r V' hk
      refine wX12_misses_52 hK (bf (lp_in hC.2.1 (by omega) (by omega)) ⟨nI_v (by omega) (by omega), nI_ne0 (by omega) (by omega), ?_⟩)
      rw [nI_c (by omega), hc1, hdiv]
      exact c12_find hK (by omega) (by omega) (fun q hq => (hh q hq).1) hk s 0 (by omega) rfl
    have store : ∀ {s' ms' p V' r}, p < 8 → Ev G (dd + 2) mX12_misses 52 [(0, .ref 57), (1, .int (nI w)), (2, .int (nI f)), (3, .int 0), (4, .int (nI s')), (5, .int (nI ms')), (6, .int (nI (i + 1)))] (K, n, up2 (up2 V 83 p (nI (cel i / w))) 84 p (nI i), J, O) r (K, n, V', J, O) → Ev G (dd + 2) mX12_misses 149 [(0, .ref 57), (1, .int (nI w)), (2, .int (nI f)), (3, .int 0), (4, .int (nI s')), (5, .int (nI ms')), (6, .int (nI i)), (7, .int (nI (cel i / w))), (8, .int (nI p))] (K, n, V, J, O) r (K, n, V', J, O) := by
      intro s' ms' p V' r hp hk
      refine wX12_misses_149 hK ⟨nI_v hp (by omega), nI_v hp (by omega), ?_⟩
      rw [nI_c (by omega), nI_1]
      exact hk
    have tinj : ∀ p p', p < s → p' < s → tau p = tau p' → p = p' := by
      intro p p' hp hp' he
      rcases Nat.lt_trichotomy p p' with q | q | q
      · have := r2 p p' q hp'
        rw [he] at this
        omega
      · exact q
      · have := r2 p' p q hp
        rw [he] at this
        omega
    have f1 := ffst_le (fun q => h q == cel i / w) s 0
    have f2 := ffst_yes (fun q => h q == cel i / w) s 0
    have f3 := ffst_no (fun q => h q == cel i / w) s 0
    unfold lru
    by_cases hfo : ffst (fun q => h q == cel i / w) s 0 < s
    · rw [if_pos hfo]
      have hy2 : h (ffst (fun q => h q == cel i / w) s 0) = cel i / w := by simpa using f2 (by omega)
      generalize ffst (fun q => h q == cel i / w) s 0 = p at *
      -- the reference finds it, too
      have hk0 : ffst (fun q => os q == cel i / w) s 0 = tau p := by
        refine ffst_un (Nat.zero_le _) (by have := (r1 p hfo).1; omega) (fun j _ hj => ?_) (fun _ => ?_)
        · have hjs : j < s := by have := (r1 p hfo).1; omega
          obtain ⟨q, hq, he⟩ := r3 j hjs
          have h5 : os j ≠ cel i / w := by
            rw [← he, (r1 q hq).2.1]
            intro h6
            have := r4 q p hq hfo (by rw [h6, hy2])
            rw [this] at he
            omega
          simpa using h5
        · simp [(r1 p hfo).2.1, hy2]
      rw [hk0] at head
      obtain ⟨V', z1, z2⟩ := ih (i + 1) s ms _ _ _ _ _ (by omega) hs (hC.fr (fr84 (tau p) (tau p) (nI (cel i / w)) (nI i))) (RLU_up (line := cel i / w) hR hfo (fun q hq hne => ⟨hq, fun h5 => hne (tinj q p hq hfo h5), fun h5 => hne (r4 q p hq hfo (by rw [h5, hy2]))⟩) (r1 p hfo).1 (Nat.le_refl _) (fun k hk hne => by
        obtain ⟨q, hq, he⟩ := r3 k hk
        exact ⟨q, hq, fun h5 => hne (by rw [← he, h5]), he⟩)) (st83 (by omega) (by omega) (fun q hq _ => hh q hq))
      have ht8 := (r1 p hfo).1
      refine ⟨V', head (wX12_misses_100 hK (nt ?_ (store (by omega) z1))), fr_mo (fr_tr (fr84 _ _ _ _) z2) (fun a k q => by omega)⟩
      rw [nI_ne (by omega) (by omega)]; omega
    · rw [if_neg hfo]
      have hno : ∀ q, q < s → h q ≠ cel i / w := by
        intro q hq
        have := f3 q (Nat.zero_le _) (by omega)
        simpa using this
      have hps : ffst (fun q => os q == cel i / w) s 0 = s := by
        refine ffst_un (Nat.zero_le _) (by omega) (fun j _ hj => ?_) (fun q => by omega)
        obtain ⟨q, hq, he⟩ := r3 j hj
        have := hno q hq
        rw [← (r1 q hq).2.1, he] at this
        simpa using this
      rw [hps] at head
      by_cases hsf : s < f
      · rw [if_pos hsf]
        obtain ⟨V', z1, z2⟩ := ih (i + 1) (s + 1) (ms + 1) _ _ _ _ _ (by omega) (by omega) (hC.fr (fr84 s s (nI (cel i / w)) (nI i))) (RLU_up (s' := s + 1) (pl := s) (t0 := s) (line := cel i / w) hR (by omega) (fun q hq hne => ⟨by omega, fun h5 => by have := (r1 q (by omega)).1; omega, hno q (by omega)⟩) (by omega) (by omega) (fun k hk hne => by
          obtain ⟨q, hq, he⟩ := r3 k (by omega)
          exact ⟨q, hq, by omega, he⟩)) (st83 (by omega) (by omega) (fun q hq hne => hh q (by omega)))
        have hle : ¬ nI f ≤ nI s := by rw [nI_le' (by omega) (by omega)]; omega
        refine ⟨V', head (wX12_misses_100 hK (nf rfl (bf hle (bf hle ?_)))), fr_mo (fr_tr (fr84 _ _ _ _) z2) (fun a k q => by omega)⟩
        rw [nI_1, nI_1]
        rw [← Nat.add_assoc]
        exact store (by omega) z1
      · rw [if_neg hsf]
        have hls : s - 1 < s := by omega
        have hlast := r1 (s - 1) hls
        have hoff := wX12_goesOff_0 hK (c12_off0 (G := G) (dd := dd) (n := n) (J := J) (O := O) (V := V) (x2 := nI w) (x3 := nI i) (us := us) hK (show s ≤ 8 by omega) (fun q hq => (hh q hq).2) hlast.1 (fun q hq hne => by
          obtain ⟨p, hp, he⟩ := r3 q hq
          have hp2 : p < s - 1 := by
            have : p ≠ s - 1 := fun h5 => hne (by rw [← he, h5])
            omega
          rw [← he]
          exact r2 p (s - 1) hp2 hls) (s - 1) 1 0 (by omega) (by omega) (by omega))
        obtain ⟨V', z1, z2⟩ := ih (i + 1) s (ms + 1) _ _ _ _ _ (by omega) (by omega) (hC.fr (fr84 (tau (s - 1)) (tau (s - 1)) (nI (cel i / w)) (nI i))) (RLU_up (s' := s) (pl := s - 1) (t0 := tau (s - 1)) (line := cel i / w) hR hls (fun q hq hne => ⟨hq, fun h5 => hne (tinj q (s - 1) hq hls h5), hno q hq⟩) hlast.1 (Nat.le_refl _) (fun k hk hne => by
          obtain ⟨q, hq, he⟩ := r3 k hk
          exact ⟨q, hq, fun h5 => hne (by rw [← he, h5]), he⟩)) (st83 (by omega) (by omega) (fun q hq _ => hh q hq))
        have hle : nI f ≤ nI s := by rw [nI_le' (by omega) (by omega)]; omega
        refine ⟨V', head (wX12_misses_100 hK (nf rfl (bt hle ⟨_, hoff, bt hle ?_⟩))), fr_mo (fr_tr (fr84 _ _ _ _) z2) (fun a k q => by omega)⟩
        rw [nI_a0, nI_1]
        rw [← Nat.add_assoc]
        exact store (by omega) z1
/-! the calls -/
theorem btw1_iff {x : Int32} {N : Nat} (hN : N < 100000) : btw 1 x (nI N) ↔ ∃ t, (1 ≤ t ∧ t ≤ N) ∧ x = nI t := by
  constructor
  · rintro ⟨h1, h2⟩
    obtain ⟨t, h3, rfl⟩ := (btw_iff (x := x) hN).mp ⟨Int32.le_trans (by decide) h1, h2⟩
    refine ⟨t, ⟨?_, h3⟩, rfl⟩
    rw [show (1 : Int32) = nI 1 from rfl, nI_le' (by decide) (by omega)] at h1
    exact h1
  · rintro ⟨t, h, rfl⟩
    exact ⟨nI_le (a := 1) h.1 (by omega), nI_le h.2 (by omega)⟩
theorem p_uncell (hK : StK K) (hc : cC nC cel V) (hm : mC' nC cel V) : ∃ (r : Int32) (V1 V2 : SV), Ev G dd mX11_uncell 0 [(0, .ref 0)] (K, n, V, J, O) (some (.int r)) (K, n, V1, J, O) ∧ Ev G dd mX12_uncell 0 [(0, .ref 57)] (K, n, V1, J, O) (some (.int r)) (K, n, V2, J, O) ∧ fr (fun a k => (a = 13 ∧ k = 1) ∨ (a = 57 ∧ k = 38)) V V2 ∧ cC 0 cel V2 ∧ mC' 0 cel V2 := by
  refine ⟨nI nC, up2 V 13 1 0, up2 (up2 V 13 1 0) 57 38 0, wX11_uncell_0 hK ⟨by rw [hc.2.1], rfl⟩, wX12_uncell_0 hK ⟨?_, rfl⟩, fr_up (fr_up fr_rfl (Or.inl ⟨rfl, rfl⟩)) (Or.inr ⟨rfl, rfl⟩), ⟨Nat.zero_le _, rfl, fun d hd => absurd hd (Nat.not_lt_zero _)⟩, ⟨Nat.zero_le _, rfl, fun d hd => absurd hd (Nat.not_lt_zero _)⟩⟩
  rw [up2_a (by decide), hm.2.1]
theorem p_cell (hK : StK K) (hc : cC nC cel V) (hm : mC' nC cel V) {x1 : Int32} : ∃ (r : Int32) (V1 V2 : SV) (nC' : Nat) (cel' : Nat → Nat), Ev G (dd + 2) mX11_cell 0 [(0, .ref 0), (1, .int x1)] (K, n, V, J, O) (some (.int r)) (K, n, V1, J, O) ∧ Ev G (dd + 2) mX12_cell 0 [(0, .ref 57), (1, .int x1)] (K, n, V1, J, O) (some (.int r)) (K, n, V2, J, O) ∧ fr (fun a k => (a = 13 ∧ k = 1) ∨ (a = 57 ∧ k = 38) ∨ a = 16 ∨ a = 82) V V2 ∧ cC nC' cel' V2 ∧ mC' nC' cel' V2 := by
  have h12 := hc.1
  by_cases h1 : ∃ c, c ≤ 99 ∧ x1 = nI c
  · obtain ⟨a, ha, rfl⟩ := h1
    have y1 : Ev G (dd + 1) mX11_isValue 0 [(0, .int (nI a))] (K, n, V, J, O) (some (.int 1)) (K, n, V, J, O) := ev_b (c11_isValue hK) ((btw_iff (N := 99) (by decide)).mpr ⟨a, ha, rfl⟩)
    have y2 : ∀ {V : SV}, Ev G (dd + 1) mX12_isValue 0 [(0, .int (nI a))] (K, n, V, J, O) (some (.int 1)) (K, n, V, J, O) := ev_b (c12_isValue hK) ((btw_iff (N := 99) (by decide)).mpr ⟨a, ha, rfl⟩)
    by_cases h0 : nC = 60
    · subst h0
      exact ⟨-3, V, V, 60, cel, wX11_cell_0 hK ⟨_, y1, nt one0 (bf (by rw [hc.2.1]; decide) ⟨rfl, rfl⟩)⟩, wX12_cell_0 hK ⟨_, y2, nt one0 (nf hm.2.1 ⟨rfl, rfl⟩)⟩, fr_rfl, hc, hm⟩
    · have hi := nI_v (a := nC) (N := 60) (by omega) (by omega)
      have e1 : nI nC < 60 := by rw [show (60 : Int32) = nI 60 from rfl, nI_l' (by omega) (by omega)]; omega
      have e2 : nI nC ≠ 60 := by rw [show (60 : Int32) = nI 60 from rfl, ne_eq, nI_e' (by omega) (by omega)]; omega
      refine ⟨nI (nC + 1), _, _, nC + 1, fun j => if j = nC then a else cel j, wX11_cell_0 hK ⟨_, y1, nt one0 (bt (by rw [hc.2.1]; exact e1) ⟨_, _, wX9_addCell_0 hK ⟨by rw [hc.2.1]; exact hi, by rw [hc.2.1, nI_1], rfl⟩, rfl, rfl⟩)⟩, wX12_cell_0 hK ⟨_, y2, nt one0 (nt ?_ ⟨?_, ?_, rfl⟩)⟩, fr_up (fr_up (fr_up (fr_up fr_rfl ?_) ?_) ?_) ?_, ?_, ?_⟩
      all_goals (try (simp only [up2, hc.2.1, hm.2.1, nI_c (show nC < 100000 by omega), nI_1, true_and, and_true, if_true, if_false, true_or, or_true, Nat.reduceEqDiff, false_and, and_false]))
      · exact e2
      · exact hi
      · refine ⟨by omega, by simp [up2], fun j hj => ?_⟩
        by_cases e : j = nC
        · subst e; simp [up2]; exact ha
        · have := hc.2.2 j (by omega)
          simpa [up2, e] using this
      · refine ⟨by omega, by simp [up2], fun j hj => ?_⟩
        by_cases e : j = nC
        · subst e; simp [up2]; exact ha
        · have := hm.2.2 j (by omega)
          simpa [up2, e] using this
  · exact ⟨-1, V, V, nC, cel, wX11_cell_0 hK ⟨_, ev_n (c11_isValue hK) (fun q => h1 ((btw_iff (N := 99) (by decide)).mp q)), nf rfl ⟨rfl, rfl⟩⟩, wX12_cell_0 hK ⟨_, ev_n (c12_isValue hK) (fun q => h1 ((btw_iff (N := 99) (by decide)).mp q)), nf rfl ⟨rfl, rfl⟩⟩, fr_rfl, hc, hm⟩
theorem p_misses (hK : StK K) (hc : cC nC cel V) (hm : mC' nC cel V) {x1 x2 x3 : Int32} : ∃ (r : Int32) (V1 V2 : SV), Ev G (dd + 3) mX11_misses 0 [(0, .ref 0), (1, .int x1), (2, .int x2), (3, .int x3)] (K, n, V, J, O) (some (.int r)) (K, n, V1, J, O) ∧ Ev G (dd + 3) mX12_misses 0 [(0, .ref 57), (1, .int x1), (2, .int x2), (3, .int x3)] (K, n, V1, J, O) (some (.int r)) (K, n, V2, J, O) ∧ fr (fun a _ => a = 17 ∨ a = 83 ∨ a = 84) V V2 := by
  have h60 := hc.1
  have w1 : ∀ {x : Int32}, Ev G (dd + 2) mX11_isWithin 0 [(0, .int x), (1, .int 1), (2, .int 8)] (K, n, V, J, O) (some (.int (bI (btw 1 x 8)))) (K, n, V, J, O) := c11_isWithin hK
  have w2 : ∀ {x : Int32} {V : SV}, Ev G (dd + 2) mX12_within 0 [(0, .long x.toInt64), (2, .long (1 : Int64)), (4, .long (8 : Int64))] (K, n, V, J, O) (some (.int (bI (btw 1 x 8)))) (K, n, V, J, O) := c12_wi hK (by decide) (by decide)
  by_cases h1 : btw 1 x1 8
  · by_cases h2 : btw 1 x2 8
    · by_cases h0 : nC = 0
      · subst h0
        refine ⟨-1, V, V, wX11_misses_0 hK ⟨_, ev_b w1 h1, bf one0 ⟨_, ev_b w1 h2, bf one0 (nf hc.2.1 ⟨rfl, rfl⟩)⟩⟩, wX12_misses_0 hK ⟨_, ev_b w2 h1, bf one0 ⟨_, ev_b w2 h2, bf one0 ?_⟩⟩, fr_rfl⟩
        by_cases h3 : ∃ k, k ≤ 1 ∧ x3 = nI k
        · obtain ⟨k, hk, rfl⟩ := h3
          exact ⟨_, m_wi (N := 1) hK (by decide) (by decide) hk, bf one0 (nf hm.2.1 ⟨rfl, rfl⟩)⟩
        · exact ⟨_, m_win (N := 1) hK (by decide) (by decide) h3, bt rfl ⟨rfl, rfl⟩⟩
      · have n1 : V 13 1 ≠ 0 := by rw [hc.2.1]; exact nI_ne0 (by omega) (by omega)
        have n2 : V 57 38 ≠ 0 := by rw [hm.2.1]; exact nI_ne0 (by omega) (by omega)
        by_cases h3 : ∃ k, k ≤ 1 ∧ x3 = nI k
        · obtain ⟨k, hk, rfl⟩ := h3
          obtain ⟨w, hw, rfl⟩ := (btw1_iff (N := 8) (by decide)).mp h1
          obtain ⟨f, hf, rfl⟩ := (btw1_iff (N := 8) (by decide)).mp h2
          have hm1 : ∀ {V1 : SV}, fr (fun a _ => a = 17) V V1 → mC' nC cel V1 := fun hfr => ⟨h60, by rw [hfr 57 38 (by simp)]; exact hm.2.1, fun i hi => by rw [hfr 82 i (by simp)]; exact hm.2.2 i hi⟩
          rcases (show k = 0 ∨ k = 1 by omega) with rfl | rfl
          · obtain ⟨V1, z1, z2⟩ := c9_lru (G := G) (dd := dd + 1) (n := n) (J := J) (O := O) (cel := cel) hK hw hf nC 0 0 0 (fun _ => 0) V (by omega) (by omega) hc (fun q hq => absurd hq (Nat.not_lt_zero _))
            obtain ⟨V2, z3, z4⟩ := c12_lru (G := G) (dd := dd + 1) (n := n) (J := J) (O := O) (cel := cel) hK hw hf nC 0 0 0 (fun _ => 0) (fun _ => 0) (fun _ => 0) (fun _ => 0) V1 (by omega) (by omega) (hm1 z2) ⟨fun p hp => absurd hp (Nat.not_lt_zero _), fun p p' _ hp => absurd hp (Nat.not_lt_zero _), fun p hp => absurd hp (Nat.not_lt_zero _), fun p p' hp => absurd hp (Nat.not_lt_zero _)⟩ (fun q hq => absurd hq (Nat.not_lt_zero _))
            refine ⟨_, V1, V2, wX11_misses_0 hK ⟨_, ev_b w1 h1, bf one0 ⟨_, ev_b w1 h2, bf one0 (nt n1 ⟨fun _ => ⟨_, _, wX9_missesByUsed_0 hK z1, rfl, rfl⟩, fun q => absurd q (by decide), fun q => absurd rfl q.1⟩)⟩⟩, wX12_misses_0 hK ⟨_, ev_b w2 h1, bf one0 ⟨_, ev_b w2 h2, bf one0 ⟨_, m_wi (N := 1) hK (by decide) (by decide) hk, bf one0 (nt ?_ z3)⟩⟩⟩, fr_mo (fr_tr z2 z4) (fun a k q => by omega)⟩
            rw [z2 57 38 (by simp)]; exact n2
          · obtain ⟨V1, z1, z2⟩ := c9_opt (G := G) (dd := dd) (n := n) (J := J) (O := O) (cel := cel) hK hw hf nC 0 0 0 (fun _ => 0) V (by omega) (by omega) hc (fun q hq => absurd hq (Nat.not_lt_zero _))
            obtain ⟨V2, z3, z4⟩ := c12_opt (G := G) (dd := dd + 1) (n := n) (J := J) (O := O) (cel := cel) hK hw hf nC 0 0 0 (fun _ => 0) V1 (by omega) (by omega) (hm1 z2) (fun q hq => absurd hq (Nat.not_lt_zero _))
            refine ⟨_, V1, V2, wX11_misses_0 hK ⟨_, ev_b w1 h1, bf one0 ⟨_, ev_b w1 h2, bf one0 (nt n1 ⟨fun q => absurd q (by decide), fun _ => ⟨_, _, wX9_missesByComing_0 hK z1, rfl, rfl⟩, fun q => absurd rfl q.2⟩)⟩⟩, wX12_misses_0 hK ⟨_, ev_b w2 h1, bf one0 ⟨_, ev_b w2 h2, bf one0 ⟨_, m_wi (N := 1) hK (by decide) (by decide) hk, bf one0 (nt ?_ z3)⟩⟩⟩, fr_mo (fr_tr z2 z4) (fun a k q => by omega)⟩
            rw [z2 57 38 (by simp)]; exact n2
        · exact ⟨-1, V, V, wX11_misses_0 hK ⟨_, ev_b w1 h1, bf one0 ⟨_, ev_b w1 h2, bf one0 (nt n1 ⟨fun q => absurd ⟨0, by decide, q⟩ h3, fun q => absurd ⟨1, by decide, q⟩ h3, fun _ => ⟨rfl, rfl⟩⟩)⟩⟩, wX12_misses_0 hK ⟨_, ev_b w2 h1, bf one0 ⟨_, ev_b w2 h2, bf one0 ⟨_, m_win (N := 1) hK (by decide) (by decide) h3, bt rfl ⟨rfl, rfl⟩⟩⟩⟩, fr_rfl⟩
    · exact ⟨-1, V, V, wX11_misses_0 hK ⟨_, ev_b w1 h1, bf one0 ⟨_, ev_n w1 h2, bt rfl ⟨rfl, rfl⟩⟩⟩, wX12_misses_0 hK ⟨_, ev_b w2 h1, bf one0 ⟨_, ev_n w2 h2, bt rfl ⟨rfl, rfl⟩⟩⟩, fr_rfl⟩
  · exact ⟨-1, V, V, wX11_misses_0 hK ⟨_, ev_n w1 h1, bt rfl ⟨rfl, rfl⟩⟩, wX12_misses_0 hK ⟨_, ev_n w2 h1, bt rfl ⟨rfl, rfl⟩⟩, fr_rfl⟩
end
