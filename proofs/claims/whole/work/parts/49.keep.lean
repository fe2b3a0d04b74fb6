section
variable {G : Gp} {d : Nat} {K : SK} {n : Nat × Nat} {V V' : SV} {J : SJV} {O : SO} {r : Option Value}
variable {nS nT nG t : Nat} {ad kd ky : Nat → Nat} {fl fl' : Nat → Nat → Nat} {ins : Nat → Bool} {wt : Nat → Nat} {x : Nat → SX} {un : Nat → Bool} {mo : Nat → Option Nat}
theorem SCi_c {i : Nat} {y : SX} {S : Nat → Prop} (h : SCi ad kd ky fl K O V i y) (hf : ∀ f u, S u → fl' f u = fl f u) (hg : gI (kd i) (fl (ky i)) S y.1) : SCi ad kd ky fl' K O V i y := ⟨h.1, h.2.1, CR_c h.1.1.2.1 (fun u hu => hf _ u hu) hg h.2.2.1, h.2.2.2⟩
theorem LW_fr {a b : Nat} (h : LW un mo (V a) (V b)) (ha : ∀ k, V' a k = V a k) (hb : ∀ k, V' b k = V b k) : LW un mo (V' a) (V' b) := fun f hf => by
  rw [ha, hb]
  exact h f hf
theorem fl4_lt {a b c e f : Nat} (ha : a ≤ 99) (hb : b ≤ 99) (hcc : c ≤ 99) (he : e ≤ 99) : fl4 fl nT a b c e f nT < 100 := by
  unfold fl4
  rw [if_pos rfl]
  split
  · omega
  · split
    · omega
    · split <;> omega
theorem fl4_o {a b c e f u : Nat} (h : u ≠ nT) : fl4 fl nT a b c e f u = fl f u := if_neg h
theorem p_put (hK : StK K) (hc : cT nT nG fl ins wt V) (hm : mT nT fl ins V) (hL : LW un mo (V 2) (V 3)) (hM : LW un mo (V 60) (V 61)) (hG : cn ins nT + nG = nT) (hS : StR nS nT ad kd ky fl ins K O x V) {x1 x2 x3 x4 : Int32} : ∃ (r : Int32) (V1 V2 : SV) (nT' : Nat) (fl' : Nat → Nat → Nat) (ins' : Nat → Bool) (x' : Nat → SX), Ev G (d + 7) mX11_put 0 [(0, .ref 0), (1, .int x1), (2, .int x2), (3, .int x3), (4, .int x4)] (K, n, V, J, O) (some (.int r)) (K, n, V1, J, O) ∧ Ev G (d + 7) mX12_put 0 [(0, .ref 57), (1, .int x1), (2, .int x2), (3, .int x3), (4, .int x4)] (K, n, V1, J, O) (some (.int r)) (K, n, V2, J, O) ∧ fr (frK nS ad kd) V V2 ∧ cT nT' nG fl' ins' wt V2 ∧ mT nT' fl' ins' V2 ∧ cn ins' nT' + nG = nT' ∧ kpS nT nG ins wt nT' nG ins' wt ∧ StR nS nT' ad kd ky fl' ins' K O x' V2 := by
  have h80 := hc.1.1
  have iv : ∀ {k : Nat}, k ≤ 99 → Ev G (d + 6) mX11_isValue 0 [(0, .int (nI k))] (K, n, V, J, O) (some (.int 1)) (K, n, V, J, O) := fun {k} h => ev_b (c11_isValue hK) ((btw_iff (N := 99) (by decide)).mpr ⟨k, h, rfl⟩)
  have ivm : ∀ {k : Nat}, k ≤ 99 → Ev G (d + 6) mX12_isValue 0 [(0, .int (nI k))] (K, n, V, J, O) (some (.int 1)) (K, n, V, J, O) := fun {k} h => ev_b (c12_isValue hK) ((btw_iff (N := 99) (by decide)).mpr ⟨k, h, rfl⟩)
  have nv : ∀ {x : Int32}, (¬ ∃ k, k ≤ 99 ∧ x = nI k) → Ev G (d + 6) mX11_isValue 0 [(0, .int x)] (K, n, V, J, O) (some (.int 0)) (K, n, V, J, O) := fun {x} h => ev_n (c11_isValue hK) (fun q => h ((btw_iff (N := 99) (by decide)).mp q))
  have nvm : ∀ {x : Int32}, (¬ ∃ k, k ≤ 99 ∧ x = nI k) → Ev G (d + 6) mX12_isValue 0 [(0, .int x)] (K, n, V, J, O) (some (.int 0)) (K, n, V, J, O) := fun {x} h => ev_n (c12_isValue hK) (fun q => h ((btw_iff (N := 99) (by decide)).mp q))
  by_cases h1 : ¬ ∃ k, k ≤ 99 ∧ x1 = nI k
  · exact ⟨-1, V, V, nT, fl, ins, x, wX11_put_0 hK ⟨_, nv h1, bt rfl ⟨rfl, rfl⟩⟩, wX12_put_0 hK ⟨_, nvm h1, bt rfl ⟨rfl, rfl⟩⟩, fr_rfl, hc, hm, hG, kpS_rfl, hS⟩
  rw [Classical.not_not] at h1
  obtain ⟨a, ha, rfl⟩ := h1
  by_cases h2 : ¬ ∃ k, k ≤ 99 ∧ x2 = nI k
  · exact ⟨-1, V, V, nT, fl, ins, x, wX11_put_0 hK ⟨_, iv ha, bf one0 ⟨_, nv h2, bt rfl ⟨rfl, rfl⟩⟩⟩, wX12_put_0 hK ⟨_, ivm ha, bf one0 ⟨_, nvm h2, bt rfl ⟨rfl, rfl⟩⟩⟩, fr_rfl, hc, hm, hG, kpS_rfl, hS⟩
  rw [Classical.not_not] at h2
  obtain ⟨b, hb, rfl⟩ := h2
  by_cases h3 : ¬ ∃ k, k ≤ 99 ∧ x3 = nI k
  · exact ⟨-1, V, V, nT, fl, ins, x, wX11_put_0 hK ⟨_, iv ha, bf one0 ⟨_, iv hb, bf one0 ⟨_, nv h3, bt rfl ⟨rfl, rfl⟩⟩⟩⟩, wX12_put_0 hK ⟨_, ivm ha, bf one0 ⟨_, ivm hb, bf one0 ⟨_, nvm h3, bt rfl ⟨rfl, rfl⟩⟩⟩⟩, fr_rfl, hc, hm, hG, kpS_rfl, hS⟩
  rw [Classical.not_not] at h3
  obtain ⟨c, hcc, rfl⟩ := h3
  by_cases h4 : ¬ ∃ k, k ≤ 99 ∧ x4 = nI k
  · exact ⟨-1, V, V, nT, fl, ins, x, wX11_put_0 hK ⟨_, iv ha, bf one0 ⟨_, iv hb, bf one0 ⟨_, iv hcc, bf one0 ⟨_, nv h4, nf rfl ⟨rfl, rfl⟩⟩⟩⟩⟩, wX12_put_0 hK ⟨_, ivm ha, bf one0 ⟨_, ivm hb, bf one0 ⟨_, ivm hcc, bf one0 ⟨_, nvm h4, nf rfl ⟨rfl, rfl⟩⟩⟩⟩⟩, fr_rfl, hc, hm, hG, kpS_rfl, hS⟩
  rw [Classical.not_not] at h4
  obtain ⟨e, he, rfl⟩ := h4
  by_cases hbk : (brk nT fl ins un mo 0 a || brk nT fl ins un mo 1 b || brk nT fl ins un mo 2 c || brk nT fl ins un mo 3 e) = true
  · exact ⟨-5, V, V, nT, fl, ins, x, c11_putE hK hc hL ha hb hcc he (by rw [if_pos hbk]; exact ⟨rfl, rfl⟩), c12_putE hK hm hM ha hb hcc he h80 (by rw [if_pos hbk]; exact ⟨rfl, rfl⟩), fr_rfl, hc, hm, hG, kpS_rfl, hS⟩
  by_cases hT : ¬ nT < 80
  · exact ⟨-3, V, V, nT, fl, ins, x, c11_putE hK hc hL ha hb hcc he (by rw [if_neg hbk]; exact bf (by rw [hc.2.1]; show ¬ nI nT < nI 80; rw [nI_l' (by omega) (by omega)]; exact hT) ⟨rfl, rfl⟩), c12_putE hK hm hM ha hb hcc he h80 (by rw [if_neg hbk]; exact bf hT ⟨rfl, rfl⟩), fr_rfl, hc, hm, hG, kpS_rfl, hS⟩
  rw [Classical.not_not] at hT
  obtain ⟨⟨s1, s2, s3, s4⟩, s5, s6, s7⟩ := hS
  have h96 : ∀ i, i < nS → 96 ≤ ad i := fun i hi => (s5 i hi).1.1.1
  have hfl : ∀ f u, inS nT ins u → fl4 fl nT a b c e f u = fl f u := fun f u hu => fl4_o (by have := hu.1; omega)
  have hlt : ∀ f, fl4 fl nT a b c e f nT < 100 := fun f => fl4_lt ha hb hcc he
  have hch : ∀ i, ∃ p : GS × Nat, i < nS → (∃ M, vt5_38 (kc (kd i)) = some M ∧ ∀ d, stC (sz (kd i)) G (d + 5) K M (ad i) (ky i) (nT + 1) (fl4 fl nT a b c e (ky i)) nT (CR (kd i) (ad i) (fl4 fl nT a b c e (ky i)) (x i).1) (CR (kd i) (ad i) (fl4 fl nT a b c e (ky i)) p.1) p.2) ∧ (∀ d, stM G (d + 5) K mX12_putIn (kd i) i (ky i) (nT + 1) (fl4 fl nT a b c e (ky i)) nT (MR (kd i) i (x i).1) (MR (kd i) i p.1) p.2) ∧ gI (kd i) (fl4 fl nT a b c e (ky i)) (inS (nT + 1) (insT ins nT true)) p.1 := by
    intro i
    by_cases hiS : i < nS
    · obtain ⟨⟨⟨h96, hkd, hky⟩, hO, hIs⟩, -⟩ := s5 i hiS
      obtain ⟨g', cc, M, q1, q2, q3, q4⟩ := put_any (G := G) (s := i) hK hkd hIs h96 (by omega) (gI_c hkd (fun u hu => hfl (ky i) u hu) (s7 i hiS)) (nT := nT + 1) (fun u hu => by have := hu.1; omega) (t := nT) (by omega) (fun q => by have := q.1; omega) (by omega)
      rw [inS_in] at q2
      exact ⟨(g', cc), fun _ => ⟨⟨M, q1, q3⟩, q4, q2⟩⟩
    · exact ⟨((x i).1, 0), fun h => absurd h hiS⟩
  obtain ⟨f, hf⟩ := Classical.axiomOfChoice hch
  -- the class
  have hadd := c8_add (G := G) (d := d + 6) (K := K) (n := n) (V := V) (J := J) (O := O) (x1 := nI a) (x2 := nI b) (x3 := nI c) (x4 := nI e) hK hc.2.1 hT
  have fA : fr (fun a k => (5 ≤ a ∧ a ≤ 9) ∨ (a = 1 ∧ k = 2)) V (up2 (up2 (up2 (up2 (up2 (up2 V 5 nT (nI a)) 6 nT (nI b)) 7 nT (nI c)) 8 nT (nI e)) 9 nT 1000) 1 2 (nI (nT + 1))) := fr_up (fr_up (fr_up (fr_up (fr_up (fr_up fr_rfl (Or.inl (by omega))) (Or.inl (by omega))) (Or.inl (by omega))) (Or.inl (by omega))) (Or.inl (by omega))) (Or.inr ⟨rfl, rfl⟩)
  have hc1 : cT (nT + 1) nG (fl4 fl nT a b c e) (insT ins nT true) wt (up2 (up2 (up2 (up2 (up2 (up2 V 5 nT (nI a)) 6 nT (nI b)) 7 nT (nI c)) 8 nT (nI e)) 9 nT 1000) 1 2 (nI (nT + 1))) := by
    refine ⟨⟨by omega, by have := hc.1.2; omega⟩, up2_s, by rw [fA 1 6 (by omega)]; exact hc.2.2.1, fun f u hf hu => ?_, fun u hu => ?_⟩
    · by_cases eu : u = nT
      · subst eu
        refine ⟨?_, hlt f⟩
        unfold fl4
        rw [if_pos rfl]
        rcases (show f = 0 ∨ f = 1 ∨ f = 2 ∨ f = 3 by omega) with rfl | rfl | rfl | rfl
        · rw [up2_a (by omega), up2_a (by omega), up2_a (by omega), up2_a (by omega), up2_a (by omega)]
          exact up2_s
        · rw [up2_a (by omega), up2_a (by omega), up2_a (by omega), up2_a (by omega)]
          exact up2_s
        · rw [up2_a (by omega), up2_a (by omega), up2_a (by omega)]
          exact up2_s
        · rw [up2_a (by omega), up2_a (by omega)]
          exact up2_s
      · rw [fl4_o eu, up2_a (by omega), up2_a (by omega)]
        have hu2 : u < nT := by omega
        have := hc.2.2.2.1 f u hf hu2
        have hne : ∀ (W : SV) (q : Nat) (y : Int32), up2 W q nT y (4 + 1 + f) u = W (4 + 1 + f) u := fun W q y => by
          by_cases eq : 4 + 1 + f = q
          · rw [← eq, up2_k eu]
          · rw [up2_a eq]
        rw [hne, hne, hne, hne]
        exact this
    · by_cases eu : u = nT
      · left
        subst eu
        exact ⟨if_pos rfl, by rw [up2_a (by omega), up2_s]⟩
      · have h2 := hc.2.2.2.2 u (by omega)
        rw [show insT ins nT true u = ins u from if_neg eu, up2_a (by decide), up2_k eu, up2_a (by decide), up2_a (by decide), up2_a (by decide), up2_a (by decide)]
        exact h2
  generalize hVA : up2 (up2 (up2 (up2 (up2 (up2 V 5 nT (nI a)) 6 nT (nI b)) 7 nT (nI c)) 8 nT (nI e)) 9 nT 1000) 1 2 (nI (nT + 1)) = VA at fA hc1 hadd
  obtain ⟨V1, z1, z2, z3⟩ := c11_put115 (G := G) (d := d) (K := K) (n := n) (J := J) (O := O) (nT := nT + 1) (t := nT) (x := x) (gg := fun i => (f i).1) (cc := fun i => (f i).2) (x1 := nI a) (x2 := nI b) (x3 := nI c) (x4 := nI e) hK s2 s1 (fun i hiS => let ⟨M, q1, q2⟩ := (hf i hiS).1; ⟨M, q1, q2 d⟩) nS 0 VA (by omega) (by rw [fA 0 7 (by omega)]; exact s3) (cT_cKe hc1) (fun j hj => by rw [if_neg (by omega)]; exact SCi_o (SCi_c (s5 j hj) hfl (s7 j hj)) (fr_mo fA (fun a k q => by omega)))
  have z3' : fr (fun a _ => 96 ≤ a) VA V1 := fr_mo z3 (fun a k q => frS_lo h96 q)
  have fB : fr (fun a k => (5 ≤ a ∧ a ≤ 9) ∨ (a = 1 ∧ k = 2) ∨ 96 ≤ a) V V1 := fr_mo (fr_tr fA z3') (fun a k q => by omega)
  -- the reference
  have m1 : mT nT fl ins V1 := ⟨hm.1, by rw [fB _ _ (by omega)]; exact hm.2.1, fun f t hf ht => by rw [fB _ _ (by omega)]; exact hm.2.2.1 f t hf ht, fun t ht => by rw [fB _ _ (by omega)]; exact hm.2.2.2 t ht⟩
  have M1 : LW un mo (V1 60) (V1 61) := LW_fr hM (fun k => fB _ _ (by omega)) (fun k => fB _ _ (by omega))
  have fC : fr (fun a k => a = 58 ∨ a = 59 ∨ (a = 57 ∧ k = 2)) V1 (up2 (up2 (up2 (up2 (up2 (up2 V1 58 (4 * nT) (nI a)) 58 (4 * nT + 1) (nI b)) 58 (4 * nT + 2) (nI c)) 58 (4 * nT + 3) (nI e)) 59 nT 1) 57 2 (nI (nT + 1))) := fr_up (fr_up (fr_up (fr_up (fr_up (fr_up fr_rfl (Or.inl rfl)) (Or.inl rfl)) (Or.inl rfl)) (Or.inl rfl)) (Or.inr (Or.inl rfl))) (Or.inr (Or.inr ⟨rfl, rfl⟩))
  have m2 : mT (nT + 1) (fl4 fl nT a b c e) (insT ins nT true) (up2 (up2 (up2 (up2 (up2 (up2 V1 58 (4 * nT) (nI a)) 58 (4 * nT + 1) (nI b)) 58 (4 * nT + 2) (nI c)) 58 (4 * nT + 3) (nI e)) 59 nT 1) 57 2 (nI (nT + 1))) := by
    refine ⟨by omega, up2_s, fun f u hf hu => ?_, fun u hu => ?_⟩
    · rw [up2_a (by omega), up2_a (by omega)]
      by_cases eu : u = nT
      · subst eu
        refine ⟨?_, hlt f⟩
        unfold fl4
        rw [if_pos rfl]
        rcases (show f = 0 ∨ f = 1 ∨ f = 2 ∨ f = 3 by omega) with rfl | rfl | rfl | rfl
        · rw [up2_k (by omega), up2_k (by omega), up2_k (by omega)]
          exact up2_s
        · rw [up2_k (by omega), up2_k (by omega)]
          exact up2_s
        · rw [up2_k (by omega)]
          exact up2_s
        · exact up2_s
      · rw [fl4_o eu, up2_k (by omega), up2_k (by omega), up2_k (by omega), up2_k (by omega)]
        exact m1.2.2.1 f u hf (by omega)
    · rw [up2_a (by omega)]
      by_cases eu : u = nT
      · subst eu
        rw [up2_s, show insT ins u true u = true from if_pos rfl]
        rfl
      · rw [show insT ins nT true u = ins u from if_neg eu, up2_k eu, up2_a (by omega), up2_a (by omega), up2_a (by omega), up2_a (by omega)]
        exact m1.2.2.2 u (by omega)
  have hmE := fun V2 h => c12_putE (G := G) (d := d) (K := K) (n := n) (J := J) (O := O) (r := some (.int (nI nT))) (V' := V2) hK m1 M1 ha hb hcc he h80 h
  generalize hVB : up2 (up2 (up2 (up2 (up2 (up2 V1 58 (4 * nT) (nI a)) 58 (4 * nT + 1) (nI b)) 58 (4 * nT + 2) (nI c)) 58 (4 * nT + 3) (nI e)) 59 nT 1) 57 2 (nI (nT + 1)) = VB at fC m2 hmE
  obtain ⟨V2, y1, y2, y3⟩ := c12_put161 (G := G) (d := d + 1) (K := K) (n := n) (J := J) (O := O) (nS := nS) (nT := nT + 1) (kd := kd) (ky := ky) (fl := fl4 fl nT a b c e) (t := nT) (N := nT + 1) (x := x) (gg := fun i => (f i).1) (cc := fun i => (f i).2) (x1 := nI a) (x2 := nI b) (x3 := nI c) (x4 := nI e) hK s1 (by omega) ⟨by omega, by omega, by omega⟩ (fun i hiS => (hf i hiS).2.1 (d + 1)) nS 0 VB (by omega) (by rw [fC 57 25 (by omega), fB 57 25 (by omega)]; exact s4) m2.2.1 m2.2.2.1 (fun j hj => by rw [if_neg (by omega)]; exact SMi_o (SMi_o (s6 j hj) (fr_mo fB (fun a k q => by omega))) (fr_mo fC (fun a k q => by omega)))
  refine ⟨nI nT, V1, V2, nT + 1, fl4 fl nT a b c e, insT ins nT true, fun i => stx (x i) (f i).1 (f i).2, ?_, ?_, ?_, ?_, ?_, ?_, kpS_in, ⟨s1, s2, ?_, ?_⟩, ?_, y2, fun i hiS => (hf i hiS).2.2⟩
  · refine c11_putE hK hc hL ha hb hcc he ?_
    rw [if_neg hbk]
    refine bt ?_ ⟨nI nT, VA, hadd, z1⟩
    rw [hc.2.1]
    show nI nT < nI 80
    rw [nI_l' (by omega) (by omega)]
    exact hT
  · refine hmE V2 ?_
    rw [if_neg hbk]
    exact bt hT y1
  · exact fr_mo (fr_tr (fr_tr (fr_tr fA z3) fC) y3) (fun a k q => by
      unfold frK
      rcases q with ((q | q) | q) | q
      · omega
      · exact Or.inr (Or.inr (Or.inr (Or.inr (Or.inr (Or.inl q)))))
      · omega
      · exact Or.inr (Or.inr (Or.inr (Or.inr (Or.inr (Or.inr q))))))
  · have fE : fr (fun a k => 57 ≤ a) VA V2 := fr_mo (fr_tr (fr_tr z3' fC) y3) (fun a k q => by unfold frQ at q; omega)
    exact ⟨hc1.1, by rw [fE _ _ (by omega)]; exact hc1.2.1, by rw [fE _ _ (by omega)]; exact hc1.2.2.1, fun f t hf ht => by rw [fE _ _ (by omega)]; exact hc1.2.2.2.1 f t hf ht, fun t ht => by rw [fE _ _ (by omega)]; exact hc1.2.2.2.2 t ht⟩
  · exact ⟨m2.1, by rw [y3 _ _ (by unfold frQ; omega)]; exact m2.2.1, fun f t hf ht => by rw [y3 _ _ (by unfold frQ; omega)]; exact m2.2.2.1 f t hf ht, fun t ht => by rw [y3 _ _ (by unfold frQ; omega)]; exact m2.2.2.2 t ht⟩
  · rw [cn_in]
    omega
  · rw [y3 0 7 (by unfold frQ; omega), fC 0 7 (by omega), z3' 0 7 (by omega), fA 0 7 (by omega)]
    exact s3
  · rw [y3 57 25 (by unfold frQ; omega), fC 57 25 (by omega), fB 57 25 (by omega)]
    exact s4
  · intro i hiS
    have h9 := h96 i hiS
    exact SCi_fr (z2 i hiS) (fr_mo (fr_tr fC y3) (fun a k q => by unfold frQ at q; omega))
end
