/-! ===== take and put, as a whole ===== -/
def cn (p : Nat → Bool) : Nat → Nat
  | 0 => 0
  | k + 1 => cn p k + (if p k = true then 1 else 0)
theorem cn_le {p : Nat → Bool} : ∀ {k : Nat}, cn p k ≤ k
  | 0 => Nat.le_refl _
  | k + 1 => by
    have := cn_le (p := p) (k := k)
    unfold cn
    split <;> omega
theorem cn_eq {p q : Nat → Bool} : ∀ {k : Nat}, (∀ u, u < k → p u = q u) → cn p k = cn q k
  | 0, _ => rfl
  | k + 1, h => by
    unfold cn
    rw [cn_eq (fun u hu => h u (by omega)), h k (by omega)]
def insT (ins : Nat → Bool) (t : Nat) (v : Bool) : Nat → Bool := fun u => if u = t then v else ins u
/-- how what is in the keep may change: things come, and go, and none comes back -/
def kpS (nT nG : Nat) (ins : Nat → Bool) (wt : Nat → Nat) (nT' nG' : Nat) (ins' : Nat → Bool) (wt' : Nat → Nat) : Prop := (nT ≤ nT' ∧ nG ≤ nG') ∧ ∀ t, t < nT → (ins' t = ins t ∧ wt' t = wt t) ∨ (ins t = true ∧ ins' t = false ∧ nG ≤ wt' t)
theorem kpS_rfl {nT nG : Nat} {ins : Nat → Bool} {wt : Nat → Nat} : kpS nT nG ins wt nT nG ins wt := ⟨⟨Nat.le_refl _, Nat.le_refl _⟩, fun _ _ => Or.inl ⟨rfl, rfl⟩⟩
theorem kpS_tr {a b a1 b1 a2 b2 : Nat} {p p1 p2 : Nat → Bool} {w w1 w2 : Nat → Nat} (h : kpS a b p w a1 b1 p1 w1) (k : kpS a1 b1 p1 w1 a2 b2 p2 w2) : kpS a b p w a2 b2 p2 w2 := by
  refine ⟨⟨Nat.le_trans h.1.1 k.1.1, Nat.le_trans h.1.2 k.1.2⟩, fun t ht => ?_⟩
  rcases h.2 t ht with ⟨e1, e2⟩ | ⟨e1, e2, e3⟩
  · rcases k.2 t (Nat.lt_of_lt_of_le ht h.1.1) with ⟨g1, g2⟩ | ⟨g1, g2, g3⟩
    · exact Or.inl ⟨g1.trans e1, g2.trans e2⟩
    · exact Or.inr ⟨e1 ▸ g1, g2, Nat.le_trans h.1.2 g3⟩
  · rcases k.2 t (Nat.lt_of_lt_of_le ht h.1.1) with ⟨g1, g2⟩ | ⟨g1, g2, g3⟩
    · exact Or.inr ⟨e1, g1.trans e2, g2 ▸ e3⟩
    · rw [e2] at g1
      cases g1
theorem kpS_out {nT nG t : Nat} {ins : Nat → Bool} {wt : Nat → Nat} (h : ins t = true) : kpS nT nG ins wt nT (nG + 1) (insT ins t false) (fun u => if u = t then nG else wt u) := by
  refine ⟨⟨Nat.le_refl _, Nat.le_succ _⟩, fun u hu => ?_⟩
  by_cases e : u = t
  · subst e
    refine Or.inr ⟨h, if_pos rfl, ?_⟩
    show nG ≤ if u = u then nG else wt u
    rw [if_pos rfl]
    exact Nat.le_refl _
  · exact Or.inl ⟨if_neg e, if_neg e⟩
theorem kpS_in {nT nG : Nat} {ins : Nat → Bool} {wt : Nat → Nat} : kpS nT nG ins wt (nT + 1) nG (insT ins nT true) wt := ⟨⟨Nat.le_succ _, Nat.le_refl _⟩, fun u hu => Or.inl ⟨if_neg (Nat.ne_of_lt hu), rfl⟩⟩
theorem cn_out {p : Nat → Bool} {t : Nat} (hp : p t = true) : ∀ {k : Nat}, t < k → cn (insT p t false) k + 1 = cn p k
  | 0, h => by omega
  | k + 1, h => by
    unfold cn
    by_cases e : t = k
    · subst e
      rw [cn_eq (p := insT p t false) (q := p) (fun u hu => by unfold insT; rw [if_neg (by omega)]), if_pos hp]
      unfold insT
      rw [if_pos rfl]
      simp
    · have := cn_out hp (k := k) (by omega)
      have e2 : insT p t false k = p k := by
        unfold insT
        rw [if_neg (fun q => e q.symm)]
      rw [e2]
      omega
def inS (nT : Nat) (ins : Nat → Bool) : Nat → Prop := fun t => t < nT ∧ ins t = true
theorem inS_out {nT t : Nat} {ins : Nat → Bool} : (fun u => u ≠ t ∧ inS nT ins u) = inS nT (insT ins t false) := by
  funext u
  unfold inS insT
  apply propext
  by_cases e : u = t
  · simp [e]
  · simp [e]
/-- the stones of both, with what they hold -/
def StR (nS nT : Nat) (ad kd ky : Nat → Nat) (fl : Nat → Nat → Nat) (ins : Nat → Bool) (K : SK) (O : SO) (x : Nat → SX) (V : SV) : Prop := (nS ≤ 10 ∧ SD nS ad kd ∧ V 0 7 = nI nS ∧ V 57 25 = nI nS) ∧ (∀ i, i < nS → SCi ad kd ky fl K O V i (x i)) ∧ (∀ i, i < nS → SMi kd ky V i (x i)) ∧ ∀ i, i < nS → gI (kd i) (fl (ky i)) (inS nT ins) (x i).1
def frK (nS : Nat) (ad kd : Nat → Nat) : Nat → Nat → Prop := fun a k => (5 ≤ a ∧ a ≤ 9) ∨ (a = 1 ∧ (k = 2 ∨ k = 6)) ∨ a = 58 ∨ a = 59 ∨ (a = 57 ∧ k = 2) ∨ frS nS ad kd a k ∨ frQ nS a k
section
variable {G : Gp} {d : Nat} {K : SK} {n : Nat × Nat} {V V' : SV} {J : SJV} {O : SO}
variable {nS nT nG t : Nat} {ad kd ky : Nat → Nat} {fl : Nat → Nat → Nat} {ins : Nat → Bool} {wt : Nat → Nat} {x : Nat → SX} {un : Nat → Bool} {mo : Nat → Option Nat}
theorem SMi_o {i : Nat} {y : SX} (h : SMi kd ky V i y) (hf : fr (fun a _ => a < 70 ∨ 80 ≤ a) V V') : SMi kd ky V' i y := by
  obtain ⟨h1, h2, h3, h4, h5⟩ := h
  exact ⟨h1, ⟨by rw [hf _ _ (by omega)]; exact h2.1, by rw [hf _ _ (by omega)]; exact h2.2⟩, MR_fr h1.1 h3 (fr_mo hf (fun a k q => by omega)), by rw [hf _ _ (by omega)]; exact h4, by rw [hf _ _ (by omega)]; exact h5⟩
theorem SCi_o {i : Nat} {y : SX} (h : SCi ad kd ky fl K O V i y) (hf : fr (fun a _ => a < 96) V V') : SCi ad kd ky fl K O V' i y := SCi_fr h (fr_mo hf (fun a k q => by have := h.1.1.1; omega))
theorem cT_cKe (h : cT nT nG fl ins wt V) : ∀ y, y < 4 → cKe y nT (fl y) V := fun y hy => ⟨hy, h.1.1, fun t ht => h.2.2.2.1 y t hy ht⟩
theorem frS_lo {a k : Nat} (h96 : ∀ i, i < nS → 96 ≤ ad i) (h : frS nS ad kd a k) : 96 ≤ a := by
  obtain ⟨i, hi, q⟩ := h
  have := h96 i hi
  unfold frE at q
  omega
theorem p_take (hK : StK K) (hc : cT nT nG fl ins wt V) (hm : mT nT fl ins V) (hG : cn ins nT + nG = nT) (hS : StR nS nT ad kd ky fl ins K O x V) {x1 : Int32} : ∃ (r : Int32) (V1 V2 : SV) (nG' : Nat) (ins' : Nat → Bool) (wt' : Nat → Nat) (x' : Nat → SX), Ev G (d + 7) mX11_take 0 [(0, .ref 0), (1, .int x1)] (K, n, V, J, O) (some (.int r)) (K, n, V1, J, O) ∧ Ev G (d + 7) mX12_take 0 [(0, .ref 57), (1, .int x1)] (K, n, V1, J, O) (some (.int r)) (K, n, V2, J, O) ∧ fr (frK nS ad kd) V V2 ∧ cT nT nG' fl ins' wt' V2 ∧ mT nT fl ins' V2 ∧ cn ins' nT + nG' = nT ∧ kpS nT nG ins wt nT nG' ins' wt' ∧ StR nS nT ad kd ky fl ins' K O x' V2 := by
  have h80 := hc.1.1
  obtain ⟨⟨s1, s2, s3, s4⟩, s5, s6, s7⟩ := hS
  by_cases h1 : ∃ t, t < nT ∧ x1 = nI t
  · obtain ⟨t, ht, rfl⟩ := h1
    have b1 : Ev G (d + 6) mX8_isIn 0 [(0, .ref 1), (1, .int (nI t))] (K, n, V, J, O) (some (.int (bI (ins t = true)))) (K, n, V, J, O) := c8_isIn hK hc ht
    by_cases hi : ins t = true
    · -- it is in
      have hch : ∀ i, ∃ p : GS × Nat, i < nS → (∃ M, vt5_48 (kc (kd i)) = some M ∧ ∀ d, stC (sz (kd i)) G (d + 5) K M (ad i) (ky i) nT (fl (ky i)) t (CR (kd i) (ad i) (fl (ky i)) (x i).1) (CR (kd i) (ad i) (fl (ky i)) p.1) p.2) ∧ (∀ d, stM G (d + 5) K mX12_takeFrom (kd i) i (ky i) nT (fl (ky i)) t (MR (kd i) i (x i).1) (MR (kd i) i p.1) p.2) ∧ gI (kd i) (fl (ky i)) (inS nT (insT ins t false)) p.1 := by
        intro i
        by_cases hiS : i < nS
        · obtain ⟨⟨⟨h96, hkd, hky⟩, hO, hIs⟩, -⟩ := s5 i hiS
          obtain ⟨g', c, M, q1, q2, q3, q4⟩ := take_any (G := G) (s := i) hK hkd hIs h96 (by omega) (s7 i hiS) (nT := nT) (fun u hu => hu.1) (t := t) ⟨ht, hi⟩ h80
          rw [inS_out] at q2
          exact ⟨(g', c), fun _ => ⟨⟨M, q1, q3⟩, q4, q2⟩⟩
        · exact ⟨((x i).1, 0), fun h => absurd h hiS⟩
      obtain ⟨f, hf⟩ := Classical.axiomOfChoice hch
      have hcn := cn_out (p := ins) hi ht
      -- the class
      have fA : fr (fun a k => a = 9 ∨ (a = 1 ∧ k = 6)) V (up2 (up2 V 9 t (nI nG)) 1 6 (nI (nG + 1))) := fr_up (fr_up fr_rfl (Or.inl rfl)) (Or.inr ⟨rfl, rfl⟩)
      have hc1 : cT nT (nG + 1) fl (insT ins t false) (fun u => if u = t then nG else wt u) (up2 (up2 V 9 t (nI nG)) 1 6 (nI (nG + 1))) := by
        refine ⟨⟨h80, by omega⟩, by rw [fA 1 2 (by omega)]; exact hc.2.1, up2_s, fun f t hf ht => by rw [fA _ _ (by omega)]; exact hc.2.2.2.1 f t hf ht, fun u hu => ?_⟩
        unfold insT
        by_cases e : u = t
        · right
          refine ⟨if_pos e, ?_, ?_⟩
          · show _ = nI (if u = t then nG else wt u)
            rw [e, up2_a (by decide), up2_s, if_pos rfl]
          · show (if u = t then nG else wt u) < nG + 1
            rw [if_pos e]
            omega
        · simp only [if_neg e]
          rw [up2_a (by decide), up2_k e]
          rcases hc.2.2.2.2 u hu with q | ⟨q1, q2, q3⟩
          · exact Or.inl q
          · exact Or.inr ⟨q1, q2, by omega⟩
      generalize hVA : up2 (up2 V 9 t (nI nG)) 1 6 (nI (nG + 1)) = VA at fA hc1
      obtain ⟨V1, z1, z2, z3⟩ := c11_take37 (G := G) (d := d) (K := K) (n := n) (J := J) (O := O) (nT := nT) (t := t) (x := x) (gg := fun i => (f i).1) (cc := fun i => (f i).2) hK s2 s1 (fun i hiS => let ⟨M, q1, q2⟩ := (hf i hiS).1; ⟨M, q1, q2 d⟩) nS 0 VA (by omega) (by rw [fA 0 7 (by omega)]; exact s3) (cT_cKe hc1) (fun j hj => by rw [if_neg (by omega)]; exact SCi_o (s5 j hj) (fr_mo fA (fun a k q => by omega)))
      have h96 : ∀ i, i < nS → 96 ≤ ad i := fun i hi => (s5 i hi).1.1.1
      have z3' : fr (fun a _ => 96 ≤ a) VA V1 := fr_mo z3 (fun a k q => frS_lo h96 q)
      have fB : fr (fun a _ => a < 57 ∨ 96 ≤ a) V V1 := fr_mo (fr_tr fA z3') (fun a k q => by omega)
      -- the reference
      have fC : fr (fun a k => a = 59 ∧ k = t) V1 (up2 V1 59 t 0) := fr_up fr_rfl ⟨rfl, rfl⟩
      have fD : fr (fun a k => a < 57 ∨ 96 ≤ a ∨ (a = 59 ∧ k = t)) V (up2 V1 59 t 0) := fr_mo (fr_tr fB fC) (fun a k q => by omega)
      obtain ⟨V2, y1, y2, y3⟩ := c12_take31 (G := G) (d := d + 1) (n := n) (J := J) (O := O) (nS := nS) (kd := kd) (ky := ky) (fl := fl) (t := t) (x := x) (gg := fun i => (f i).1) (cc := fun i => (f i).2) hK s1 h80 (fun i hiS => (hf i hiS).2.1 (d + 1)) nS 0 (up2 V1 59 t 0) (by omega) (by rw [fD 57 25 (by omega)]; exact s4) (fun f t hf ht => by rw [fD 58 _ (by omega)]; exact hm.2.2.1 f t hf ht) (fun j hj => by rw [if_neg (by omega)]; exact SMi_o (s6 j hj) (fr_mo fD (fun a k q => by omega)))
      refine ⟨1, V1, V2, nG + 1, insT ins t false, fun u => if u = t then nG else wt u, fun i => stx (x i) (f i).1 (f i).2, ?_, ?_, ?_, ?_, ?_, by omega, kpS_out hi, ⟨s1, s2, ?_, ?_⟩, ?_, ?_, fun i hiS => (hf i hiS).2.2⟩
      · refine wX11_take_0 hK ⟨_, x_has hK hc ht, nt one0 ⟨_, b1, ?_⟩⟩
        rw [bI_t hi]
        refine nt one0 ⟨VA, wX8_remove_0 hK ⟨nI_v (show t < 80 by omega) (by omega), rfl, ?_⟩, z1⟩
        rw [nI_c (by omega), hc.2.2.1, nI_1, hVA]
      · have m1 : mT nT fl ins V1 := ⟨hm.1, by rw [fB _ _ (by omega)]; exact hm.2.1, fun f t hf ht => by rw [fB _ _ (by omega)]; exact hm.2.2.1 f t hf ht, fun t ht => by rw [fB _ _ (by omega)]; exact hm.2.2.2 t ht⟩
        refine wX12_take_0 hK ⟨_, m_has hK m1 ht, nt one0 ⟨nI_v (show t < 80 by omega) (by omega), ?_⟩⟩
        rw [nI_c (by omega), m1.2.2.2 t ht, bI_t hi, nar0]
        exact nt one0 ⟨nI_v (show t < 80 by omega) (by omega), y1⟩
      · exact fr_mo (fr_tr (fr_tr (fr_tr fA z3) fC) y3) (fun a k q => by
          unfold frK
          rcases q with ((q | q) | q) | q
          · omega
          · exact Or.inr (Or.inr (Or.inr (Or.inr (Or.inr (Or.inl q)))))
          · omega
          · exact Or.inr (Or.inr (Or.inr (Or.inr (Or.inr (Or.inr q))))))
      · have fE : fr (fun a k => 57 ≤ a) VA V2 := fr_mo (fr_tr (fr_tr z3' fC) y3) (fun a k q => by unfold frQ at q; omega)
        exact ⟨hc1.1, by rw [fE _ _ (by omega)]; exact hc1.2.1, by rw [fE _ _ (by omega)]; exact hc1.2.2.1, fun f t hf ht => by rw [fE _ _ (by omega)]; exact hc1.2.2.2.1 f t hf ht, fun t ht => by rw [fE _ _ (by omega)]; exact hc1.2.2.2.2 t ht⟩
      · have fE : fr (fun a k => (a < 57 ∨ 96 ≤ a ∨ (a = 59 ∧ k = t)) ∨ frQ nS a k) V V2 := fr_tr fD y3
        refine ⟨hm.1, by rw [fE _ _ (by unfold frQ; omega)]; exact hm.2.1, fun f t hf ht => by rw [fE _ _ (by unfold frQ; omega)]; exact hm.2.2.1 f t hf ht, fun u hu => ?_⟩
        rw [y3 59 u (by unfold frQ; omega)]
        unfold insT
        by_cases e : u = t
        · rw [e, up2_s, if_pos rfl]
          rfl
        · rw [up2_k e, if_neg e, fB _ _ (by omega)]
          exact hm.2.2.2 u hu
      · rw [y3 0 7 (by unfold frQ; omega), up2_a (by decide), z3' 0 7 (by omega), fA 0 7 (by omega)]
        exact s3
      · rw [y3 57 25 (by unfold frQ; omega), fD 57 25 (by omega)]
        exact s4
      · intro i hiS
        have h9 := h96 i hiS
        exact SCi_fr (z2 i hiS) (fr_mo (fr_tr fC y3) (fun a k q => by unfold frQ at q; omega))
      · exact y2
    · refine ⟨-2, V, V, nG, ins, wt, x, wX11_take_0 hK ⟨_, x_has hK hc ht, nt one0 ⟨_, b1, ?_⟩⟩, wX12_take_0 hK ⟨_, m_has hK hm ht, nt one0 ⟨nI_v (show t < 80 by omega) (by omega), ?_⟩⟩, fr_rfl, hc, hm, hG, kpS_rfl, ⟨⟨s1, s2, s3, s4⟩, s5, s6, s7⟩⟩
      · rw [bI_f hi]
        exact nf rfl ⟨rfl, rfl⟩
      · rw [nI_c (by omega), hm.2.2.2 t ht, bI_f hi]
        exact nf rfl ⟨rfl, rfl⟩
  · exact ⟨-1, V, V, nG, ins, wt, x, wX11_take_0 hK ⟨_, x_hasn hK hc h1, nf rfl ⟨rfl, rfl⟩⟩, wX12_take_0 hK ⟨_, m_hasn hK hm h1, nf rfl ⟨rfl, rfl⟩⟩, fr_rfl, hc, hm, hG, kpS_rfl, ⟨⟨s1, s2, s3, s4⟩, s5, s6, s7⟩⟩
end
