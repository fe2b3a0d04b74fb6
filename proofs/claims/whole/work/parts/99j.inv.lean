/-! ===== what holds at every round of the law: the pieces, and what each bears ===== -/
/-- a stone's own places; its acts' bodies, its latest looks and a tree's way lie beside -/
def sCl (z b : Nat) (y k : Nat) : Prop := (y = b ∧ k ≠ 5 ∧ k ≠ 8) ∨ (b + 2 ≤ y ∧ y < b + z ∧ y ≠ b + 4)
/-- an ask's own places -/
def aCl (a : Nat) (y k : Nat) : Prop := (y = a ∧ k < 7) ∨ y = a + 1 ∨ y = a + 2 ∨ y = a + 3
def inSt (nS : Nat) (ad kd : Nat → Nat) (y : Nat) : Prop := ∃ i, i < nS ∧ ad i ≤ y ∧ y < ad i + sz (kd i)
def inAk (nA : Nat) (aa : Nat → Nat) (y : Nat) : Prop := ∃ i, i < nA ∧ aa i ≤ y ∧ y < aa i + 4
def bT (nT nG : Nat) (fl : Nat → Nat → Nat) (ins : Nat → Bool) (wt : Nat → Nat) (V : SV) : Prop := cT nT nG fl ins wt V ∧ mT nT fl ins V ∧ cn ins nT + nG = nT
def bS (nS nT N : Nat) (ad kd ky : Nat → Nat) (fl : Nat → Nat → Nat) (ins : Nat → Bool) (K : SK) (O : SO) (x : Nat → SX) (V : SV) : Prop := StR nS nT ad kd ky fl ins K O x V ∧ (∀ s, nS ≤ s → s < 10 → freeM s V) ∧ ∀ i, i < nS → ad i + sz (kd i) ≤ N
def bA (nA N : Nat) (aa ofn : Nat → Nat) (qq : Nat → QD) (K : SK) (O : SO) (V : SV) : Prop := AkO nA aa ofn K O V ∧ AskR nA aa qq V ∧ (∀ p, nA ≤ p → p < 10 → ∃ t, t < 4 ∧ V 68 p = nI t) ∧ ∀ i, i < nA → aa i + 4 ≤ N
/-- the ask that the tape is read into: it stands behind the asks -/
def bB (nA N : Nat) (aa : Nat → Nat) (K : SK) (O : SO) (V : SV) : Prop := BkO N (aa nA) K O V ∧ ∀ i, i < nA → aa i + 4 ≤ aa nA
def iWa (nT nG : Nat) (ins : Nat → Bool) (wt : Nat → Nat) (V : SV) : Prop := ∃ (nW : Nat) (fz : Nat → Bool) (pl en tk qw : Nat → Nat) (wi : Nat → Nat → Bool), iW nW fz pl en tk qw wi nT nG ins wt V
def iL (V : SV) : Prop := ∃ (un : Nat → Bool) (mo : Nat → Option Nat), LW un mo (V 2) (V 3) ∧ LW un mo (V 60) (V 61)
def iP (V : SV) : Prop := ∃ (m : Nat) (tp : Nat → Nat), TpC m tp V ∧ TpM m tp V
def iD (V : SV) : Prop := ∃ (nD : Nat) (A B : Nat → Nat), cD nD A B V ∧ mD nD A B V
def iC (V : SV) : Prop := ∃ (nC : Nat) (cel : Nat → Nat), cC nC cel V ∧ mC' nC cel V
def iY (V : SV) : Prop := ∃ (m : Nat) (kk gg : Nat → Nat) (rt : Option Nat), cY m kk gg rt V ∧ mY' m kk gg rt V
def iR (V : SV) : Prop := V 0 8 = V 57 33
section
variable {K K' : SK} {V V' : SV} {J J' : SJV} {O O' : SO} {nS nS' nT nG nA N N' nT' nG' nW i j y k : Nat} {ad kd ky ad' kd' aa aa' ofn : Nat → Nat} {fl : Nat → Nat → Nat} {ins ins' : Nat → Bool} {wt wt' : Nat → Nat} {x : Nat → SX} {qq : Nat → QD} {T : List Nat} {sh : Nat → SHT} {fz : Nat → Bool} {pl en tk qw : Nat → Nat} {wi : Nat → Nat → Bool}
theorem bT_fr (h : bT nT nG fl ins wt V) (hf : fr (fun y k => ¬ (5 ≤ y ∧ y ≤ 9) ∧ (y = 1 → k ≠ 2 ∧ k ≠ 6) ∧ y ≠ 58 ∧ y ≠ 59 ∧ (y = 57 → k ≠ 2)) V V') : bT nT nG fl ins wt V' := ⟨cT_fr h.1 (fr_mo hf (fun y k q => by omega)), mT_fr h.2.1 (fr_mo hf (fun y k q => by omega)), h.2.2⟩
theorem iL_fr (h : iL V) (hf : fr (fun y _ => y ≠ 2 ∧ y ≠ 3 ∧ y ≠ 60 ∧ y ≠ 61) V V') : iL V' := by
  obtain ⟨un, mo, h1, h2⟩ := h
  exact ⟨un, mo, LW_fr h1 (fun k => hf _ _ (by omega)) (fun k => hf _ _ (by omega)), LW_fr h2 (fun k => hf _ _ (by omega)) (fun k => hf _ _ (by omega))⟩
theorem iP_fr (h : iP V) (hf : fr (fun y k => (y = 0 → k ≠ 3) ∧ y ≠ 31 ∧ (y = 57 → k ≠ 6) ∧ y ≠ 62) V V') : iP V' := by
  obtain ⟨m, tp, h1, h2⟩ := h
  exact ⟨m, tp, ⟨h1.1, by rw [hf _ _ (by omega)]; exact h1.2.1, fun j hj => by rw [hf _ _ (by omega)]; exact h1.2.2 j hj⟩, ⟨h2.1, by rw [hf _ _ (by omega)]; exact h2.2.1, fun j hj => by rw [hf _ _ (by omega)]; exact h2.2.2 j hj⟩⟩
theorem iD_fr (h : iD V) (hf : fr (fun y k => (y = 13 → k ≠ 0) ∧ (y = 57 → k ≠ 36) ∧ y ≠ 14 ∧ y ≠ 15 ∧ y ≠ 80 ∧ y ≠ 81) V V') : iD V' := by
  obtain ⟨m, A, B, h1, h2⟩ := h
  exact ⟨m, A, B, ⟨h1.1, by rw [hf _ _ (by omega)]; exact h1.2.1, fun j hj => by rw [hf 14 _ (by omega), hf 15 _ (by omega)]; exact h1.2.2 j hj⟩, ⟨h2.1, by rw [hf _ _ (by omega)]; exact h2.2.1, fun j hj => by rw [hf 80 _ (by omega), hf 81 _ (by omega)]; exact h2.2.2 j hj⟩⟩
theorem iC_fr (h : iC V) (hf : fr (fun y k => (y = 13 → k ≠ 1) ∧ (y = 57 → k ≠ 38) ∧ y ≠ 16 ∧ y ≠ 82) V V') : iC V' := by
  obtain ⟨m, c, h1, h2⟩ := h
  exact ⟨m, c, ⟨h1.1, by rw [hf _ _ (by omega)]; exact h1.2.1, fun j hj => by rw [hf 16 _ (by omega)]; exact h1.2.2 j hj⟩, ⟨h2.1, by rw [hf _ _ (by omega)]; exact h2.2.1, fun j hj => by rw [hf 82 _ (by omega)]; exact h2.2.2 j hj⟩⟩
theorem iY_fr (h : iY V) (hf : fr (fun y k => ¬ (21 ≤ y ∧ y ≤ 30) ∧ (y = 13 → k ≠ 2 ∧ k ≠ 3) ∧ (y = 57 → k ≠ 43 ∧ k ≠ 44) ∧ y ≠ 18 ∧ y ≠ 19 ∧ y ≠ 85 ∧ y ≠ 86) V V') : iY V' := by
  obtain ⟨m, kk, gg, rt, h1, h2⟩ := h
  exact ⟨m, kk, gg, rt, ⟨h1.1, by rw [hf _ _ (by omega)]; exact h1.2.1, fun j hj => by rw [hf 18 _ (by omega), hf 19 _ (by omega)]; exact h1.2.2.1 j hj, by rw [hf _ _ (by omega)]; exact h1.2.2.2.1, h1.2.2.2.2.1, fun j hj => by rw [hf (21 + j) _ (by omega)]; exact h1.2.2.2.2.2 j hj⟩, ⟨h2.1, by rw [hf _ _ (by omega)]; exact h2.2.1, fun j hj => by rw [hf 85 _ (by omega), hf 86 _ (by omega)]; exact h2.2.2.1 j hj, by rw [hf _ _ (by omega)]; exact h2.2.2.2.1, h2.2.2.2.2⟩⟩
theorem iR_fr (h : iR V) (hf : fr (fun y k => (y = 0 → k ≠ 8) ∧ (y = 57 → k ≠ 33)) V V') : iR V' := by
  unfold iR
  rw [hf 0 8 (by omega), hf 57 33 (by omega)]
  exact h
theorem iW_g (h : iWa nT nG ins wt V) (hs : kpS nT nG ins wt nT' nG' ins' wt') (hf : fr (fun y k => ¬ (10 ≤ y ∧ y ≤ 12) ∧ ¬ (88 ≤ y ∧ y ≤ 90) ∧ (y = 1 → k ≠ 3) ∧ (y = 57 → k ≠ 49)) V V') : iWa nT' nG' ins' wt' V' := by
  obtain ⟨nW, fz, pl, en, tk, qw, wi, ⟨a1, a2, a3⟩, b, c, dd, e, f, g⟩ := h
  obtain ⟨⟨s1, s2⟩, s3⟩ := hs
  refine ⟨nW, fz, pl, en, tk, qw, wi, ⟨a1, by rw [hf _ _ (by omega)]; exact a2, by rw [hf _ _ (by omega)]; exact a3⟩, fun w hw => ?_, fun w hw => ?_, dd, fun w t hw hz ht => ?_, fun w t hw h1 h2 => ?_, fun i h1 h2 => by rw [hf _ _ (by omega)]; exact g i h1 h2⟩
  · obtain ⟨b1, b2, b3, b4, b5, b6⟩ := b w hw
    exact ⟨by rw [hf _ _ (by omega)]; exact b1, by rw [hf _ _ (by omega)]; exact b2, by rw [hf _ _ (by omega)]; exact b3, by rw [hf _ _ (by omega)]; exact b4, by rw [hf _ _ (by omega)]; exact b5, fun t ht => by rw [hf _ _ (by omega)]; exact b6 t ht⟩
  · obtain ⟨c1, c2, c3, c4, c5⟩ := c w hw
    exact ⟨by omega, by omega, c3, by omega, c5⟩
  · obtain ⟨c1, c2, c3, c4, c5⟩ := c w hw
    rw [e w t hw hz ht]
    rcases s3 t (by omega) with ⟨u1, u2⟩ | ⟨u1, u2, u3⟩
    · rw [u1, u2]
    · exact ⟨fun _ => Or.inr (by omega), fun _ => Or.inl u1⟩
  · obtain ⟨c1, c2, c3, c4, c5⟩ := c w hw
    have := f w t hw h1 h2
    by_cases z : fz w = true
    · rw [if_pos z] at this ⊢
      exact this
    · rw [if_neg z] at this ⊢
      rcases s3 t (by omega) with ⟨u1, u2⟩ | ⟨u1, u2, u3⟩
      · rw [u1]
        exact this
      · exact u2
theorem iW_fr (h : iWa nT nG ins wt V) (hf : fr (fun y k => ¬ (10 ≤ y ∧ y ≤ 12) ∧ ¬ (88 ≤ y ∧ y ≤ 90) ∧ (y = 1 → k ≠ 3) ∧ (y = 57 → k ≠ 49)) V V') : iWa nT nG ins wt V' := iW_g h kpS_rfl hf
theorem SCi_g {z : SX} (h : SCi ad kd ky fl K O V i z) (hk : IsSt K (ad i) (kc (kd i)) (ky i) → IsSt K' (ad i) (kc (kd i)) (ky i)) (ho : O' 33 i = O 33 i) (hf : fr (fun y k => ¬ sCl (sz (kd i)) (ad i) y k) V V') : SCi ad kd ky fl K' O' V' i z := by
  have hz := sz_ge (kd := kd i)
  obtain ⟨⟨h1, h2, h3⟩, h4, h5, h6, h7⟩ := h
  have f1 : fr (fun y k => ¬ (ad i + 2 ≤ y ∧ y < ad i + sz (kd i)) ∧ (y = ad i → k < 10)) V (fun y k => if y = ad i + 4 then V y k else V' y k) := fun y k q => by
    show (if y = ad i + 4 then V y k else V' y k) = V y k
    by_cases e : y = ad i + 4
    · rw [if_pos e]
    · rw [if_neg e]
      exact hf y k (fun z => z (by unfold sCl; omega))
  have f2 : fr (fun y k => y = ad i + 4) (fun y k => if y = ad i + 4 then V y k else V' y k) V' := fun y k q => (if_neg q).symm
  exact ⟨⟨h1, ho.trans h2, hk h3⟩, ⟨by rw [hf _ _ (fun z => z (by unfold sCl; omega))]; exact h4.1, by rw [hf _ _ (fun z => z (by unfold sCl; omega))]; exact h4.2⟩, CR_run h1.2.1 (CR_fr h1.2.1 h5 f1) (fr_mo f2 (fun y k q => by omega)), by rw [hf _ _ (fun z => z (by unfold sCl; omega))]; exact h6, by rw [hf _ _ (fun z => z (by unfold sCl; omega))]; exact h7⟩
theorem StR_g (hS : StR nS nT ad kd ky fl ins K O x V) (hk : ∀ i, i < nS → IsSt K (ad i) (kc (kd i)) (ky i) → IsSt K' (ad i) (kc (kd i)) (ky i)) (ho : ∀ i, O' 33 i = O 33 i) (hf : fr (fun y k => (y < 70 ∨ 80 ≤ y) ∧ ¬ (y = 0 ∧ k = 7) ∧ ¬ (y = 57 ∧ k = 25) ∧ ∀ i, i < nS → ¬ sCl (sz (kd i)) (ad i) y k) V V') : StR nS nT ad kd ky fl ins K' O' x V' := by
  obtain ⟨⟨s1, s2, s3, s4⟩, s5, s6, s7⟩ := hS
  refine ⟨⟨s1, s2, ?_, ?_⟩, fun i hi => SCi_g (s5 i hi) (hk i hi) (ho i) (fr_mo hf (fun y k q => q.2.2.2 i hi)), fun i hi => SMi_o (s6 i hi) (fr_mo hf (fun y k q => q.1)), s7⟩
  · rw [hf 0 7 (fun q => q.2.1 ⟨rfl, rfl⟩)]
    exact s3
  · rw [hf 57 25 (fun q => q.2.2.1 ⟨rfl, rfl⟩)]
    exact s4
theorem bS_96 (h : bS nS nT N ad kd ky fl ins K O x V) : ∀ i, i < nS → 96 ≤ ad i := fun i hi => (h.1.2.1 i hi).1.1.1
theorem bA_96 (h : bA nA N aa ofn qq K O V) : ∀ i, i < nA → 96 ≤ aa i := fun i hi => (h.1.2.2 i hi).1.1
theorem bS_g (h : bS nS nT N ad kd ky fl ins K O x V) (hN : N ≤ N') (hk : ∀ i, i < nS → IsSt K (ad i) (kc (kd i)) (ky i) → IsSt K' (ad i) (kc (kd i)) (ky i)) (ho : ∀ i, O' 33 i = O 33 i) (hf : fr (fun y k => (y < 70 ∨ 80 ≤ y) ∧ ¬ (y = 0 ∧ k = 7) ∧ ¬ (y = 57 ∧ k = 25) ∧ ∀ i, i < nS → ¬ sCl (sz (kd i)) (ad i) y k) V V') : bS nS nT N' ad kd ky fl ins K' O' x V' := ⟨StR_g h.1 hk ho hf, fun s h1 h2 => freeM_fr (h.2.1 s h1 h2) (fr_mo hf (fun y k q => by have := q.1; omega)), fun i hi => Nat.le_trans (h.2.2 i hi) hN⟩
/-- the stones, when only places below 96 change -/
theorem bS_lo (h : bS nS nT N ad kd ky fl ins K O x V) (ho : ∀ i, O' 33 i = O 33 i) (hf : fr (fun y k => y < 96 ∧ (y < 70 ∨ 80 ≤ y) ∧ ¬ (y = 0 ∧ k = 7) ∧ ¬ (y = 57 ∧ k = 25)) V V') : bS nS nT N ad kd ky fl ins K O' x V' := bS_g h (Nat.le_refl _) (fun _ _ q => q) ho (fr_mo hf (fun y k q => ⟨q.2.1, q.2.2.1, q.2.2.2, fun i hi => by have := bS_96 h i hi; unfold sCl; omega⟩))
theorem AkO_g (hA : AkO nA aa ofn K O V) (hk : ∀ i, i < nA → IsAk K (aa i) → IsAk K' (aa i)) (ho : ∀ i, O' 32 i = O 32 i) (hf : fr (fun y k => ¬ (63 ≤ y ∧ y ≤ 69) ∧ ¬ (y = 0 ∧ k = 5) ∧ ¬ (y = 57 ∧ k = 14) ∧ ∀ i, i < nA → ¬ aCl (aa i) y k) V V') : AkO nA aa ofn K' O' V' := by
  obtain ⟨⟨s1, s2, s3⟩, s4, s5⟩ := hA
  refine ⟨⟨s1, by rw [hf 0 5 (fun q => q.2.1 ⟨rfl, rfl⟩)]; exact s2, by rw [hf 57 14 (fun q => q.2.2.1 ⟨rfl, rfl⟩)]; exact s3⟩, s4, fun i hi => ?_⟩
  obtain ⟨⟨h96, hO, hIs⟩, e1, e2, e3⟩ := s5 i hi
  exact ⟨⟨h96, (ho i).trans hO, hk i hi hIs⟩, by rw [hf _ _ (fun q => q.2.2.2 i hi (Or.inl ⟨rfl, by decide⟩))]; exact e1, by rw [hf 69 i (fun q => q.1 (by omega))]; exact e2, e3⟩
theorem bA_g (h : bA nA N aa ofn qq K O V) (hN : N ≤ N') (hk : ∀ i, i < nA → IsAk K (aa i) → IsAk K' (aa i)) (ho : ∀ i, O' 32 i = O 32 i) (hf : fr (fun y k => ¬ (63 ≤ y ∧ y ≤ 69) ∧ ¬ (y = 0 ∧ k = 5) ∧ ¬ (y = 57 ∧ k = 14) ∧ ∀ i, i < nA → ¬ aCl (aa i) y k) V V') : bA nA N' aa ofn qq K' O' V' := ⟨AkO_g h.1 hk ho hf, AskR_fr h.2.1 (fr_mo hf (fun y k q => ⟨fun i hi => by have := q.2.2.2 i hi; unfold aCl at this; omega, by have := q.1; omega⟩)), fun p h1 h2 => by rw [hf 68 p (fun q => q.1 (by omega))]; exact h.2.2.1 p h1 h2, fun i hi => Nat.le_trans (h.2.2.2 i hi) hN⟩
/-- the asks' texts, when the first field changes -/
theorem AskR_0 (h : AskR nA aa qq V) (hf : fr (fun y k => (∀ i, i < nA → y ≠ aa i + 1 ∧ y ≠ aa i + 2 ∧ y ≠ aa i + 3 ∧ (y = aa i → k = 0)) ∧ ¬ (63 ≤ y ∧ y ≤ 68)) V V') : AskR nA aa qq V' := fun i hi => by
  obtain ⟨h1, ⟨a1, a2, a3, a4⟩, h3⟩ := h i hi
  have z : ∀ k, k ≠ 0 → V' (aa i) k = V (aa i) k := fun k hk => hf _ _ (fun q => hk ((q.1 i hi).2.2.2 rfl))
  exact ⟨h1, ⟨by rw [z _ (by decide)]; exact a1, by rw [z _ (by decide)]; exact a2, by rw [z _ (by decide)]; exact a3, fun j hj => by rw [hf _ _ (fun q => (q.1 i hi).1 rfl), hf _ _ (fun q => (q.1 i hi).2.1 rfl), hf _ _ (fun q => (q.1 i hi).2.2.1 rfl)]; exact a4 j hj⟩, QM_fr h3 (fr_mo hf (fun y k q => q.2))⟩
theorem bA_lo (h : bA nA N aa ofn qq K O V) (ho : ∀ i, O' 32 i = O 32 i) (hf : fr (fun y k => y < 96 ∧ ¬ (63 ≤ y ∧ y ≤ 69) ∧ ¬ (y = 0 ∧ k = 5) ∧ ¬ (y = 57 ∧ k = 14)) V V') : bA nA N aa ofn qq K O' V' := bA_g h (Nat.le_refl _) (fun _ _ q => q) ho (fr_mo hf (fun y k q => ⟨q.2.1, q.2.2.1, q.2.2.2, fun i hi => by have := bA_96 h i hi; unfold aCl; omega⟩))
theorem bB_fr (h : bB nA N aa K O V) (hN : N ≤ N') (hk : IsAk K (aa nA) → IsAk K' (aa nA)) (ho : O' 0 17 = O 0 17) (hf : fr (fun y k => ¬ (y = aa nA ∧ k < 7)) V V') : bB nA N' aa K' O' V' := by
  obtain ⟨⟨⟨a1, a2, a3, a4⟩, b, t, ht, c⟩, e⟩ := h
  exact ⟨⟨⟨ho.trans a1, hk a2, a3, Nat.le_trans a4 hN⟩, by rw [hf _ _ (fun q => q ⟨rfl, by decide⟩)]; exact b, t, ht, by rw [hf _ _ (fun q => q ⟨rfl, by decide⟩)]; exact c⟩, e⟩
theorem bB_lo (h : bB nA N aa K O V) (ho : O' 0 17 = O 0 17) (hf : fr (fun y _ => y < 96) V V') : bB nA N aa K O' V' := bB_fr h (Nat.le_refl _) id ho (fr_mo hf (fun y k q => by have := h.1.1.2.2.1; omega))
theorem bB_g (h : bB nA N aa K O V) (hP : AP nS (nA + 1) ad kd aa) (ho : O' 0 17 = O 0 17) (hf : fr (fun y _ => inAk nA aa y ∨ inSt nS ad kd y ∨ y < 96) V V') : bB nA N aa K O' V' := bB_fr h (Nat.le_refl _) id ho (fr_mo hf (fun y k q => by
  have h9 := h.1.1.2.2.1
  rcases q with ⟨i, hi, q1, q2⟩ | ⟨i, hi, q1, q2⟩ | q
  · have := h.2 i hi
    omega
  · have h1 := hP i nA hi (Nat.lt_succ_self _)
    unfold apart at h1
    omega
  · omega))
/-- the asks, when stones change -/
theorem bA_st (h : bA nA N aa ofn qq K O V) (hP : AP nS nA ad kd aa) (ho : ∀ i, O' 32 i = O 32 i) (hf : fr (fun y k => inSt nS ad kd y ∨ (y < 96 ∧ ¬ (63 ≤ y ∧ y ≤ 69) ∧ ¬ (y = 0 ∧ k = 5) ∧ ¬ (y = 57 ∧ k = 14))) V V') (h9 : ∀ i, i < nS → 96 ≤ ad i) : bA nA N aa ofn qq K O' V' := bA_g h (Nat.le_refl _) (fun _ _ q => q) ho (fr_mo hf (fun y k q => by
  rcases q with ⟨j, hj, q1, q2⟩ | q
  · have := h9 j hj
    refine ⟨by omega, by omega, by omega, fun i hi => ?_⟩
    have h1 := hP j i hj hi
    unfold apart at h1
    unfold aCl
    omega
  · exact ⟨q.2.1, q.2.2.1, q.2.2.2, fun i hi => by have := bA_96 h i hi; unfold aCl; omega⟩))
theorem TX_g (h : ∃ T, TX nS ad O T V) (hn : nS ≤ nS') (ha : ∀ i, i < nS → ad' i = ad i) (ho : O' 0 9 = O 0 9) (hf : fr (fun y k => y ≠ 91 ∧ ¬ (y = 57 ∧ (k = 51 ∨ k = 52)) ∧ ∀ i, i < nS → y ≠ ad i + 1 ∧ ¬ (y = ad i ∧ k = 5)) V V') : ∃ T, TX nS' ad' O' T V' := by
  obtain ⟨T, ⟨t1, t2⟩, t3, t4⟩ := h
  refine ⟨T, ⟨?_, fun j h1 h2 => ?_⟩, t3, ?_⟩
  · rw [hf 57 51 (fun q => q.2.1 ⟨rfl, Or.inl rfl⟩)]
    exact t1
  · rw [hf 91 j (fun q => q.1 rfl)]
    exact t2 j h1 h2
  · rcases t4 with ⟨u1, u2⟩ | ⟨i, hi, u1, u2, u3⟩
    · exact Or.inl ⟨ho.trans u1, u2⟩
    · refine Or.inr ⟨i, Nat.lt_of_lt_of_le hi hn, by rw [ho, ha i hi]; exact u1, ?_⟩
      rw [ha i hi]
      exact ⟨by rw [hf _ _ (fun q => (q.2.2 i hi).2 ⟨rfl, rfl⟩)]; exact u2, fun j h1 h2 => by rw [hf _ _ (fun q => (q.2.2 i hi).1 rfl)]; exact u3 j h1 h2⟩
theorem TX_lo (h : ∃ T, TX nS ad O T V) (h9 : ∀ i, i < nS → 96 ≤ ad i) (ho : O' 0 9 = O 0 9) (hf : fr (fun y k => y < 96 ∧ y ≠ 91 ∧ ¬ (y = 57 ∧ (k = 51 ∨ k = 52))) V V') : ∃ T, TX nS ad O' T V' := TX_g h (Nat.le_refl _) (fun _ _ => rfl) ho (fr_mo hf (fun y k q => ⟨q.2.1, q.2.2, fun i hi => by have := h9 i hi; omega⟩))
/-- what an ask changes, or a stone beside its acts' bodies, leaves the acts' bodies -/
theorem TX_dy (h : ∃ T, TX nS ad O T V) (hP : AP nS nA ad kd aa) (hD : SD nS ad kd) (h9 : ∀ i, i < nS → 96 ≤ ad i) (hf : fr (fun y k => inAk nA aa y ∨ (∃ i, i < nS ∧ ((y = ad i ∧ 6 ≤ k) ∨ (ad i + 2 ≤ y ∧ y < ad i + sz (kd i)))) ∨ (y < 96 ∧ y ≠ 91 ∧ ¬ (y = 57 ∧ (k = 51 ∨ k = 52)))) V V') (h9a : ∀ i, i < nA → 96 ≤ aa i) : ∃ T, TX nS ad O T V' := TX_g h (Nat.le_refl _) (fun _ _ => rfl) rfl (fr_mo hf (fun y k q => by
  rcases q with ⟨j, hj, q1, q2⟩ | ⟨j, hj, q⟩ | q
  · have := h9a j hj
    refine ⟨by omega, by omega, fun i hi => ?_⟩
    have h1 := hP i j hi hj
    have hz := sz_ge (kd := kd i)
    unfold apart at h1
    omega
  · have := h9 j hj
    refine ⟨by omega, by omega, fun i hi => ?_⟩
    have hz := sz_ge (kd := kd i)
    have hz' := sz_ge (kd := kd j)
    by_cases e : i = j
    · rw [e] at hz ⊢
      omega
    · have := SD_ne hD hi hj e
      omega
  · exact ⟨q.2.1, q.2.2, fun i hi => by have := h9 i hi; omega⟩))
theorem ShR_g (h : ∃ sh, ShR nS ad sh V J O) (hn : nS ≤ nS') (h10 : nS' ≤ 10) (ha : ∀ i, i < nS → ad' i = ad i) (ho : ∀ i, O' 47 i = O 47 i) (hf : fr (fun y _ => y ≠ 48 ∧ y ≠ 49 ∧ y ≠ 92 ∧ y ≠ 93) V V') : ∃ sh, ShR nS' ad' sh V' J O' := by
  obtain ⟨sh, h1, h2, h3⟩ := h
  refine ⟨sh, h10, h2, fun i hi => ?_⟩
  have g := h3 i hi
  have e1 := hf 48 i (fun q => q.1 rfl)
  have e2 := hf 49 i (fun q => q.2.1 rfl)
  have e3 := hf 92 i (fun q => q.2.2.1 rfl)
  have e4 := hf 93 i (fun q => q.2.2.2 rfl)
  revert g
  cases sh i with
  | none =>
    intro g
    show O' 47 i = none ∧ V' 48 i = -1 ∧ V' 92 i = -1
    rw [ho, e1, e3]
    exact g
  | some s =>
    cases s with
    | inl a =>
      intro g
      show a < nS' ∧ O' 47 i = some (ad' a) ∧ V' 48 i = -1 ∧ V' 92 i = nI a
      have ga : a < nS := g.1
      rw [ho, e1, e3, ha a ga]
      exact ⟨Nat.lt_of_lt_of_le ga hn, g.2⟩
    | inr q =>
      intro g
      show (q.1 < 5 ∧ q.2 ≤ 60) ∧ O' 47 i = none ∧ V' 48 i = nI q.1 ∧ V' 49 i = nI q.2 ∧ V' 92 i = nI (10 + q.1) ∧ V' 93 i = nI q.2
      rw [ho, e1, e2, e3, e4]
      exact g
theorem ShR_fr (h : ∃ sh, ShR nS ad sh V J O) (ho : ∀ i, O' 47 i = O 47 i) (hf : fr (fun y _ => y ≠ 48 ∧ y ≠ 49 ∧ y ≠ 92 ∧ y ≠ 93) V V') : ∃ sh, ShR nS ad sh V' J O' := ShR_g h (Nat.le_refl _) (by obtain ⟨sh, h⟩ := h; exact h.1) (fun _ _ => rfl) ho hf
end
/-- all that holds -/
def INV (K : SK) (n : Nat × Nat) (V : SV) (J : SJV) (O : SO) : Prop := (StK K ∧ 96 ≤ n.1) ∧ ∃ (nT nG : Nat) (fl : Nat → Nat → Nat) (ins : Nat → Bool) (wt : Nat → Nat) (nS : Nat) (ad kd ky : Nat → Nat) (x : Nat → SX) (nA : Nat) (aa ofn : Nat → Nat) (qq : Nat → QD), bT nT nG fl ins wt V ∧ bS nS nT n.1 ad kd ky fl ins K O x V ∧ bA nA n.1 aa ofn qq K O V ∧ bB nA n.1 aa K O V ∧ AP nS (nA + 1) ad kd aa ∧ (∃ T, TX nS ad O T V) ∧ (∃ sh, ShR nS ad sh V J O) ∧ iWa nT nG ins wt V ∧ iL V ∧ iP V ∧ iD V ∧ iC V ∧ iY V ∧ iR V
def nle (n n1 n2 : Nat × Nat) : Prop := (n.1 ≤ n1.1 ∧ n.2 ≤ n1.2) ∧ (n1.1 ≤ n2.1 ∧ n1.2 ≤ n2.2) ∧ n2.1 ≤ n.1 + 5 ∧ n2.2 ≤ n.2 + 300
theorem nle_rfl {n : Nat × Nat} : nle n n n := ⟨⟨Nat.le_refl _, Nat.le_refl _⟩, ⟨Nat.le_refl _, Nat.le_refl _⟩, Nat.le_add_right _ _, Nat.le_add_right _ _⟩
/-- an act of both: alike, and all that holds goes on to hold -/
def ActV (G : Gp) (C M : AM) (A : AL) (K : SK) (n : Nat × Nat) (V : SV) (J : SJV) (O : SO) (r : Value) : Prop := ∃ (K1 : SK) (n1 : Nat × Nat) (V1 : SV) (J1 : SJV) (O1 : SO) (K2 : SK) (n2 : Nat × Nat) (V2 : SV) (J2 : SJV) (O2 : SO), Ev G 100 C 0 ((0, .ref 0) :: A) (K, n, V, J, O) (some r) (K1, n1, V1, J1, O1) ∧ Ev G 100 M 0 ((0, .ref 57) :: A) (K1, n1, V1, J1, O1) (some r) (K2, n2, V2, J2, O2) ∧ StK K1 ∧ nle n n1 n2 ∧ INV K2 n2 V2 J2 O2
def ActI (G : Gp) (C M : AM) (A : AL) (K : SK) (n : Nat × Nat) (V : SV) (J : SJV) (O : SO) : Prop := ∃ r : Int32, ActV G C M A K n V J O (.int r)
def ActL (G : Gp) (C M : AM) (A : AL) (K : SK) (n : Nat × Nat) (V : SV) (J : SJV) (O : SO) : Prop := ∃ r : Int64, ActV G C M A K n V J O (.long r)
