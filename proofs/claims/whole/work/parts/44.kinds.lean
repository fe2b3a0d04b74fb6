section
variable {G : Gp} {d : Nat} {K : SK} {V V' : SV}
variable {b ci ky s nT t p : Nat} {ke : Nat → Nat} {S : Nat → Prop} {g2 : (Nat → Option Nat) × (Nat → Option Nat) × Option Nat × Int32} {A B L : List Nat} {lc rc : Nat → Option Nat} {root : Option Nat} {bi : Int32}
theorem nI_m1 {m : Nat} (h : 1 ≤ m) : nI m - 1 = nI (m - 1) := nI_s h
theorem take3 (hK : StK K) (ha : IsSt K b 2 ky) (hb : 96 ≤ b) (ht : t < nT) (hp : p < L.length) (hl : L.length ≤ 80) (hq : ffst (fun q => nmL L q == t) L.length 0 = p) (hpt : nmL L p = t) (hS : ∀ u, u ∈ L → u < nT) : stC 3 G (d + 5) K mX2_takeName b ky nT ke t (CR 3 b ke (L, g2)) (CR 3 b ke ((hpK ke L p).1, g2)) (hpK ke L p).2 ∧ stM G (d + 5) K mX12_takeFrom 3 s ky nT ke t (MR 3 s (L, g2)) (MR 3 s ((hpK ke L p).1, g2)) (hpK ke L p).2 := by
  have hn : ∀ i, i < L.length - 1 → lastTo L p i < nT := fun i hi => by
    unfold lastTo
    split
    · exact hS _ (nmL_mem (by omega))
    · exact hS _ (nmL_mem (by omega))
  constructor
  · intro n J O V hk hR h8
    have h80 := hk.2.1
    have hR : RowC b L.length (nmL L) V := hR
    have hE0 := c3_placeOf (G := G) (d := d + 4) (n := n) (J := J) (O := O) hK ha (by decide) hR (t := t) (by omega)
    rw [hq] at hE0
    show ∃ V', _ ∧ RowC b (hpK ke L p).1.length (nmL (hpK ke L p).1) V' ∧ _
    rw [hpK_len]
    have f0 : fr (fun a k => a = b ∧ (k = 8 ∨ k = 10)) V (up2 (up2 V b 8 (nI (p + 1))) b 10 (nI (L.length - 1))) := fr_up (fr_up fr_rfl ⟨rfl, Or.inl rfl⟩) ⟨rfl, Or.inr rfl⟩
    by_cases q1 : p = L.length - 1
    · refine ⟨up2 (up2 V b 8 (nI (p + 1))) b 10 (nI (L.length - 1)), wX2_takeName_0 hK ha ⟨_, hE0, bt ?_ (nf ?_ ⟨rfl, ?_⟩)⟩, ?_, ?_, fr_mo f0 (fun a k q => by unfold frB; omega)⟩
      · rw [hR.2.1, nI_l' (by omega) (by omega)]; exact hp
      · rw [hR.2.1, nI_m1 (by omega), ← q1]
      · rw [h8, hR.2.1, nI_1, nI_add, Nat.zero_add, nI_m1 (by omega)]
      · unfold hpK
        rw [if_pos q1]
        refine ⟨by omega, up2_s, fun i hi => ?_⟩
        rw [f0 (b + 2) i (by omega), nmL_lst hi]
        unfold lastTo
        rw [if_neg (by omega)]
        exact hR.2.2 i (by omega)
      · unfold hpK
        rw [if_pos q1, up2_k (by decide), up2_s]
    · generalize hV1 : up2 (up2 (up2 V b 8 (nI (p + 1))) b 10 (nI (L.length - 1))) (b + 2) p (nI (nmL L (L.length - 1))) = V1
      have f1 : fr (fun a k => (a = b ∧ (k = 8 ∨ k = 10)) ∨ a = b + 2) V V1 := by
        rw [← hV1]
        exact fr_up (fr_mo f0 (fun a k q => Or.inl q)) (Or.inr rfl)
      have R1 : RowC b (L.length - 1) (lastTo L p) V1 := by
        refine ⟨by omega, by rw [← hV1, up2_a (by omega), up2_s], fun i hi => ⟨?_, by have := hn i hi; omega⟩⟩
        rw [← hV1]
        unfold lastTo
        by_cases e : i = p
        · rw [e, up2_s, if_pos rfl]
        · rw [up2_k e, if_neg e, f0 (b + 2) i (by omega)]
          exact (hR.2.2 i (by omega)).1
      have k1 : cKe ky nT ke V1 := hk.fr hb (fr_mo f1 (fun a k q => by omega))
      obtain ⟨V2, y1, y2, y3, y4⟩ := c2_rise (G := G) (d := d + 2) (n := n) (J := J) (O := O) (i := p) (c := p + 1) (nm := lastTo L p) hK ha hb (by omega) R1 k1 hn (by rw [← hV1, up2_a (by omega), up2_k (by decide), up2_s])
      have hgo : ∀ {V'}, ((nI (hup ke p (lastTo L p) p (p + 1)).2.1 ≠ nI p → ((none : Option Value) = none ∧ V' = V2)) ∧ (nI (hup ke p (lastTo L p) p (p + 1)).2.1 = nI p → ∃ V6, Ev G (d + 4) mX2_sink 0 [(0, .ref b), (1, .int (nI p))] (K, n, V2, J, O) none (K, n, V6, J, O) ∧ ((none : Option Value) = none ∧ V' = V6))) → Ev G (d + 5) mX2_takeName 0 [(0, .ref b), (1, .int (nI t))] (K, n, V, J, O) none (K, n, V', J, O) := by
        intro V' hE
        refine wX2_takeName_0 hK ha ⟨_, hE0, bt ?_ (nt ?_ ⟨?_, nI_v (by omega) (by omega), nI (hup ke p (lastTo L p) p (p + 1)).2.1, V2, ?_, ?_⟩)⟩
        · rw [hR.2.1, nI_l' (by omega) (by omega)]; exact hp
        · rw [hR.2.1, nI_m1 (by omega), nI_ne (by omega) (by omega)]; exact q1
        · rw [hR.2.1, nI_m1 (by omega)]
          exact nI_v (by omega) (by omega)
        · rw [h8, hR.2.1, nI_1, nI_add, Nat.zero_add, nI_m1 (by omega), nI_c (show p < 100000 by omega), nI_c (show L.length - 1 < 100000 by omega), up2_a (show b + 2 ≠ b by omega), up2_a (show b + 2 ≠ b by omega), (hR.2.2 (L.length - 1) (by omega)).1, hV1]
          exact y1
        · exact ⟨fun e => ⟨rfl, (hE.1 e).2⟩, fun e => hE.2 e⟩
      have hle : (hup ke p (lastTo L p) p (p + 1)).2.1 ≤ p := by
        have : ∀ (f : Nat) (nm : Nat → Nat) (i c : Nat), (hup ke f nm i c).2.1 ≤ i := by
          intro f
          induction f with
          | zero => exact fun nm i c => Nat.le_refl _
          | succ f ih =>
            intro nm i c
            unfold hup
            split
            · exact Nat.le_refl _
            · split
              · have := ih (sw nm i ((i - 1) / 2)) ((i - 1) / 2) (c + 1)
                omega
              · exact Nat.le_refl _
        exact this _ _ _ _
      by_cases q2 : (hup ke p (lastTo L p) p (p + 1)).2.1 = p
      · have hn2 : ∀ i, i < L.length - 1 → (hup ke p (lastTo L p) p (p + 1)).1 i < nT := by
          have : ∀ (f : Nat) (nm : Nat → Nat) (i c m : Nat), i < m → (∀ j, j < m → nm j < nT) → ∀ j, j < m → (hup ke f nm i c).1 j < nT := by
            intro f
            induction f with
            | zero => exact fun nm i c m hi h => h
            | succ f ih =>
              intro nm i c m hi h
              unfold hup
              split
              · exact h
              · split
                · refine ih _ _ _ m (by omega) (fun j hj => ?_)
                  unfold sw
                  split
                  · exact h _ hi
                  · split
                    · exact h _ (by omega)
                    · exact h j hj
                · exact h
          exact this _ _ _ _ _ (by omega) hn
        obtain ⟨V6, x1, x2, x3, x4⟩ := c2_sink (G := G) (d := d + 1) (n := n) (J := J) (O := O) (i := p) hK ha hb (by omega) y2 (k1.fr hb (fr_mo y4 (fun a k q => by omega))) hn2 y3
        refine ⟨V6, hgo (nf (by rw [q2]) ⟨V6, x1, rfl, rfl⟩), ?_, ?_, ?_⟩
        · unfold hpK
          rw [if_neg q1, if_pos q2]
          exact RowC_c x2 (fun i hi => nmL_lst hi)
        · unfold hpK
          rw [if_neg q1, if_pos q2]
          exact x3
        · exact fr_mo (fr_tr (fr_tr f1 y4) x4) (fun a k q => by unfold frB; omega)
      · refine ⟨V2, hgo (nt (by rw [nI_ne (by omega) (by omega)]; exact q2) ⟨rfl, rfl⟩), ?_, ?_, ?_⟩
        · unfold hpK
          rw [if_neg q1, if_neg q2]
          exact RowC_c y2 (fun i hi => nmL_lst hi)
        · unfold hpK
          rw [if_neg q1, if_neg q2]
          exact y3
        · exact fr_mo (fr_tr f1 y4) (fun a k q => by unfold frB; omega)
  · intro n J O V hk h70 hR
    have hs := hk.1
    have h80 := hk.2.2.1
    have hR : RowM s L.length (nmL L) V := hR
    have fz : fr (fun a k => a = 57 ∧ k = 32) V (up2 V 57 32 0) := f57
    have hE0 := c12_placeIn (G := G) (d := d + 3) (n := n) (J := J) (O := O) hK hs (hR.fr fz) (t := t) (q := p) (by omega) hp hpt
    rw [hq] at hE0
    show ∃ V', _ ∧ RowM s (hpK ke L p).1.length (nmL (hpK ke L p).1) V' ∧ _
    rw [hpK_len]
    have f0 : fr (fun a k => (a = 57 ∧ k = 32) ∨ (a = 73 ∧ k = s)) V (up2 (up2 (up2 V 57 32 0) 57 32 (nI (p + 1))) 73 s (nI (L.length - 1))) := fr_up (fr_up (fr_up fr_rfl (Or.inl ⟨rfl, rfl⟩)) (Or.inl ⟨rfl, rfl⟩)) (Or.inr ⟨rfl, rfl⟩)
    have e73 : up2 V 57 32 0 73 s = nI L.length := by rw [up2_a (by decide)]; exact hR.2.1
    by_cases q1 : p = L.length - 1
    · obtain ⟨x1, x2, x3⟩ := fin7 (c := (hpK ke L p).2) (s := s) f0 (fun a k q => ⟨by unfold frP; omega, by omega, by omega⟩)
      have hc : (hpK ke L p).2 = p + 1 := by
        unfold hpK
        rw [if_pos q1]
      refine ⟨up7 _ s (hpK ke L p).2, wX12_takeFrom_0 hK ⟨nI_v hs (by omega), ?_⟩, ?_, x1, x2, x3⟩
      · rw [nI_c (show s < 100000 by omega)]
        refine sw_3 h70 ⟨_, wX12_takeFromHeap_0 hK ⟨_, hE0, nI_v hs (by omega), nI_v hs (by omega), nI_v hs (by omega), bt ?_ ⟨rfl, rfl⟩⟩, ?_⟩
        · rw [nI_c (show s < 100000 by omega), up2_s, e73, nI_m1 (by omega), nI_le' (by omega) (by omega)]
          omega
        · rw [nI_c (show s < 100000 by omega), e73, nI_m1 (by omega), nI_1]
          refine m_169 hK hs ?_
          rw [up2_a (by decide), up2_s, hc]
      · unfold hpK
        rw [if_pos q1]
        have R0 : RowM s (L.length - 1) (lastTo L p) (up2 (up2 (up2 V 57 32 0) 57 32 (nI (p + 1))) 73 s (nI (L.length - 1))) := by
          refine ⟨by omega, up2_s, fun i hi => ?_⟩
          rw [f0 72 _ (by omega)]
          unfold lastTo
          rw [if_neg (by omega)]
          exact hR.2.2 i (by omega)
        exact RowM_c (RowM_o R0 (fr_mo up7_fr (fun a k q => by omega))) (fun i hi => nmL_lst hi)
    · generalize hV1 : up2 (up2 (up2 (up2 V 57 32 0) 57 32 (nI (p + 1))) 73 s (nI (L.length - 1))) 72 (80 * s + p) (nI (nmL L (L.length - 1))) = V1
      have f1 : fr (fun a k => (a = 57 ∧ k = 32) ∨ (a = 72 ∧ 80 * s ≤ k ∧ k < 80 * s + 80) ∨ (a = 73 ∧ k = s)) V V1 := by
        rw [← hV1]
        exact fr_up (fr_mo f0 (fun a k q => by omega)) (Or.inr (Or.inl ⟨rfl, by omega, by omega⟩))
      have R1 : RowM s (L.length - 1) (lastTo L p) V1 := by
        refine ⟨by omega, by rw [← hV1, up2_a (by omega), up2_s], fun i hi => ⟨?_, by have := hn i hi; omega⟩⟩
        rw [← hV1]
        unfold lastTo
        by_cases e : i = p
        · rw [e, up2_s, if_pos rfl]
        · rw [up2_k (show 80 * s + i ≠ 80 * s + p by omega), if_neg e, f0 72 _ (by omega)]
          exact (hR.2.2 i (by omega)).1
      have k1 : mKe s ky nT ke V1 := mKe_o hk (fr_mo f1 (fun a k q => by omega))
      obtain ⟨V2, y1, y2, y3, y4⟩ := c12_goUp (G := G) (d := d) (n := n) (J := J) (O := O) (i := p) (c := p + 1) (nm := lastTo L p) hK (by omega) R1 k1 hn (by rw [← hV1, up2_a (by omega), up2_a (by omega), up2_s])
      have hgo : ∀ {V'}, ((nI (hup ke p (lastTo L p) p (p + 1)).2.1 ≠ nI p → ((none : Option Value) = none ∧ V' = V2)) ∧ (nI (hup ke p (lastTo L p) p (p + 1)).2.1 = nI p → ∃ V6, Ev G (d + 3) mX12_goDown 0 [(0, .ref 57), (1, .int (nI s)), (2, .int (nI p))] (K, n, V2, J, O) none (K, n, V6, J, O) ∧ ((none : Option Value) = none ∧ V' = V6))) → Ev G (d + 4) mX12_takeFromHeap 0 [(0, .ref 57), (1, .int (nI s)), (2, .int (nI t))] (K, n, up2 V 57 32 0, J, O) none (K, n, V', J, O) := by
        intro V' hE
        refine wX12_takeFromHeap_0 hK ⟨_, hE0, nI_v hs (by omega), nI_v hs (by omega), nI_v hs (by omega), ?_⟩
        rw [nI_c (show s < 100000 by omega), up2_s, e73, nI_m1 (by omega), nI_1, ix80, ix80, nI_c (show 80 * s + p < 100000 by omega), nI_c (show 80 * s + (L.length - 1) < 100000 by omega), nI_le' (by omega) (by omega), up2_a (show 72 ≠ 57 by decide), (hR.2.2 (L.length - 1) (by omega)).1, hV1]
        exact bf (by omega) ⟨nI_v hs (by omega), nI_v (by omega) (by omega), nI_v (by omega) (by omega), _, V2, y1, hE⟩
      have hle : (hup ke p (lastTo L p) p (p + 1)).2.1 ≤ p := by
        have : ∀ (f : Nat) (nm : Nat → Nat) (i c : Nat), (hup ke f nm i c).2.1 ≤ i := by
          intro f
          induction f with
          | zero => exact fun nm i c => Nat.le_refl _
          | succ f ih =>
            intro nm i c
            unfold hup
            split
            · exact Nat.le_refl _
            · split
              · have := ih (sw nm i ((i - 1) / 2)) ((i - 1) / 2) (c + 1)
                omega
              · exact Nat.le_refl _
        exact this _ _ _ _
      have hfin : ∀ {V' : SV}, Ev G (d + 4) mX12_takeFromHeap 0 [(0, .ref 57), (1, .int (nI s)), (2, .int (nI t))] (K, n, up2 V 57 32 0, J, O) none (K, n, V', J, O) → V' 57 32 = nI (hpK ke L p).2 → fr (fun a k => (a = 57 ∧ k = 32) ∨ (a = 72 ∧ 80 * s ≤ k ∧ k < 80 * s + 80) ∨ (a = 73 ∧ k = s)) V V' → RowM s (L.length - 1) (nmL (hpK ke L p).1) V' → ∃ V', Ev G (d + 5) mX12_takeFrom 0 [(0, .ref 57), (1, .int (nI s)), (2, .int (nI t))] (K, n, V, J, O) none (K, n, V', J, O) ∧ RowM s (L.length - 1) (nmL (hpK ke L p).1) V' ∧ V' 79 s = nI (hpK ke L p).2 ∧ V' 78 s = V 78 s + nI (hpK ke L p).2 ∧ fr (frP s) V V' := by
        intro V' hE h32 hf hRR
        obtain ⟨x1, x2, x3⟩ := fin7 (c := (hpK ke L p).2) (s := s) hf (fun a k q => ⟨by unfold frP; omega, by omega, by omega⟩)
        refine ⟨up7 V' s (hpK ke L p).2, wX12_takeFrom_0 hK ⟨nI_v hs (by omega), ?_⟩, RowM_o hRR (fr_mo up7_fr (fun a k q => by omega)), x1, x2, x3⟩
        rw [nI_c (show s < 100000 by omega)]
        exact sw_3 h70 ⟨V', hE, m_169 hK hs h32⟩
      by_cases q2 : (hup ke p (lastTo L p) p (p + 1)).2.1 = p
      · have hn2 : ∀ i, i < L.length - 1 → (hup ke p (lastTo L p) p (p + 1)).1 i < nT := by
          have : ∀ (f : Nat) (nm : Nat → Nat) (i c m : Nat), i < m → (∀ j, j < m → nm j < nT) → ∀ j, j < m → (hup ke f nm i c).1 j < nT := by
            intro f
            induction f with
            | zero => exact fun nm i c m hi h => h
            | succ f ih =>
              intro nm i c m hi h
              unfold hup
              split
              · exact h
              · split
                · refine ih _ _ _ m (by omega) (fun j hj => ?_)
                  unfold sw
                  split
                  · exact h _ hi
                  · split
                    · exact h _ (by omega)
                    · exact h j hj
                · exact h
          exact this _ _ _ _ _ (by omega) hn
        obtain ⟨V6, x1, x2, x3, x4⟩ := c12_goDown (G := G) (d := d) (n := n) (J := J) (O := O) (i := p) hK (by omega) y2 (mKe_o k1 (fr_mo y4 (fun a k q => by omega))) hn2 y3
        refine hfin (hgo (nf (by rw [q2]) ⟨V6, x1, rfl, rfl⟩)) ?_ ?_ ?_
        · unfold hpK
          rw [if_neg q1, if_pos q2]
          exact x3
        · exact fr_mo (fr_tr (fr_tr f1 y4) x4) (fun a k q => by omega)
        · unfold hpK
          rw [if_neg q1, if_pos q2]
          exact RowM_c x2 (fun i hi => nmL_lst hi)
      · refine hfin (hgo (nt (by rw [nI_ne (by omega) (by omega)]; exact q2) ⟨rfl, rfl⟩)) ?_ ?_ ?_
        · unfold hpK
          rw [if_neg q1, if_neg q2]
          exact y3
        · exact fr_mo (fr_tr f1 y4) (fun a k q => by omega)
        · unfold hpK
          rw [if_neg q1, if_neg q2]
          exact RowM_c y2 (fun i hi => nmL_lst hi)
end
