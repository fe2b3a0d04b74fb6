/-! ===== stone, of both: the whole ===== -/
def uF {α : Type} (f : Nat → α) (j : Nat) (v : α) : Nat → α := fun i => if i = j then v else f i
section
variable {G : Gp} {d : Nat} {K K' : SK} {n : Nat × Nat} {V V' V1 : SV} {J : SJV} {O O' : SO} {N s i nS nT nG : Nat} {ad kd ky ad' kd' ky' : Nat → Nat} {fl : Nat → Nat → Nat} {ins : Nat → Bool} {wt : Nat → Nat} {x : Nat → SX} {x1 x2 : Int32} {y : SX} {α : Type} {f : Nat → α} {v : α}
theorem uF_s : uF f i v i = v := if_pos rfl
theorem uF_o {j : Nat} (h : i ≠ j) : uF f j v i = f i := if_neg h
theorem SCi_cg (h1 : ad' i = ad i) (h2 : kd' i = kd i) (h3 : ky' i = ky i) (h : SCi ad kd ky fl K O V i y) : SCi ad' kd' ky' fl K O V i y := by
  unfold SCi at h ⊢
  rw [h1, h2, h3]
  exact h
theorem SMi_cg (h2 : kd' i = kd i) (h3 : ky' i = ky i) (h : SMi kd ky V i y) : SMi kd' ky' V i y := by
  unfold SMi at h ⊢
  rw [h2, h3]
  exact h
theorem p_stone (hK : StK K) (h96 : 96 ≤ n.1) (hc : cT nT nG fl ins wt V) (hm : mT nT fl ins V) (hS : StR nS nT ad kd ky fl ins K O x V) (hF : ∀ s, nS ≤ s → s < 10 → freeM s V) (hroom : ∀ i, i < nS → ad i + sz (kd i) ≤ n.1) : ∃ (r : Int32) (K' : SK) (n' : Nat × Nat) (V1 V2 : SV) (O' : SO) (nS' : Nat) (ad' kd' ky' : Nat → Nat) (x' : Nat → SX), Ev G (d + 7) mX11_stone 0 [(0, .ref 0), (1, .int x1), (2, .int x2)] (K, n, V, J, O) (some (.int r)) (K', n', V1, J, O') ∧ Ev G (d + 7) mX12_stone 0 [(0, .ref 57), (1, .int x1), (2, .int x2)] (K', n', V1, J, O') (some (.int r)) (K', n', V2, J, O') ∧ ((∀ b, b < n.1 → K' b = K b) ∧ n.1 ≤ n'.1 ∧ n'.1 ≤ n.1 + 5 ∧ n.2 ≤ n'.2 ∧ n'.2 ≤ n.2 + 300) ∧ fr (frNew n.1) V V2 ∧ (∀ a k, a ≠ 33 → O' a k = O a k) ∧ StR nS' nT ad' kd' ky' fl ins K' O' x' V2 ∧ (∀ s, nS' ≤ s → s < 10 → freeM s V2) ∧ (∀ i, i < nS' → ad' i + sz (kd' i) ≤ n'.1) ∧ (∀ i, i < nS → ad' i = ad i ∧ kd' i = kd i ∧ ky' i = ky i) ∧ (∀ i, nS ≤ i → i < nS' → ad' i = n.1) ∧ nS ≤ nS' := by
  have keep : ∀ {rr : Int32}, Ev G (d + 7) mX11_stone 0 [(0, .ref 0), (1, .int x1), (2, .int x2)] (K, n, V, J, O) (some (.int rr)) (K, n, V, J, O) → Ev G (d + 7) mX12_stone 0 [(0, .ref 57), (1, .int x1), (2, .int x2)] (K, n, V, J, O) (some (.int rr)) (K, n, V, J, O) → ∃ (r : Int32) (K' : SK) (n' : Nat × Nat) (V1 V2 : SV) (O' : SO) (nS' : Nat) (ad' kd' ky' : Nat → Nat) (x' : Nat → SX), Ev G (d + 7) mX11_stone 0 [(0, .ref 0), (1, .int x1), (2, .int x2)] (K, n, V, J, O) (some (.int r)) (K', n', V1, J, O') ∧ Ev G (d + 7) mX12_stone 0 [(0, .ref 57), (1, .int x1), (2, .int x2)] (K', n', V1, J, O') (some (.int r)) (K', n', V2, J, O') ∧ ((∀ b, b < n.1 → K' b = K b) ∧ n.1 ≤ n'.1 ∧ n'.1 ≤ n.1 + 5 ∧ n.2 ≤ n'.2 ∧ n'.2 ≤ n.2 + 300) ∧ fr (frNew n.1) V V2 ∧ (∀ a k, a ≠ 33 → O' a k = O a k) ∧ StR nS' nT ad' kd' ky' fl ins K' O' x' V2 ∧ (∀ s, nS' ≤ s → s < 10 → freeM s V2) ∧ (∀ i, i < nS' → ad' i + sz (kd' i) ≤ n'.1) ∧ (∀ i, i < nS → ad' i = ad i ∧ kd' i = kd i ∧ ky' i = ky i) ∧ (∀ i, nS ≤ i → i < nS' → ad' i = n.1) ∧ nS ≤ nS' := fun {rr} e1 e2 => ⟨rr, K, n, V, V, O, nS, ad, kd, ky, x, e1, e2, ⟨fun _ _ => rfl, Nat.le_refl _, by omega, Nat.le_refl _, by omega⟩, fr_rfl, fun _ _ _ => rfl, hS, hF, hroom, fun _ _ => ⟨rfl, rfl, rfl⟩, fun i h1 h2 => absurd h1 (by omega), Nat.le_refl _⟩
  by_cases h1 : ¬ ∃ k, k ≤ 7 ∧ x1 = nI k
  · exact keep (c11_stoneNo1 hK h1) (wX12_stone_0 hK ⟨_, m_win (N := 7) hK (by decide) (by decide) h1, bt rfl ⟨rfl, rfl⟩⟩)
  rw [Classical.not_not] at h1
  obtain ⟨kk, hkd, rfl⟩ := h1
  by_cases h2 : ¬ ∃ k, k ≤ 3 ∧ x2 = nI k
  · exact keep (c11_stoneNo2 hK hkd h2) (wX12_stone_0 hK ⟨_, m_wi (N := 7) hK (by decide) (by decide) hkd, bf one0 ⟨_, ev_n (c12_isField hK) (fun z => h2 ((btw_iff (N := 3) (by decide)).mp z)), nf rfl ⟨rfl, rfl⟩⟩⟩)
  rw [Classical.not_not] at h2
  obtain ⟨y, hy3, rfl⟩ := h2
  have hky : y < 4 := by omega
  have hfY : ∀ {K : SK} {n : Nat × Nat} {V : SV} {O : SO}, StK K → Ev G (d + 6) mX12_isField 0 [(0, .int (nI y))] (K, n, V, J, O) (some (.int 1)) (K, n, V, J, O) := fun hK => ev_b (c12_isField hK) ((btw_iff (N := 3) (by decide)).mpr ⟨y, hy3, rfl⟩)
  have h80 := hc.1.1
  obtain ⟨⟨s1, s2, s3, s4⟩, s5, s6, s7⟩ := id hS
  by_cases h10 : ¬ nS < 10
  · have e10 : nS = 10 := by omega
    refine keep (c11_stoneNo3 hK hkd hky (by rw [s3, e10]; rfl)) (wX12_stone_0 hK ⟨_, m_wi (N := 7) hK (by decide) (by decide) hkd, bf one0 ⟨_, hfY hK, nt one0 (nf (by rw [s4, e10]; rfl) ⟨rfl, rfl⟩)⟩⟩)
  rw [Classical.not_not] at h10
  obtain ⟨z1, hz1, hN⟩ := c11_newStone (G := G) (d := d + 2) (K := K) (n := n) (V := V) (J := J) (O := O) (i := nS) hK h96 hky hkd
  have hK' : StK (kSt K n.1 (kc kk) y) := kSt_St hK h96
  have hIs : IsSt (kSt K n.1 (kc kk) y) n.1 (kc kk) y := kSt_is hky
  have hk : ∀ b, b < n.1 → kSt K n.1 (kc kk) y b = K b := fun b hb => kSt_o hb
  have hszl := stA_sz hkd
  have hsz := sz_ge (kd := kk)
  have f0 : fr (fun a _ => n.1 ≤ a) V (vSt V n.1 (kc kk) nS y) := fun a k ha => if_neg (by omega)
  have v0 : ∀ {j : Nat}, j ≠ 1 → j ≠ 2 → j ≠ 12 → vSt V n.1 (kc kk) nS y n.1 j = 0 := fun {j} h1 h2 h3 => by
    unfold vSt
    rw [if_pos (by omega), if_pos rfl, if_neg h1, if_neg h2, if_neg (fun z => h3 z.1)]
  have v1 : vSt V n.1 (kc kk) nS y n.1 1 = nI nS := by
    unfold vSt
    rw [if_pos (by omega), if_pos rfl, if_pos rfl]
  have v2 : vSt V n.1 (kc kk) nS y n.1 2 = nI y := by
    unfold vSt
    rw [if_pos (by omega), if_pos rfl, if_neg (by decide), if_pos rfl]
  obtain ⟨x', g1, gC, gM⟩ := fill_sep (G := G) (d := d) (K := kSt K n.1 (kc kk) y) (n := (n.1 + sz kk, n.2 + z1)) (J := J) (O := O) (a := n.1) (s := nS) (nG := nG) (fl := fl) (ins := ins) (wt := wt) (x1 := nI kk) (x2 := nI y) hK' hIs h96 hkd hky h10 h80 nT 0 x00 (by omega) (gI_00 hkd)
  have hc0 := cT_fr hc (fr_mo f0 (fun a k q => by omega))
  obtain ⟨Vc, ⟨w1, w2, w3⟩, w4, w5⟩ := gC (vSt V n.1 (kc kk) nS y) hc0 (CR_00 hkd) (v0 (by decide) (by decide) (by decide)) (v0 (by decide) (by decide) (by decide))
  have FC : fr (fun a _ => n.1 ≤ a) V Vc := fr_mo (fr_tr f0 w4) (fun a k q => by unfold frE at q; omega)
  have hcc := cT_fr hc (fr_mo FC (fun a k q => by omega))
  have F1 : fr (fun a k => n.1 ≤ a ∨ (a = 0 ∧ k = 7)) V (up2 Vc 0 7 (nI (nS + 1))) := fr_mo (fr_tr FC (fr_up (P := fun a k => a = 0 ∧ k = 7) fr_rfl ⟨rfl, rfl⟩)) (fun a k q => by omega)
  have eC : Ev G (d + 7) mX11_stone 0 [(0, .ref 0), (1, .int (nI kk)), (2, .int (nI y))] (K, n, V, J, O) (some (.int (nI nS))) (kSt K n.1 (kc kk) y, (n.1 + sz kk, n.2 + z1), up2 Vc 0 7 (nI (nS + 1)), J, up2 O 33 nS (some n.1)) := Ev.mk fun Q hq => c11_stoneGo hK h96 hky hkd s3 h10 hz1 hN (w5 Q (c11_stoneEnd (d := d + 6) hK' hIs hkd hcc (by rw [FC _ _ (by omega)]; exact s3) h10 hq))
  generalize hV1 : up2 Vc 0 7 (nI (nS + 1)) = V1 at F1 eC
  have V1c : ∀ a k, 96 ≤ a → V1 a k = Vc a k := fun a k ha => by rw [← hV1, up2_a (by omega)]
  have V17 : V1 0 7 = nI (nS + 1) := by rw [← hV1, up2_s]
  -- the reference
  have F2 : fr (fun a k => ((a = 70 ∨ a = 71 ∨ a = 76) ∧ k = nS) ∨ (a = 57 ∧ k = 25)) V1 (up2 (up2 (up2 (up2 V1 70 nS (nI kk)) 71 nS (nI y)) 76 nS (-1)) 57 25 (nI (nS + 1))) := fr_up (fr_up (fr_up (fr_up fr_rfl (Or.inl ⟨Or.inl rfl, rfl⟩)) (Or.inl ⟨Or.inr (Or.inl rfl), rfl⟩)) (Or.inl ⟨Or.inr (Or.inr rfl), rfl⟩)) (Or.inr ⟨rfl, rfl⟩)
  have W70 : up2 (up2 (up2 (up2 V1 70 nS (nI kk)) 71 nS (nI y)) 76 nS (-1)) 57 25 (nI (nS + 1)) 70 nS = nI kk := by rw [up2_a (by decide), up2_a (by decide), up2_a (by decide), up2_s]
  have W71 : up2 (up2 (up2 (up2 V1 70 nS (nI kk)) 71 nS (nI y)) 76 nS (-1)) 57 25 (nI (nS + 1)) 71 nS = nI y := by rw [up2_a (by decide), up2_a (by decide), up2_s]
  have W76 : up2 (up2 (up2 (up2 V1 70 nS (nI kk)) 71 nS (nI y)) 76 nS (-1)) 57 25 (nI (nS + 1)) 76 nS = -1 := by rw [up2_a (by decide), up2_s]
  have W25 : up2 (up2 (up2 (up2 V1 70 nS (nI kk)) 71 nS (nI y)) 76 nS (-1)) 57 25 (nI (nS + 1)) 57 25 = nI (nS + 1) := up2_s
  have eM : ∀ {r : Option Value} {V' : SV}, Ev G (d + 7) mX12_stone 75 [(0, .ref 57), (1, .int (nI kk)), (2, .int (nI y)), (3, .int 0)] (kSt K n.1 (kc kk) y, (n.1 + sz kk, n.2 + z1), up2 (up2 (up2 (up2 V1 70 nS (nI kk)) 71 nS (nI y)) 76 nS (-1)) 57 25 (nI (nS + 1)), J, up2 O 33 nS (some n.1)) r (kSt K n.1 (kc kk) y, (n.1 + sz kk, n.2 + z1), V', J, up2 O 33 nS (some n.1)) → Ev G (d + 7) mX12_stone 0 [(0, .ref 57), (1, .int (nI kk)), (2, .int (nI y))] (kSt K n.1 (kc kk) y, (n.1 + sz kk, n.2 + z1), V1, J, up2 O 33 nS (some n.1)) r (kSt K n.1 (kc kk) y, (n.1 + sz kk, n.2 + z1), V', J, up2 O 33 nS (some n.1)) := fun {r} {V'} hE => by
    have e25 : V1 57 25 = nI nS := by rw [F1 _ _ (by omega)]; exact s4
    refine wX12_stone_0 hK' ⟨_, m_wi (N := 7) hK' (by decide) (by decide) hkd, bf one0 ⟨_, hfY hK', nt one0 ?_⟩⟩
    rw [e25, nI_c (by omega), nI_1]
    exact nt (nI_nq (b := 10) (by omega) (by omega) (by omega)) ⟨nI_v h10 (by omega), nI_v h10 (by omega), nI_v h10 (by omega), hE⟩
  generalize hW : up2 (up2 (up2 (up2 V1 70 nS (nI kk)) 71 nS (nI y)) 76 nS (-1)) 57 25 (nI (nS + 1)) = W at F2 W70 W71 W76 W25 eM
  have F12 : fr (fun a k => n.1 ≤ a ∨ (a = 0 ∧ k = 7) ∨ ((a = 70 ∨ a = 71 ∨ a = 76) ∧ k = nS) ∨ (a = 57 ∧ k = 25)) V W := fr_mo (fr_tr F1 F2) (fun a k q => by omega)
  have hfW : freeM nS W := freeM_fr (hF nS (Nat.le_refl _) h10) (fr_mo F12 (fun a k q => by omega))
  obtain ⟨V2, u1, ⟨u2, u3, u4⟩, u5⟩ := gM W (up2 O 33 nS (some n.1)) (mT_fr hm (fr_mo F12 (fun a k q => by omega))) W25 W70 W71 (MR_00 hkd hfW W76) hfW.1.2.2.1 hfW.1.2.2.2
  have FV : fr (fun a k => n.1 ≤ a ∨ (a = 0 ∧ k = 7) ∨ ((a = 70 ∨ a = 71 ∨ a = 76) ∧ k = nS) ∨ (a = 57 ∧ k = 25) ∨ frP nS a k) V V2 := fr_mo (fr_tr F12 u5) (fun a k q => by
    rcases q with (q | q | q | q) | q
    · exact Or.inl q
    · exact Or.inr (Or.inl q)
    · exact Or.inr (Or.inr (Or.inl q))
    · exact Or.inr (Or.inr (Or.inr (Or.inl q)))
    · exact Or.inr (Or.inr (Or.inr (Or.inr q))))
  have FN : ∀ a k, 96 ≤ a → V2 a k = Vc a k := fun a k ha => by rw [u5 _ _ (by unfold frP; omega), F2 _ _ (by omega), V1c a k ha]
  have f96 : fr (fun a _ => a < 96) Vc V2 := fun a k ha => FN a k (Nat.not_lt.mp ha)
  have hCR : CR kk n.1 (fl y) x'.1 V2 := CR_fr hkd w1 (fr_mo f96 (fun a k q => by omega))
  refine ⟨nI nS, _, _, V1, V2, up2 O 33 nS (some n.1), nS + 1, uF ad nS n.1, uF kd nS kk, uF ky nS y, uF x nS x', eC, eM u1, ⟨hk, Nat.le_add_right _ _, by show n.1 + sz kk ≤ n.1 + 5; omega, Nat.le_add_right _ _, by show n.2 + z1 ≤ n.2 + 300; omega⟩, fr_mo FV (fun a k q => by unfold frP at q; unfold frNew; omega), fun a k ha => up2_a ha, ⟨⟨by omega, fun i j hij hj => ?_, ?_, ?_⟩, fun i hi => ?_, fun i hi => ?_, fun i hi => ?_⟩, fun s hs1 hs2 => freeM_fr (hF s (by omega) hs2) (fr_mo FV (fun a k q => by unfold frP at q; omega)), fun i hi => ?_, fun i hi => ⟨uF_o (by omega), uF_o (by omega), uF_o (by omega)⟩, fun i h1 h2 => by rw [show i = nS by omega]; exact uF_s, Nat.le_succ _⟩
  · rw [uF_o (f := ad) (show i ≠ nS by omega), uF_o (f := kd) (show i ≠ nS by omega)]
    by_cases ej : j = nS
    · rw [ej, uF_s]
      exact hroom i (by omega)
    · rw [uF_o ej]
      exact s2 i j hij (by omega)
  · rw [u5 _ _ (by unfold frP; omega), F2 _ _ (by omega)]
    exact V17
  · rw [u5 _ _ (by unfold frP; omega)]
    exact W25
  · by_cases ei : i = nS
    · subst ei
      rw [uF_s (f := x)]
      refine SCi_cg (ad := fun _ => n.1) (kd := fun _ => kk) (ky := fun _ => y) uF_s uF_s uF_s ⟨⟨⟨h96, hkd, hky⟩, up2_s, hIs⟩, ⟨?_, ?_⟩, hCR, ?_, ?_⟩
      · show V2 n.1 1 = nI i
        rw [FN _ _ h96, w4 _ _ (by unfold frE; omega)]
        exact v1
      · show V2 n.1 2 = nI y
        rw [FN _ _ h96, w4 _ _ (by unfold frE; omega)]
        exact v2
      · show V2 n.1 6 = _
        rw [FN _ _ h96]
        exact w2
      · show V2 n.1 7 = _
        rw [FN _ _ h96]
        exact w3
    · have hin : i < nS := by omega
      rw [uF_o (f := x) ei]
      have hr := hroom i hin
      have h9 := (s5 i hin).1.1.1
      obtain ⟨⟨b1, b2, b3⟩, b4, b5, b6⟩ := SCi_fr (V' := V2) (s5 i hin) (fr_mo FV (fun a k q => by unfold frP at q; omega))
      have hl := stA_sz b1.2.1
      exact SCi_cg (ad := ad) (kd := kd) (ky := ky) (uF_o ei) (uF_o ei) (uF_o ei) ⟨⟨b1, by rw [up2_k ei]; exact b2, IsSt_k b3 (by omega) hk⟩, b4, b5, b6⟩
  · by_cases ei : i = nS
    · subst ei
      rw [uF_s (f := x)]
      exact SMi_cg (kd := fun _ => kk) (ky := fun _ => y) uF_s uF_s ⟨⟨hkd, hky⟩, ⟨by rw [u5 _ _ (by unfold frP; omega)]; exact W70, by rw [u5 _ _ (by unfold frP; omega)]; exact W71⟩, u2, u3, u4⟩
    · have hin : i < nS := by omega
      rw [uF_o (f := x) ei]
      have hb := SMi_fr (V' := V2) (SMi_o (V' := V1) (s6 i hin) (fr_mo F1 (fun a k q => by omega)) |> fun h => (show SMi kd ky W i (x i) from by
        obtain ⟨c1, ⟨c2, c3⟩, c4, c5, c6⟩ := h
        refine ⟨c1, ⟨by rw [F2 _ _ (by omega)]; exact c2, by rw [F2 _ _ (by omega)]; exact c3⟩, MR_fr c1.1 c4 (fr_mo F2 (fun a k q => by omega)), by rw [F2 _ _ (by omega)]; exact c5, by rw [F2 _ _ (by omega)]; exact c6⟩)) u5 (fun q => ei q.symm)
      exact SMi_cg (uF_o ei) (uF_o ei) hb
  · by_cases ei : i = nS
    · subst ei
      rw [uF_s (f := kd), uF_s (f := ky), uF_s (f := x)]
      exact g1
    · rw [uF_o (f := kd) ei, uF_o (f := ky) ei, uF_o (f := x) ei]
      exact s7 i (by omega)
  · show uF ad nS n.1 i + sz (uF kd nS kk i) ≤ n.1 + sz kk
    by_cases ei : i = nS
    · rw [ei, uF_s, uF_s]
      exact Nat.le_refl _
    · rw [uF_o ei, uF_o ei]
      have := hroom i (by omega)
      omega
end
