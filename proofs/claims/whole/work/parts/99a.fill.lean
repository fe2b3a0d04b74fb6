/-! ===== a new stone takes what is in, jointly ===== -/
theorem inS_up {t : Nat} {ins : Nat → Bool} (h : ins t = true) : (fun u => u = t ∨ inS t ins u) = inS (t + 1) ins := by
  funext u
  apply propext
  unfold inS
  constructor
  · rintro (rfl | ⟨h1, h2⟩)
    · exact ⟨by omega, h⟩
    · exact ⟨by omega, h2⟩
  · rintro ⟨h1, h2⟩
    by_cases e : u = t
    · exact Or.inl e
    · exact Or.inr ⟨by omega, h2⟩
theorem inS_no {t : Nat} {ins : Nat → Bool} (h : ¬ ins t = true) : inS (t + 1) ins = inS t ins := by
  funext u
  apply propext
  unfold inS
  constructor
  · rintro ⟨h1, h2⟩
    by_cases e : u = t
    · exact absurd (e ▸ h2) h
    · exact ⟨by omega, h2⟩
  · rintro ⟨h1, h2⟩
    exact ⟨by omega, h2⟩
theorem vt89 {kd : Nat} (h : kd ≤ 7) : vt11_94 (kc kd) = some mX5_enter := by
  rcases kd_cases h with rfl | rfl | rfl | rfl | rfl | rfl | rfl | rfl <;> rfl
section
variable {G : Gp} {d : Nat} {K : SK} {n : Nat × Nat} {V V' : SV} {J : SJV} {O : SO} {a s i nT nG ky kd : Nat} {fl : Nat → Nat → Nat} {ins : Nat → Bool} {wt : Nat → Nat} {x1 x2 : Int32}
theorem fill_sep (hK : StK K) (hIs : IsSt K a (kc kd) ky) (h96 : 96 ≤ a) (hkd : kd ≤ 7) (hky : ky < 4) (hs : s < 10) (h80 : nT ≤ 80) : ∀ (k t : Nat) (x : SX), t + k = nT → gI kd (fl ky) (inS t ins) x.1 → ∃ x' : SX, gI kd (fl ky) (inS nT ins) x'.1 ∧ (∀ (V : SV), cT nT nG fl ins wt V → CR kd a (fl ky) x.1 V → V a 6 = x.2.1 → V a 7 = x.2.2 → ∃ V', (CR kd a (fl ky) x'.1 V' ∧ V' a 6 = x'.2.1 ∧ V' a 7 = x'.2.2) ∧ fr (frE (sz kd) a) V V' ∧ ∀ Q, wp G (d + 7) mX11_stone 45 [(0, .ref 0), (1, .int x1), (2, .int x2), (3, .ref a), (4, .int (nI nT))] [] (cz (K, n, V', J, O)) n Q → wp G (d + 7) mX11_stone 45 [(0, .ref 0), (1, .int x1), (2, .int x2), (3, .ref a), (4, .int (nI t))] [] (cz (K, n, V, J, O)) n Q) ∧ (∀ (V : SV) (O : SO), mT nT fl ins V → V 57 25 = nI (s + 1) → V 70 s = nI kd → V 71 s = nI ky → MR kd s x.1 V → V 78 s = x.2.1 → V 79 s = x.2.2 → ∃ V', Ev G (d + 7) mX12_stone 75 [(0, .ref 57), (1, .int x1), (2, .int x2), (3, .int (nI t))] (K, n, V, J, O) (some (.int (nI s))) (K, n, V', J, O) ∧ (MR kd s x'.1 V' ∧ V' 78 s = x'.2.1 ∧ V' 79 s = x'.2.2) ∧ fr (frP s) V V') := by
  intro k
  induction k with
  | zero =>
    intro t x ht hg
    obtain rfl : t = nT := by omega
    refine ⟨x, hg, fun V hc hR h6 h7 => ⟨V, ⟨hR, h6, h7⟩, fr_rfl, fun Q h => h⟩, fun V O hm h25 h70 h71 hR h78 h79 => ⟨V, wX12_stone_75 hK (bt (by rw [hm.2.1]; exact Int32.le_refl _) ⟨?_, rfl⟩), ⟨hR, h78, h79⟩, fr_rfl⟩⟩
    rw [h25, ← nI_1, Int32.add_sub_cancel]
  | succ k ih =>
    intro t x ht hg
    have htn : t < nT := by omega
    have hle : ¬ nI nT ≤ nI t := by
      rw [nI_le' (by omega) (by omega)]
      omega
    -- the class's round
    have cls : ∀ {V V' : SV}, cT nT nG fl ins wt V → (if ins t = true then Ev G (d + 6) mX5_enter 0 [(0, .ref a), (1, .int (nI t))] (K, n, V, J, O) none (K, n, V', J, O) else V' = V) → ∀ Q, wp G (d + 7) mX11_stone 45 [(0, .ref 0), (1, .int x1), (2, .int x2), (3, .ref a), (4, .int (nI (t + 1)))] [] (cz (K, n, V', J, O)) n Q → wp G (d + 7) mX11_stone 45 [(0, .ref 0), (1, .int x1), (2, .int x2), (3, .ref a), (4, .int (nI t))] [] (cz (K, n, V, J, O)) n Q := fun {V} {V'} hc hE Q hq => by
      refine vX11_stone_45 (frf_cz (b := 1) (k0 hK) (by decide) rfl (fi_cz (k1 hK) (by decide) rfl ⟨fun z => ?_, fun _ => ?_⟩))
      · rw [hc.2.1] at z
        exact absurd z hle
      · refine frf_cz (b := 1) (k0 hK) (by decide) rfl ⟨_, cz_obj (k1 hK), n, cR_same (h := cz (K, n, V, J, O)) rfl, ?_⟩
        refine c8_isIn (d := d + 6) hK hc htn _ (fun _ => ⟨_, rfl, ?_⟩)
        rw [nI_1]
        by_cases c : ins t = true
        · rw [if_pos c] at hE
          exact bz_y c ⟨kc kd, _, mX5_enter, cz_obj (st_0 hIs), vt89 hkd, n, cR_same (h := cz (K, n, V, J, O)) rfl, hE _ (fun _ => ⟨rfl, hq⟩)⟩
        · rw [if_neg c] at hE
          rw [hE] at hq
          exact bz_n c hq
    by_cases c : ins t = true
    · -- it is in
      obtain ⟨g', cc, M, q1, q2, q3, q4⟩ := put_any (G := G) (s := s) hK hkd hIs h96 hs hg (nT := nT) (fun u hu => by have := hu.1; omega) (t := t) htn (fun q => by have := q.1; omega) h80
      rw [inS_up c] at q2
      obtain ⟨x', y1, y2, y3⟩ := ih (t + 1) (stx x g' cc) (by omega) q2
      refine ⟨x', y1, fun V hc hR h6 h7 => ?_, fun V O hm h25 h70 h71 hR h78 h79 => ?_⟩
      · obtain ⟨V1, z1, z2, z3, z4, z5⟩ := c5_enter hK hkd hIs h96 q1 (q3 d) n J O V (cT_cKe hc ky hky) hR
        have f9 : fr (fun x _ => 96 ≤ x) V V1 := fr_mo z5 (fun x k q => by unfold frE at q; omega)
        obtain ⟨V', w1, w2, w3⟩ := y2 V1 (cT_fr hc (fr_mo f9 (fun x k q => by omega))) z2 (by rw [z4, h6]; rfl) (by rw [z3]; rfl)
        exact ⟨V', w1, fr_mo (fr_tr z5 w2) (fun x k q => q.elim id id), fun Q hq => cls hc (by rw [if_pos c]; exact z1) Q (w3 Q hq)⟩
      · obtain ⟨V1, z1, z2, z3, z4, z5⟩ := q4 (d + 1) n J O V ⟨hs, hky, h80, h71, fun t ht => hm.2.2.1 ky t hky ht⟩ h70 hR
        obtain ⟨V', w1, w2, w3⟩ := y3 V1 O (mT_fr hm (fr_mo z5 (fun x k q => by unfold frP at q; omega))) (by rw [z5 _ _ (by unfold frP; omega)]; exact h25) (by rw [z5 _ _ (by unfold frP; omega)]; exact h70) (by rw [z5 _ _ (by unfold frP; omega)]; exact h71) z2 (by rw [z4, h78]; rfl) (by rw [z3]; rfl)
        refine ⟨V', wX12_stone_75 hK (bf (by rw [hm.2.1]; exact hle) ⟨nI_v (by omega) (by omega), ?_⟩), w2, fr_mo (fr_tr z5 w3) (fun x k q => q.elim id id)⟩
        rw [nI_c (by omega), hm.2.2.2 t htn, nI_1]
        refine bz_y c ⟨V1, ?_, w1⟩
        rw [h25, ← nI_1, Int32.add_sub_cancel]
        exact z1
    · rw [← inS_no c] at hg
      obtain ⟨x', y1, y2, y3⟩ := ih (t + 1) x (by omega) hg
      refine ⟨x', y1, fun V hc hR h6 h7 => ?_, fun V O hm h25 h70 h71 hR h78 h79 => ?_⟩
      · obtain ⟨V', w1, w2, w3⟩ := y2 V hc hR h6 h7
        exact ⟨V', w1, w2, fun Q hq => cls hc (by rw [if_neg c]) Q (w3 Q hq)⟩
      · obtain ⟨V', w1, w2, w3⟩ := y3 V O hm h25 h70 h71 hR h78 h79
        refine ⟨V', wX12_stone_75 hK (bf (by rw [hm.2.1]; exact hle) ⟨nI_v (by omega) (by omega), ?_⟩), w2, w3⟩
        rw [nI_c (by omega), hm.2.2.2 t htn, nI_1]
        exact bz_n c w1
end
