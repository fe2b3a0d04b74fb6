/-! ===== trees as steps; every kind; entering and leaving ===== -/
def kc (kd : Nat) : Nat := match kd with
  | 0 => 5
  | 1 => 3
  | 2 => 4
  | 3 => 2
  | 4 => 7
  | 5 => 10
  | 6 => 1
  | _ => 6
section
variable {G : Gp} {d : Nat} {K : SK} {V V' : SV}
variable {b ci ky s nT t kd : Nat} {ke : Nat → Nat} {S : Nat → Prop} {g : GS} {A B L : List Nat} {lc rc : Nat → Option Nat} {root : Option Nat} {bi : Int32}
theorem put5 (hK : StK K) (ha : IsSt K b 10 ky) (hb : 96 ≤ b) (hg : gI 5 ke S g) (hS : ∀ u, S u → u < nT) (ht : t < nT) (hn : ¬ S t) (h80 : nT ≤ 80) : ∃ g' c, gI 5 ke (fun u => u = t ∨ S u) g' ∧ (∀ d, stC 5 G (d + 5) K mX10_putName b ky nT ke t (CR 5 b ke g) (CR 5 b ke g') c) ∧ (∀ d, stM G (d + 5) K mX12_putIn 5 s ky nT ke t (MR 5 s g) (MR 5 s g') c) := by
  obtain ⟨L, lc, rc, root, bi⟩ := g
  obtain ⟨h1, h2, h3⟩ := hg
  dsimp only at h1 h2 h3
  have hl := hld_room h1 hS ht hn
  have hL : ∀ u, u ∈ L → u < nT := fun u hu => hS u ((h1.2 u).mp hu)
  have htL : t ∉ L := fun hx => hn ((h1.2 t).mp hx)
  obtain ⟨A, B, e, hA, hB⟩ := srt_where h2 htL
  have hgs : ∃ g' c, gI 5 ke (fun u => u = t ∨ S u) g' ∧ g'.1.length = L.length + 1 ∧ (match root with
    | none => g'.2.1 = upF lc t none ∧ g'.2.2.1 = upF rc t none ∧ g'.2.2.2.1 = some t ∧ c = 0
    | some k => g'.2.1 = pl ke lc t (dn ke lc rc t 80 k 0).1 ∧ g'.2.2.1 = pr ke rc t (dn ke lc rc t 80 k 0).1 ∧ g'.2.2.2.1 = root ∧ c = (dn ke lc rc t 80 k 0).2) := by
    cases hr : root with
    | none =>
      rw [hr, TS_none] at h3
      subst h3
      refine ⟨([t], upF lc t none, upF rc t none, some t, bi), 0, ⟨?_, List.pairwise_singleton _ _, ⟨[], [], rfl, ?_, ?_⟩⟩, rfl, rfl, rfl, rfl, rfl⟩
      · exact hld_put (A := []) (B := []) h1 hn
      · dsimp only
        rw [upF_s]; exact TS_none.mpr rfl
      · dsimp only
        rw [upF_s]; exact TS_none.mpr rfl
    | some k =>
      subst e
      rw [hr] at h3
      obtain ⟨p, c', g1, g2, g3, g4, g5, g6⟩ := put_pure (f := 80) (c := 0) (by omega) (TS_len h3) h2 hA hB
      refine ⟨(A ++ t :: B, pl ke lc t p, pr ke rc t p, some k, bi), c', ⟨hld_put h1 hn, srt_put h2 hA hB, TS_le g6 (by omega)⟩, by simp; omega, ?_⟩
      dsimp only
      rw [g1]
      exact ⟨rfl, rfl, rfl, rfl⟩
  obtain ⟨⟨L', lc', rc', root', bi'⟩, c, x1, x2, x3⟩ := hgs
  dsimp only at x2 x3
  refine ⟨(L', lc', rc', root', bi'), c, x1, fun d n J O V hk hR h8 => ?_, fun d n J O V hk h70 hR => ?_⟩
  · obtain ⟨V', y1, y2, y3⟩ := c10_putName (G := G) (d := d + 3) (n := n) (J := J) (O := O) hK ha hb hk hR h3 hL rfl (show L.length < 80 by omega) ht h8
    refine ⟨V', y1, ?_, ?_, fr_mo y3 (fun a k q => by unfold frB; omega)⟩
    · show TrC b L'.length lc' rc' root' V'
      rw [x2]
      cases root with
      | none =>
        obtain ⟨rfl, rfl, rfl, rfl⟩ := x3
        exact y2.1
      | some k =>
        obtain ⟨rfl, rfl, rfl, rfl⟩ := x3
        exact y2.1
    · cases root with
      | none =>
        obtain ⟨rfl, rfl, rfl, rfl⟩ := x3
        exact y2.2
      | some k =>
        obtain ⟨rfl, rfl, rfl, rfl⟩ := x3
        exact y2.2
  · have hs := hk.1
    have f0 : fr (fun a k => a = 57 ∧ k = 32) V (up2 V 57 32 0) := f57
    obtain ⟨V', y1, y2, y3⟩ := c12_putInTree (G := G) (d := d + 1) (n := n) (J := J) (O := O) hK (mKe_o hk (fr_mo f0 (fun a k q => by omega))) (TrM.fr hR f0) h3 hL rfl (show L.length < 80 by omega) ht htL (by rw [up2_s]; rfl)
    have h32 : V' 57 32 = nI c := by
      cases root with
      | none =>
        obtain ⟨rfl, rfl, rfl, rfl⟩ := x3
        exact y2.2
      | some k =>
        obtain ⟨rfl, rfl, rfl, rfl⟩ := x3
        exact y2.2
    have hT : TrM s L'.length lc' rc' root' V' := by
      rw [x2]
      cases root with
      | none =>
        obtain ⟨rfl, rfl, rfl, rfl⟩ := x3
        exact y2.1
      | some k =>
        obtain ⟨rfl, rfl, rfl, rfl⟩ := x3
        exact y2.1
    have f2 : fr (frT s) V V' := fr_mo (fr_tr f0 y3) (fun a k q => by unfold frT at *; omega)
    obtain ⟨z1, z2, z3⟩ := fin7 (c := c) (s := s) f2 (fun a k q => ⟨by unfold frT at q; unfold frP; omega, by unfold frT at q; omega, by unfold frT at q; omega⟩)
    refine ⟨up7 V' s c, wX12_putIn_0 hK ⟨nI_v hs (by omega), ?_⟩, TrM_o hT (fr_mo up7_fr (fun a k q => by omega)), z1, z2, z3⟩
    rw [nI_c (show s < 100000 by omega)]
    exact sw_5 h70 ⟨V', y1, m_197 hK hs h32⟩
theorem take5 (hK : StK K) (ha : IsSt K b 10 ky) (hb : 96 ≤ b) (hg : gI 5 ke S g) (hS : ∀ u, S u → u < nT) (ht : S t) (h80 : nT ≤ 80) : ∃ g' c, gI 5 ke (fun u => u ≠ t ∧ S u) g' ∧ (∀ d, stC 5 G (d + 5) K mX10_takeName b ky nT ke t (CR 5 b ke g) (CR 5 b ke g') c) ∧ (∀ d, stM G (d + 5) K mX12_takeFrom 5 s ky nT ke t (MR 5 s g) (MR 5 s g') c) := by
  obtain ⟨L, lc, rc, root, bi⟩ := g
  obtain ⟨h1, h2, h3⟩ := hg
  dsimp only at h1 h2 h3
  obtain ⟨A, B, rfl⟩ := hld_split h1 ht
  have hL : ∀ u, u ∈ A ++ t :: B → u < nT := fun u hu => hS u ((h1.2 u).mp hu)
  cases root with
  | none =>
    rw [TS_none] at h3
    simp at h3
  | some k =>
    have hlen : (A ++ t :: B).length - 1 = (A ++ B).length := by simp only [List.length_append, List.length_cons]; omega
    refine ⟨(A ++ B, (tkT ke lc rc k t).1, (tkT ke lc rc k t).2.1, (tkT ke lc rc k t).2.2.1, bi), (tkT ke lc rc k t).2.2.2, ⟨(hld_take h1).1, (srt_split h2).2.2, tk_pure h3 h2⟩, fun d n J O V hk hR h8 => ?_, fun d n J O V hk h70 hR => ?_⟩
    · obtain ⟨V', y1, y2, y3, y4⟩ := c10_takeName (G := G) (d := d + 3) (n := n) (J := J) (O := O) hK ha hb hk hR h3 h2 hL rfl h8
      refine ⟨V', y1, ?_, y3, fr_mo y4 (fun a k q => by unfold frB; omega)⟩
      show TrC b (A ++ B).length _ _ _ V'
      rw [← hlen]
      exact y2
    · have hs := hk.1
      have f0 : fr (fun a k => a = 57 ∧ k = 32) V (up2 V 57 32 0) := f57
      obtain ⟨V', y1, y2, y3, y4⟩ := c12_takeFromTree (G := G) (d := d + 1) (n := n) (J := J) (O := O) hK (mKe_o hk (fr_mo f0 (fun a k q => by omega))) (TrM.fr hR f0) h3 h2 hL rfl (by rw [up2_s]; rfl)
      have f2 : fr (frT s) V V' := fr_mo (fr_tr f0 y4) (fun a k q => by unfold frT at *; omega)
      obtain ⟨z1, z2, z3⟩ := fin7 (c := (tkT ke lc rc k t).2.2.2) (s := s) f2 (fun a k q => ⟨by unfold frT at q; unfold frP; omega, by unfold frT at q; omega, by unfold frT at q; omega⟩)
      refine ⟨up7 V' s (tkT ke lc rc k t).2.2.2, wX12_takeFrom_0 hK ⟨nI_v hs (by omega), ?_⟩, ?_, z1, z2, z3⟩
      · rw [nI_c (show s < 100000 by omega)]
        exact sw_5 h70 ⟨V', y1, m_169 hK hs y3⟩
      · show TrM s (A ++ B).length _ _ _ _
        rw [← hlen]
        exact TrM_o y2 (fr_mo up7_fr (fun a k q => by omega))
theorem kd_cases (h : kd ≤ 7) : kd = 0 ∨ kd = 1 ∨ kd = 2 ∨ kd = 3 ∨ kd = 4 ∨ kd = 5 ∨ kd = 6 ∨ kd = 7 := by omega
/-- putting, whatever the kind -/
theorem put_any (hK : StK K) (hkd : kd ≤ 7) (ha : IsSt K b (kc kd) ky) (hb : 96 ≤ b) (hs : s < 10) (hg : gI kd ke S g) (hS : ∀ u, S u → u < nT) (ht : t < nT) (hn : ¬ S t) (h80 : nT ≤ 80) : ∃ g' c M, vt5_38 (kc kd) = some M ∧ gI kd ke (fun u => u = t ∨ S u) g' ∧ (∀ d, stC (sz kd) G (d + 5) K M b ky nT ke t (CR kd b ke g) (CR kd b ke g') c) ∧ (∀ d, stM G (d + 5) K mX12_putIn kd s ky nT ke t (MR kd s g) (MR kd s g') c) := by
  rcases kd_cases hkd with rfl | rfl | rfl | rfl | rfl | rfl | rfl | rfl
  · exact ⟨g, 0, mX5_putName, rfl, trivial, fun d => (put0 (d := d) (s := s) hK ha hs).1, fun d => (put0 (d := d) (s := s) hK ha hs).2⟩
  · have hl := hld_room hg hS ht hn
    exact ⟨(g.1 ++ [t], g.2), 1, mX3_putName, rfl, hld_put (A := g.1) (B := []) (by rw [List.append_nil]; exact hg) hn, fun d => (put1 (d := d) (s := s) hK ha hb ht hl).1, fun d => (put1 (d := d) (s := s) hK ha hb ht hl).2⟩
  · obtain ⟨L, g2⟩ := g
    obtain ⟨h1, h2⟩ := hg
    have hl := hld_room h1 hS ht hn
    obtain ⟨A, B, rfl, hA, hB⟩ := srt_where h2 (fun hx => hn ((h1.2 t).mp hx))
    exact ⟨(A ++ t :: B, g2), _, mX4_putName, rfl, ⟨hld_put h1 hn, srt_put h2 hA hB⟩, fun d => (put2 (d := d) (s := s) hK ha hb ht (by dsimp only at hl; omega) (fun u hu => hS u ((h1.2 u).mp hu)) hA hB).1, fun d => (put2 (d := d) (s := s) hK ha hb ht (by dsimp only at hl; omega) (fun u hu => hS u ((h1.2 u).mp hu)) hA hB).2⟩
  · obtain ⟨L, g2⟩ := g
    have hl := hld_room hg hS ht hn
    exact ⟨((hpP ke L t).1, g2), (hpP ke L t).2, mX2_putName, rfl, hpP_hld hg hn, fun d => (put3 (L := L) (d := d) (s := s) hK ha hb ht (by dsimp only at hl; omega) (fun u hu => hS u ((hg.2 u).mp hu))).1, fun d => (put3 (L := L) (d := d) (s := s) hK ha hb ht (by dsimp only at hl; omega) (fun u hu => hS u ((hg.2 u).mp hu))).2⟩
  · have hl := hld_room hg hS ht hn
    exact ⟨(g.1 ++ [t], g.2), 1, mX7_putName, rfl, hld_put (A := g.1) (B := []) (by rw [List.append_nil]; exact hg) hn, fun d => (put4 (d := d) (s := s) hK ha hb ht hl (fun u hu => hS u ((hg.2 u).mp hu))).1, fun d => (put4 (d := d) (s := s) hK ha hb ht hl (fun u hu => hS u ((hg.2 u).mp hu))).2⟩
  · obtain ⟨g', c, h⟩ := put5 (G := G) (s := s) hK ha hb hg hS ht hn h80
    exact ⟨g', c, mX10_putName, rfl, h⟩
  · exact ⟨_, 2, mX1_putName, rfl, trivial, fun d => (put6 (d := d) (s := s) hK ha hb ht hs).1, fun d => (put6 (d := d) (s := s) hK ha hb ht hs).2⟩
  · obtain ⟨L, g2⟩ := g
    obtain ⟨h1, h2⟩ := hg
    have hl := hld_room h1 hS ht hn
    obtain ⟨A, B, rfl, hA, hB⟩ := srt_where h2 (fun hx => hn ((h1.2 t).mp hx))
    exact ⟨(A ++ t :: B, g2), _, mX6_putName, rfl, ⟨hld_put h1 hn, srt_put h2 hA hB⟩, fun d => (put7 (d := d) (s := s) hK ha hb ht (by dsimp only at hl; omega) (fun u hu => hS u ((h1.2 u).mp hu)) hA hB).1, fun d => (put7 (d := d) (s := s) hK ha hb ht (by dsimp only at hl; omega) (fun u hu => hS u ((h1.2 u).mp hu)) hA hB).2⟩
/-- taking, whatever the kind -/
theorem take_any (hK : StK K) (hkd : kd ≤ 7) (ha : IsSt K b (kc kd) ky) (hb : 96 ≤ b) (hs : s < 10) (hg : gI kd ke S g) (hS : ∀ u, S u → u < nT) (ht : S t) (h80 : nT ≤ 80) : ∃ g' c M, vt5_48 (kc kd) = some M ∧ gI kd ke (fun u => u ≠ t ∧ S u) g' ∧ (∀ d, stC (sz kd) G (d + 5) K M b ky nT ke t (CR kd b ke g) (CR kd b ke g') c) ∧ (∀ d, stM G (d + 5) K mX12_takeFrom kd s ky nT ke t (MR kd s g) (MR kd s g') c) := by
  have htn := hS t ht
  rcases kd_cases hkd with rfl | rfl | rfl | rfl | rfl | rfl | rfl | rfl
  · exact ⟨g, 0, mX5_takeName, rfl, trivial, fun d => (take0 (d := d) (s := s) hK ha hs).1, fun d => (take0 (d := d) (s := s) hK ha hs).2⟩
  · obtain ⟨L, g2⟩ := g
    obtain ⟨A, B, rfl⟩ := hld_split hg ht
    obtain ⟨h1, h2, h3⟩ := hld_take hg
    exact ⟨(A ++ B, g2), _, mX3_takeName, rfl, h1, fun d => (take1 (d := d) (s := s) hK ha hb h2 htn).1, fun d => (take1 (d := d) (s := s) hK ha hb h2 htn).2⟩
  · obtain ⟨L, g2⟩ := g
    obtain ⟨A, B, rfl⟩ := hld_split hg.1 ht
    obtain ⟨h1, h2, h3⟩ := hld_take hg.1
    exact ⟨(A ++ B, g2), _, mX4_takeName, rfl, ⟨h1, (srt_split hg.2).2.2⟩, fun d => (take2 (d := d) (s := s) hK ha hb htn (fun u hu => hS u ((hg.1.2 u).mp hu)) hg.2).1, fun d => (take2 (d := d) (s := s) hK ha hb htn (fun u hu => hS u ((hg.1.2 u).mp hu)) hg.2).2⟩
  · obtain ⟨L, g2⟩ := g
    obtain ⟨A, B, rfl⟩ := hld_split hg ht
    obtain ⟨h1, h2, h3⟩ := hld_take hg
    have hl := hld_len hg hS
    have hp := hpK_hld (ke := ke) (p := A.length) hg (by simp)
    rw [show nmL (A ++ t :: B) A.length = t from nmL_at] at hp
    exact ⟨((hpK ke (A ++ t :: B) A.length).1, g2), _, mX2_takeName, rfl, hp, fun d => (take3 (d := d) (s := s) hK ha hb htn (by simp) (by dsimp only at hl; omega) (ffst_at h2) nmL_at (fun u hu => hS u ((hg.2 u).mp hu))).1, fun d => (take3 (d := d) (s := s) hK ha hb htn (by simp) (by dsimp only at hl; omega) (ffst_at h2) nmL_at (fun u hu => hS u ((hg.2 u).mp hu))).2⟩
  · obtain ⟨L, g2⟩ := g
    obtain ⟨A, B, rfl⟩ := hld_split hg ht
    obtain ⟨h1, h2, h3⟩ := hld_take hg
    exact ⟨(A ++ B, g2), _, mX7_takeName, rfl, h1, fun d => (take4 (d := d) (s := s) hK ha hb h2 htn (fun u hu => hS u ((hg.2 u).mp hu))).1, fun d => (take4 (d := d) (s := s) hK ha hb h2 htn (fun u hu => hS u ((hg.2 u).mp hu))).2⟩
  · obtain ⟨g', c, h⟩ := take5 (G := G) (s := s) hK ha hb hg hS ht h80
    exact ⟨g', c, mX10_takeName, rfl, h⟩
  · exact ⟨g, 1, mX1_takeName, rfl, trivial, fun d => (take6 (d := d) (s := s) hK ha hs).1, fun d => (take6 (d := d) (s := s) hK ha hs).2⟩
  · obtain ⟨L, g2⟩ := g
    obtain ⟨A, B, rfl⟩ := hld_split hg.1 ht
    obtain ⟨h1, h2, h3⟩ := hld_take hg.1
    exact ⟨(A ++ B, g2), _, mX6_takeName, rfl, ⟨h1, (srt_split hg.2).2.2⟩, fun d => (take7 (d := d) (s := s) hK ha hb htn (fun u hu => hS u ((hg.1.2 u).mp hu)) hg.2).1, fun d => (take7 (d := d) (s := s) hK ha hb htn (fun u hu => hS u ((hg.1.2 u).mp hu)) hg.2).2⟩
theorem kc_in (hkd : kd ≤ 7) : kc kd ∈ [1, 2, 3, 4, 5, 6, 7, 10] := by
  rcases kd_cases hkd with rfl | rfl | rfl | rfl | rfl | rfl | rfl | rfl <;> decide
/-- what a stone of the class holds does not hang on its looks -/
theorem sz_ge {kd : Nat} : 2 ≤ sz kd ∧ sz kd ≤ 5 := by
  unfold sz
  split <;> omega
theorem CR_fr (hkd : kd ≤ 7) (h : CR kd b ke g V) (hf' : fr (fun a k => ¬ (b + 2 ≤ a ∧ a < b + sz kd) ∧ (a = b → k < 10)) V V') : CR kd b ke g V' := by
  have hf : ∀ {z : Nat}, sz kd = z → fr (fun a k => ¬ (b + 2 ≤ a ∧ a < b + z) ∧ (a = b → k < 10)) V V' := fun e => e ▸ hf'
  have hrow : ∀ {m : Nat} {nm : Nat → Nat}, 3 ≤ sz kd → RowC b m nm V → RowC b m nm V' := fun hz h => ⟨h.1, by rw [hf' b 10 (by omega)]; exact h.2.1, fun i hi => by rw [hf' (b + 2) i (by omega)]; exact h.2.2 i hi⟩
  rcases kd_cases hkd with rfl | rfl | rfl | rfl | rfl | rfl | rfl | rfl
  · trivial
  · exact hrow (by decide) h
  · exact hrow (by decide) h
  · exact hrow (by decide) h
  · exact hrow (by decide) h
  · exact ⟨h.1, by rw [hf (z := 5) rfl b 13 (by omega)]; exact h.2.1, by rw [hf (z := 5) rfl b 12 (by omega)]; exact h.2.2.1, fun t ht => by rw [hf (z := 5) rfl (b + 2) t (by omega), hf (z := 5) rfl (b + 3) t (by omega)]; exact h.2.2.2 t ht⟩
  · show V' b 11 = _
    rw [hf (z := 3) rfl b 11 (by omega)]
    exact h
  · exact ⟨hrow (by decide) h.1, fun j hj => by rw [hf (z := 4) rfl (b + 3) j (by omega)]; exact h.2 j hj⟩
theorem MR_fr (hkd : kd ≤ 7) (h : MR kd s g V) (hf : fr (fun a k => ((a = 72 ∨ a = 74 ∨ a = 75) → ¬ (80 * s ≤ k ∧ k < 80 * s + 80)) ∧ ((a = 73 ∨ a = 76 ∨ a = 77) → k ≠ s)) V V') : MR kd s g V' := by
  have hrow : ∀ {m : Nat} {nm : Nat → Nat}, RowM s m nm V → RowM s m nm V' := fun h => ⟨h.1, by rw [hf 73 s (by omega)]; exact h.2.1, fun i hi => by rw [hf 72 _ (by have := h.1; omega)]; exact h.2.2 i hi⟩
  rcases kd_cases hkd with rfl | rfl | rfl | rfl | rfl | rfl | rfl | rfl
  · show V' 73 s = 0
    rw [hf 73 s (by omega)]
    exact h
  · exact hrow h
  · exact hrow h
  · exact hrow h
  · exact hrow h
  · exact ⟨h.1, by rw [hf 73 s (by omega)]; exact h.2.1, by rw [hf 76 s (by omega)]; exact h.2.2.1, fun t ht => by rw [hf 74 _ (by omega), hf 75 _ (by omega)]; exact h.2.2.2 t ht⟩
  · show V' 77 s = _
    rw [hf 77 s (by omega)]
    exact h
  · exact hrow h
def frE (z b : Nat) : Nat → Nat → Prop := fun a k => (b + 2 ≤ a ∧ a < b + z) ∨ (a = b ∧ 6 ≤ k)
theorem c5_enter (hK : StK K) (hkd : kd ≤ 7) (ha : IsSt K b (kc kd) ky) (hb : 96 ≤ b) {M : AM} (hM : vt5_38 (kc kd) = some M) {g' : GS} {c : Nat} (hst : stC (sz kd) G (d + 5) K M b ky nT ke t (CR kd b ke g) (CR kd b ke g') c) (n : Nat × Nat) (J : SJV) (O : SO) (V : SV) (hk : cKe ky nT ke V) (hR : CR kd b ke g V) : ∃ V', Ev G (d + 6) mX5_enter 0 [(0, .ref b), (1, .int (nI t))] (K, n, V, J, O) none (K, n, V', J, O) ∧ CR kd b ke g' V' ∧ V' b 7 = nI c ∧ V' b 6 = V b 6 + nI c ∧ fr (frE (sz kd) b) V V' := by
  have f0 : fr (fun a k => a = b ∧ k = 8) V (up2 V b 8 0) := fr_up fr_rfl ⟨rfl, rfl⟩
  obtain ⟨V1, z1, z2, z3, z4⟩ := hst n J O (up2 V b 8 0) (cKe_8 hk hb f0) (CR_fr hkd hR (fr_mo f0 (fun a k q => by omega))) (by rw [up2_s]; rfl)
  have f1 : fr (fun a k => a = b ∧ (k = 6 ∨ k = 7)) V1 (up2 (up2 V1 b 7 (V1 b 8)) b 6 (V1 b 6 + V1 b 8)) := fr_up (fr_up fr_rfl ⟨rfl, Or.inr rfl⟩) ⟨rfl, Or.inl rfl⟩
  refine ⟨up2 (up2 V1 b 7 (V1 b 8)) b 6 (V1 b 6 + V1 b 8), wX5_enter_0 hK ha (kc_in hkd) ⟨M, hM, V1, z1, rfl, rfl⟩, CR_fr hkd z2 (fr_mo f1 (fun a k q => by omega)), ?_, ?_, ?_⟩
  · rw [up2_k (by decide), up2_s, z3]
  · rw [up2_s, z3, z4 b 6 (by unfold frB; omega), up2_k (by decide)]
  · exact fr_mo (fr_tr (fr_tr f0 z4) f1) (fun a k q => by have hz := sz_ge (kd := kd); unfold frB at q; unfold frE; omega)
theorem c5_leave (hK : StK K) (hkd : kd ≤ 7) (ha : IsSt K b (kc kd) ky) (hb : 96 ≤ b) {M : AM} (hM : vt5_48 (kc kd) = some M) {g' : GS} {c : Nat} (hst : stC (sz kd) G (d + 5) K M b ky nT ke t (CR kd b ke g) (CR kd b ke g') c) (n : Nat × Nat) (J : SJV) (O : SO) (V : SV) (hk : cKe ky nT ke V) (hR : CR kd b ke g V) : ∃ V', Ev G (d + 6) mX5_leave 0 [(0, .ref b), (1, .int (nI t))] (K, n, V, J, O) none (K, n, V', J, O) ∧ CR kd b ke g' V' ∧ V' b 7 = nI c ∧ V' b 6 = V b 6 + nI c ∧ fr (frE (sz kd) b) V V' := by
  have f0 : fr (fun a k => a = b ∧ k = 8) V (up2 V b 8 0) := fr_up fr_rfl ⟨rfl, rfl⟩
  obtain ⟨V1, z1, z2, z3, z4⟩ := hst n J O (up2 V b 8 0) (cKe_8 hk hb f0) (CR_fr hkd hR (fr_mo f0 (fun a k q => by omega))) (by rw [up2_s]; rfl)
  have f1 : fr (fun a k => a = b ∧ (k = 6 ∨ k = 7)) V1 (up2 (up2 V1 b 7 (V1 b 8)) b 6 (V1 b 6 + V1 b 8)) := fr_up (fr_up fr_rfl ⟨rfl, Or.inr rfl⟩) ⟨rfl, Or.inl rfl⟩
  refine ⟨up2 (up2 V1 b 7 (V1 b 8)) b 6 (V1 b 6 + V1 b 8), wX5_leave_0 hK ha (kc_in hkd) ⟨M, hM, V1, z1, rfl, rfl⟩, CR_fr hkd z2 (fr_mo f1 (fun a k q => by omega)), ?_, ?_, ?_⟩
  · rw [up2_k (by decide), up2_s, z3]
  · rw [up2_s, z3, z4 b 6 (by unfold frB; omega), up2_k (by decide)]
  · exact fr_mo (fr_tr (fr_tr f0 z4) f1) (fun a k q => by have hz := sz_ge (kd := kd); unfold frB at q; unfold frE; omega)
end
