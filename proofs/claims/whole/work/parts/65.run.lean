/-! ===== an ask through a stone: sums, tables ===== -/
/-- where both ends are found, and the looks -/
def smP (q : QD) (fl : Nat → Nat → Nat) (A B ky m : Nat) (nm : Nat → Nat) : Nat × Nat × Nat := ((loP (fl ky) nm m (loE q A B ky) 0).1, (loP (fl ky) nm m (hiE q A B ky) (loP (fl ky) nm m (loE q A B ky) 0).2).1, (loP (fl ky) nm m (hiE q A B ky) (loP (fl ky) nm m (loE q A B ky) 0).2).2)
def smA (q : QD) (fl : Nat → Nat → Nat) (A B ky m : Nat) (nm : Nat → Nat) : Int32 := if (smP q fl A B ky m nm).1 < (smP q fl A B ky m nm).2.1 then (if qw q = 110 then nI ((smP q fl A B ky m nm).2.1 - (smP q fl A B ky m nm).1) else nI (psum (fl ky) nm (smP q fl A B ky m nm).2.1) - nI (psum (fl ky) nm (smP q fl A B ky m nm).1)) else 0
theorem psum_s {ke nm : Nat → Nat} {j : Nat} : psum ke nm (j + 1) = psum ke nm j + ke (nm j) := rfl
theorem psum_mono {ke nm : Nat → Nat} {i : Nat} : ∀ k, psum ke nm i ≤ psum ke nm (i + k)
  | 0 => Nat.le_refl _
  | k + 1 => by
    have := psum_mono (ke := ke) (nm := nm) (i := i) k
    rw [← Nat.add_assoc, psum_s]
    omega
section
variable {G : Gp} {d : Nat} {K : SK} {n : Nat × Nat} {V V' : SV} {J : SJV} {O : SO} {r : Option Value}
variable {z a b ci m nT A B t ky p sn kd : Nat} {q : QD} {fl : Nat → Nat → Nat} {s : RuS} {nm ke : Nat → Nat} {g : GS} {S : Nat → Prop}
theorem c6_run (hK : StK K) (hi' : IsSt K b 6 ky) (ha : IsAk K a) (hab : apart z a b) (hz : 3 ≤ z) (hb : 96 ≤ b) (hky : ky < 4) (hn : ∀ i, i < m → nm i < nT) : tyC z G (d + 4) K mX6_run b a ky nT q fl A B (fun V => RowC b m nm V ∧ ∀ j, j ≤ m → V (b + 3) j = nI (psum (fl ky) nm j)) (if fsB q (qc q) ky = true then smA q fl A B ky m nm else rsl (qw q) (srtA q fl A B (qc q) ky m nm).1) (if fsB q (qc q) ky = true then (smP q fl A B ky m nm).2.2 else (srtA q fl A B (qc q) ky m nm).2) := fun n J O V h1 h2 h3 h4 h5 => by
  have hf := c0_fromSums (G := G) (d := d + 2) (n := n) (J := J) (O := O) hK ha h1.1 h1.2.1 hky
  obtain ⟨h3, hsm⟩ := h3
  have h80 := h3.1
  by_cases c : fsB q (qc q) ky = true
  · rw [if_pos c, if_pos c]
    have hh := hiE_le (q := q) (A := A) (B := B) (ky := ky)
    have hl := loE_le h1.1 (ky := ky) h1.2.2.2.2.1 h1.2.2.2.2.2.1
    have f0 : fr (fun x k => x = b ∧ k = 8) V (up2 V b 8 (nI (loP (fl ky) nm m (loE q A B ky) 0).2)) := fr_up fr_rfl ⟨rfl, rfl⟩
    have hA1 := AkRun_b (x := nI (loP (fl ky) nm m (loE q A B ky) 0).2) h1 hab hz hb
    have y2 := c0_lowEnd (G := G) (d := d + 2) (n := n) (J := J) (O := O) hK ha h1.1 h1.2.1 h1.2.2.1 h1.2.2.2.2.1 h1.2.2.2.2.2.1 hky
    have y3 := c4_placeFor (G := G) (d := d + 2) (n := n) (J := J) (O := O) (o := none) hK hi' (show 6 ∈ [4, 6] by decide) (v := loE q A B ky) (by omega) (fun u e => by cases e) h3 (FC_cKe h1.2.2.2.1 hky) hn hb h4
    have y4 := c0_highEnd (G := G) (d := d + 2) (n := n) (J := J) (O := O) hK ha hA1.1 hA1.2.1 hA1.2.2.1 h1.2.2.2.2.1 h1.2.2.2.2.2.1 hky
    have y5 := c4_placeFor (G := G) (d := d + 2) (n := n) (J := J) (O := O) (o := none) hK hi' (show 6 ∈ [4, 6] by decide) (v := hiE q A B ky) (by omega) (fun u e => by cases e) (h3.fr f0) (FC_cKe hA1.2.2.2.1 hky) hn hb up2_s
    have e2 : (bs (fun i => ah (fl ky) (hiE q A B ky) none (nm i)) m 0 m (loP (fl ky) nm m (loE q A B ky) 0).2) = loP (fl ky) nm m (hiE q A B ky) (loP (fl ky) nm m (loE q A B ky) 0).2 := rfl
    rw [e2, up2_2] at y5
    have p1 := loP_le (ke := fl ky) (nm := nm) (m := m) (lo := loE q A B ky) (c := 0)
    have p2 := loP_le (ke := fl ky) (nm := nm) (m := m) (lo := hiE q A B ky) (c := (loP (fl ky) nm m (loE q A B ky) 0).2)
    have e1 : (bs (fun i => ah (fl ky) (loE q A B ky) none (nm i)) m 0 m 0) = loP (fl ky) nm m (loE q A B ky) 0 := rfl
    rw [e1] at y3
    unfold smA smP
    dsimp only
    generalize loP (fl ky) nm m (loE q A B ky) 0 = P1 at *
    generalize loP (fl ky) nm m (hiE q A B ky) P1.2 = P2 at *
    have fz : fr (fun x k => x = b ∧ k = 8) V (up2 V b 8 (nI P2.2)) := fr_up fr_rfl ⟨rfl, rfl⟩
    have hA2 := AkRun_b (x := nI P2.2) h1 hab hz hb
    have hcnt := c0_isCount (G := G) (d := d + 3) (n := n) (J := J) (O := O) hK ha hA2.1 hA2.2.1
    refine ⟨up2 V b 8 (nI P2.2), wX6_run_0 hK hi' ha ⟨_, by rw [h5]; exact hf, bn_y c ⟨_, by rw [h5]; exact y2, _, _, y3, _, by rw [up2_k (show 2 ≠ 8 by decide), h5]; exact y4, nI P2.1, up2 V b 8 (nI P2.2), ?_, ?_⟩⟩, up2_s, fr_mo fz (fun x k q => by unfold frU; omega)⟩
    · rw [show nI (hiE q A B ky) - 1 + 1 = nI (hiE q A B ky) from Int32.sub_add_cancel _ _]
      exact y5
    · rw [nI_lt' (by omega) (by omega)]
      by_cases c2 : P1.1 < P2.1
      · rw [if_pos c2]
        refine bt c2 ⟨_, hcnt, ?_⟩
        by_cases c3 : qw q = 110
        · rw [if_pos c3]
          refine bz_y c3 ⟨?_, rfl⟩
          rw [nI_s (by omega)]
        · rw [if_neg c3]
          refine bz_n c3 ⟨nI_v (by omega) (by omega), nI_v (by omega) (by omega), ?_, rfl⟩
          rw [nI_c (by omega), nI_c (by omega), up2_a (by omega), up2_a (by omega), hsm _ p2, hsm _ p1]
      · rw [if_neg c2]
        exact bf c2 ⟨rfl, rfl⟩
  · rw [if_neg c, if_neg c]
    obtain ⟨V1, z1, z2, z3⟩ := c4_run (G := G) (d := d) hK hi' (by decide) ha hab hz hb hky hn n J O V h1 h2 h3 h4 h5
    exact ⟨V1, wX6_run_0 hK hi' ha ⟨_, by rw [h5]; exact hf, bn_n c ⟨_, _, z1, rfl, rfl⟩⟩, z2, z3⟩
theorem c12_sums50 (hK : StK K) (hs : sn < 10) (hn : ∀ i, i < m → nm i < nT) {f e : Nat} (he : e ≤ m) : ∀ (k i : Nat) (V : SV), (i + k = e ∨ (e ≤ i ∧ k = 0)) ∧ i ≤ 80 → f ≤ i → RowM sn m nm V → mKe sn ky nT (fl ky) V → RM nT (i - f, psum (fl ky) nm i - psum (fl ky) nm f, none) V → ∃ V', Ev G (d + 1) mX12_seeSums 50 [(0, .ref 57), (1, .int (nI p)), (2, .int (nI sn)), (3, .int (nI f)), (4, .int (nI e)), (5, .int (nI i))] (K, n, V, J, O) none (K, n, V', J, O) ∧ RM nT (i + k - f, psum (fl ky) nm (i + k) - psum (fl ky) nm f, none) V' ∧ fr frMs V V' := by
  intro k
  induction k with
  | zero =>
    intro i V h hf hR hk hS
    have h80 := hR.1
    refine ⟨V, wX12_seeSums_50 hK ?_, hS, fr_rfl⟩
    exact bt (by rw [nI_le' (by omega) (by omega)]; omega) ⟨rfl, rfl⟩
  | succ k ih =>
    intro i V h hf hR hk hS
    have h80 := hR.1
    have him : i < m := by omega
    obtain ⟨s1, s2, s3, s4⟩ := hS
    have l1 : fr frN V (up2 V 57 29 (V 57 29 + 1)) := fr_up fr_rfl ⟨rfl, by omega⟩
    have y1 := c12_keyIn (G := G) (d := d) (n := n) (J := J) (O := O) hK (mKe_n hk l1) (hn i him)
    have f2 : fr frMs V (up2 (up2 V 57 29 (V 57 29 + 1)) 57 31 (V 57 31 + nI (fl ky (nm i)))) := fr_up (fr_up fr_rfl ⟨rfl, by omega⟩) ⟨rfl, by omega⟩
    have hmo := psum_mono (ke := fl ky) (nm := nm) (i := f) (i - f)
    rw [show f + (i - f) = i by omega] at hmo
    have f2N := fr_mo f2 (fun x k q => frMs_N q)
    obtain ⟨V2, z1, z2, z3⟩ := ih (i + 1) (up2 (up2 V 57 29 (V 57 29 + 1)) 57 31 (V 57 31 + nI (fl ky (nm i)))) (by omega) (by omega) (RowM_n hR f2N) (mKe_n hk f2N) (by
      refine ⟨?_, ?_, ?_, fun b hb => by cases hb⟩
      · rw [up2_k (by decide), up2_s, s1, nI_1]
        congr 1
        show i - f + 1 = i + 1 - f
        omega
      · rw [up2_s, s2, nI_add]
        congr 1
        show psum (fl ky) nm i - psum (fl ky) nm f + fl ky (nm i) = psum (fl ky) nm (i + 1) - psum (fl ky) nm f
        rw [psum_s]
        omega
      · rw [up2_k (by decide), up2_k (by decide)]
        exact s3)
    refine ⟨V2, wX12_seeSums_50 hK (bf (by rw [nI_le' (by omega) (by omega)]; omega) ⟨?_, nI (fl ky (nm i)), ?_, ?_⟩), by rw [show i + (k + 1) = i + 1 + k by omega]; exact z2, fr_mo (fr_tr f2 z3) (fun x k q => q.elim id id)⟩
    · rw [ix80]
      exact nI_v (by omega) (by omega)
    · rw [ix80, nI_c (show 80 * sn + i < 100000 by omega), (hR.2.2 i him).1]
      exact y1
    · rw [nI_1]
      exact z1
theorem m7_run (hK : StK K) (hs : sn < 10) (hky : ky < 4) (hn : ∀ i, i < m → nm i < nT) : tyM G (d + 4) K 7 sn p ky nT q fl A B (RowM sn m nm) (if fsB q (qr q) ky = true then smA q fl A B ky m nm else rsl (qw q) (srtA q fl A B (qr q) ky m nm).1) (if fsB q (qr q) ky = true then (smP q fl A B ky m nm).2.2 else (srtA q fl A B (qr q) ky m nm).2) := fun n J O V h1 h2 h3 h4 h5 h6 h7 h8 h9 => by
  obtain ⟨V1, z1, z2, z3, z4, z5⟩ := c12_begin (G := G) (d := d + 3) (n := n) (J := J) (O := O) hK h1 h2 h3 h4 h5 h6
  have h80 := h9.1
  have e70 : V1 70 sn = nI 7 := by rw [z5 _ _ (by omega)]; exact h8
  have e71 : V1 71 sn = nI ky := by rw [z5 _ _ (by omega)]; exact h7.2.2.2.1
  have hR1 := RowM_o h9 (fr_mo z5 (fun x k q => by omega) : fr (fun a _ => a ≠ 72 ∧ a ≠ 73) V V1)
  have hk1 := mKe_o h7 (fr_mo z5 (fun x k q => by omega) : fr (fun a _ => a ≠ 58 ∧ a ≠ 71) V V1)
  have hby := c12_bySums (G := G) (d := d + 1) (n := n) (J := J) (O := O) hK h1 z2.2.1 h6 hs hky (show 7 ≤ 7 by omega) e70 e71
  by_cases c : fsB q (qr q) ky = true
  · rw [if_pos c, if_pos c]
    have hw : qw q = 110 ∨ qw q = 115 := by
      have := c
      rw [fsB_P] at this
      exact this.2.elim Or.inl (fun y => Or.inr y.1)
    have hh := hiE_le (q := q) (A := A) (B := B) (ky := ky)
    have hl := loE_le h1 (ky := ky) h4 h5
    have f0 : fr frN V1 (up2 V1 57 32 0) := fr_up fr_rfl ⟨rfl, by omega⟩
    have y1 := c12_leastOf (G := G) (d := d + 1) (n := n) (J := J) (O := O) hK (AkRunM_n z2 f0) hs hky (mKe_n hk1 f0).2.2.2.1
    have y2 := c12_placeOf (G := G) (d := d) (n := n) (J := J) (O := O) (c := 0) (o := none) hK (v := loE q A B ky) (by omega) (fun u e => by cases e) (RowM_n hR1 f0) (mKe_n hk1 f0) hn up2_s
    have e1 : (bs (fun i => ah (fl ky) (loE q A B ky) none (nm i)) m 0 m 0) = loP (fl ky) nm m (loE q A B ky) 0 := rfl
    rw [e1] at y2
    have p1 := loP_le (ke := fl ky) (nm := nm) (m := m) (lo := loE q A B ky) (c := 0)
    have p2 := loP_le (ke := fl ky) (nm := nm) (m := m) (lo := hiE q A B ky) (c := (loP (fl ky) nm m (loE q A B ky) 0).2)
    have f2 : fr frN V1 (up2 (up2 V1 57 32 0) 57 32 (nI (loP (fl ky) nm m (loE q A B ky) 0).2)) := fr_up f0 ⟨rfl, by omega⟩
    have y3 := c12_mostOf (G := G) (d := d + 1) (n := n) (J := J) (O := O) hK (AkRunM_n z2 f2) hs hky (mKe_n hk1 f2).2.2.2.1
    have y4 := c12_placeOf (G := G) (d := d) (n := n) (J := J) (O := O) (c := (loP (fl ky) nm m (loE q A B ky) 0).2) (o := none) hK (v := hiE q A B ky) (by omega) (fun u e => by cases e) (RowM_n hR1 f2) (mKe_n hk1 f2) hn up2_s
    have e2 : (bs (fun i => ah (fl ky) (hiE q A B ky) none (nm i)) m 0 m (loP (fl ky) nm m (loE q A B ky) 0).2) = loP (fl ky) nm m (hiE q A B ky) (loP (fl ky) nm m (loE q A B ky) 0).2 := rfl
    rw [e2] at y4
    unfold smA smP
    dsimp only
    generalize loP (fl ky) nm m (loE q A B ky) 0 = P1 at *
    generalize loP (fl ky) nm m (hiE q A B ky) P1.2 = P2 at *
    generalize hV4 : up2 (up2 (up2 V1 57 32 0) 57 32 (nI P1.2)) 57 32 (nI P2.2) = V4 at y4
    have f4 : fr (fun x k => x = 57 ∧ k = 32) V1 V4 := hV4 ▸ fr_up (fr_up (fr_up fr_rfl ⟨rfl, rfl⟩) ⟨rfl, rfl⟩) ⟨rfl, rfl⟩
    have e432 : V4 57 32 = nI P2.2 := by rw [← hV4, up2_s]
    have e433 : V4 57 33 = nI 0 := by rw [f4 _ _ (by omega)]; exact z4
    have f5 : fr (fun x k => x = 57 ∧ (k = 32 ∨ k = 33)) V1 (up2 V4 57 33 (V4 57 33 + V4 57 32)) := fr_up (fr_mo f4 (fun x k q => by omega)) ⟨rfl, Or.inr rfl⟩
    have f5N := (fr_mo f5 (fun x k q => by unfold frN; omega) : fr frN V1 (up2 V4 57 33 (V4 57 33 + V4 57 32)))
    obtain ⟨V6, w1, w2, w3⟩ := c12_sums50 (G := G) (d := d + 2) (n := n) (J := J) (O := O) (p := p) hK hs hn (f := P1.1) (e := P2.1) p2 (P2.1 - P1.1) P1.1 (up2 V4 57 33 (V4 57 33 + V4 57 32)) (by omega) (Nat.le_refl _) (RowM_n hR1 f5N) (mKe_n hk1 f5N) (by rw [Nat.sub_self, Nat.sub_self]; exact RM_fr z3 (fr_mo f5 (fun x k q => by omega)))
    have f6 : fr frN V1 V6 := fr_mo (fr_tr f5N w3) (fun x k q => q.elim id frMs_N)
    have hend := c12_242 (G := G) (d := d + 3) (n := n) (J := J) (O := O) (sn := sn) (x3 := nI A) (x4 := nI B) hK (AkRunM_n z2 f6) w2
    have er : rsl (qw q) ((P1.1 + (P2.1 - P1.1) - P1.1, psum (fl ky) nm (P1.1 + (P2.1 - P1.1)) - psum (fl ky) nm P1.1, none) : RuS) = if P1.1 < P2.1 then (if qw q = 110 then nI (P2.1 - P1.1) else nI (psum (fl ky) nm P2.1) - nI (psum (fl ky) nm P1.1)) else 0 := by
      unfold rsl
      by_cases c2 : P1.1 < P2.1
      · rw [if_pos c2]
        by_cases c3 : qw q = 110
        · rw [if_pos c3, if_pos c3]
          show nI (P1.1 + (P2.1 - P1.1) - P1.1) = _
          congr 1
          omega
        · rw [if_neg c3, if_neg c3, if_pos (by omega)]
          have := psum_mono (ke := fl ky) (nm := nm) (i := P1.1) (P2.1 - P1.1)
          rw [show P1.1 + (P2.1 - P1.1) = P2.1 by omega] at this ⊢
          exact (nI_s this).symm
      · rw [if_neg c2]
        rw [show P2.1 - P1.1 = 0 by omega, Nat.add_zero, Nat.sub_self, Nat.sub_self]
        by_cases c3 : qw q = 110
        · rw [if_pos c3]
          rfl
        · rw [if_neg c3, if_pos (by omega)]
          rfl
    rw [er] at hend
    have e33 : V6 57 33 = nI P2.2 := by
      rw [w3 _ _ (by unfold frMs; omega), up2_s, e433, e432, nI_add, Nat.zero_add]
    refine ⟨V6, wX12_throughOf_0 hK ⟨V1, z1, nI_v hs (by omega), ?_⟩, e33, frV2 z5 f6⟩
    rw [nI_c (by omega)]
    refine tw_7 e70 ⟨_, hby, bz_y ⟨rfl, c⟩ ⟨V6, ?_, hend⟩⟩
    refine wX12_seeSums_0 hK ⟨_, y1, _, _, y2, _, y3, nI P2.1, V4, ?_, w1⟩
    rw [show nI (hiE q A B ky) - 1 + 1 = nI (hiE q A B ky) from Int32.sub_add_cancel _ _]
    exact y4
  · rw [if_neg c, if_neg c]
    obtain ⟨V2, y1, y2, y3, y4⟩ := c12_seeSorted (G := G) (d := d) (n := n) (J := J) (O := O) hK hs hky hn hR1 hk1 z2 z3 z4
    refine ⟨V2, wX12_throughOf_0 hK ⟨V1, z1, nI_v hs (by omega), ?_⟩, y3, frV2 z5 y4⟩
    rw [nI_c (by omega)]
    exact tw_7 e70 ⟨_, hby, bz_n (fun z => c z.2) ⟨V2, y1, c12_242 hK (AkRunM_n z2 y4) y2⟩⟩
end
