/-! ===== an ask through a stone: rows, heaps, sorted ones ===== -/
/-- what an ask through a stone may change in the class, in the reference -/
def frU (z a b : Nat) : Nat → Nat → Prop := fun x k => (x = a ∧ 9 ≤ k) ∨ (x = b ∧ k = 8) ∨ (b + 4 ≤ x ∧ x < b + z)
def frV : Nat → Nat → Prop := fun x k => x = 57 ∧ 27 ≤ k ∧ k ≤ 33
def apart (z a b : Nat) : Prop := a + 4 ≤ b ∨ b + z ≤ a
/-- the class: through the stone at b -/
def tyC (z : Nat) (G : Gp) (D : Nat) (K : SK) (M : AM) (b a ky nT : Nat) (q : QD) (fl : Nat → Nat → Nat) (A B : Nat) (R : SV → Prop) (r : Int32) (c : Nat) : Prop := ∀ (n : Nat × Nat) (J : SJV) (O : SO) V, AkRun a nT q fl A B V → RC a nT (fl (qc q)) (0, 0, none) V → R V → V b 8 = nI 0 → V b 2 = nI ky → ∃ V', Ev G D M 0 [(0, .ref b), (1, .ref a)] (K, n, V, J, O) (some (.int r)) (K, n, V', J, O) ∧ V' b 8 = nI c ∧ fr (frU z a b) V V'
/-- the reference: through the stone s, after it has begun -/
def tyM (G : Gp) (D : Nat) (K : SK) (kd s p ky nT : Nat) (q : QD) (fl : Nat → Nat → Nat) (A B : Nat) (R : SV → Prop) (r : Int32) (c : Nat) : Prop := ∀ (n : Nat × Nat) (J : SJV) (O : SO) V, Qok q → QM p q V → FM nT fl V → A ≤ 99 → B ≤ 99 → p < 10 → mKe s ky nT (fl ky) V → V 70 s = nI kd → R V → ∃ V', Ev G D mX12_throughOf 0 [(0, .ref 57), (1, .int (nI s)), (2, .int (nI p)), (3, .int (nI A)), (4, .int (nI B))] (K, n, V, J, O) (some (.int r)) (K, n, V', J, O) ∧ V' 57 33 = nI c ∧ fr frV V V'
section
variable {G : Gp} {d : Nat} {K : SK} {n : Nat × Nat} {V V' : SV} {J : SJV} {O : SO} {r : Option Value}
variable {z a b ci m nT A B t ky p sn kd : Nat} {q : QD} {fl : Nat → Nat → Nat} {s : RuS} {nm ke : Nat → Nat} {g : GS} {S : Nat → Prop}
theorem AkRun_b (h : AkRun a nT q fl A B V) (hab : apart z a b) (hz : 3 ≤ z) (hb : 96 ≤ b) {x : Int32} : AkRun a nT q fl A B (up2 V b 8 x) := AkRun_fr h (fr_up fr_rfl (by unfold apart at hab; omega))
theorem RC_b {v : Nat → Nat} (h : RC a nT v s V) (hab : apart z a b) (hz : 3 ≤ z) {x : Int32} : RC a nT v s (up2 V b 8 x) := RC_fr h (fr_up fr_rfl (by unfold apart at hab; omega))
theorem RowC_A (h : RowC b m nm V) (hab : apart z a b) (hz : 3 ≤ z) (hf : fr (frA a) V V') : RowC b m nm V' := by
  unfold apart at hab
  exact ⟨h.1, by rw [hf _ _ (by unfold frA; omega)]; exact h.2.1, fun i hi => by rw [hf _ _ (by unfold frA; omega)]; exact h.2.2 i hi⟩
/-- one after another -/
def stp (q : QD) (fl : Nat → Nat → Nat) (A B f : Nat) (nm : Nat → Nat) (i : Nat) (s : RuS) : RuS := sstep (hq q fl A B) (fl f) (qw q) s (nm i)
theorem c3_run2 (hK : StK K) (hi' : IsSt K b ci ky) (hc : ci ∈ [2, 3, 4, 6]) (ha : IsAk K a) (hab : apart z a b) (hz : 3 ≤ z) (hb : 96 ≤ b) (hn : ∀ i, i < m → nm i < nT) : ∀ (k i : Nat) (s : RuS) (c : Nat) (V : SV), i + k = m → RowC b m nm V → AkRun a nT q fl A B V → RC a nT (fl (qc q)) s V → V b 8 = nI c → ∃ V', Ev G (d + 3) mX3_run 2 [(0, .ref b), (1, .ref a), (2, .int (nI i))] (K, n, V, J, O) (some (.int (rsl (qw q) (itr (stp q fl A B (qc q) nm) k i s)))) (K, n, V', J, O) ∧ V' b 8 = nI (c + k) ∧ fr (frU z a b) V V' := by
  intro k
  induction k with
  | zero =>
    intro i s c V e hR hA hS h8
    have h80 := hR.1
    exact ⟨V, wX3_run_2 hK hi' hc ha (bt (lp_out hR.2.1 (by omega) (by omega)) ⟨_, c0_result hK ha hA.1 hA.2.1.2.1 hS, rfl, rfl⟩), h8, fr_rfl⟩
  | succ k ih =>
    intro i s c V e hR hA hS h8
    have h80 := hR.1
    have him : i < m := by omega
    have hab' := hab
    unfold apart at hab'
    obtain ⟨V1, z1, z2, z3⟩ := c0_see (G := G) (d := d) (n := n) (J := J) (O := O) (V := up2 V b 8 (V b 8 + 1)) hK ha (AkRun_b hA hab hz hb) (RC_b hS hab hz) (hn i him)
    have f0 : fr (fun x k => x = b ∧ k = 8) V (up2 V b 8 (V b 8 + 1)) := fr_up fr_rfl ⟨rfl, rfl⟩
    have hR1 : RowC b m nm V1 := RowC_A (hR.fr f0) hab hz z3
    have hA1 : AkRun a nT q fl A B V1 := AkRun_fr (AkRun_b hA hab hz hb) (fr_mo z3 (fun x k q => by have := hA.2.2.2.2.2.2; unfold frA at q; omega))
    obtain ⟨V2, y1, y2, y3⟩ := ih (i + 1) _ (c + 1) V1 (by omega) hR1 hA1 z2 (by rw [z3 _ _ (by unfold frA; omega), up2_s, h8, nI_1])
    refine ⟨V2, wX3_run_2 hK hi' hc ha (bf (lp_in hR.2.1 (by omega) (by omega)) ⟨nI_v (by omega) (by omega), V1, ?_, ?_⟩), by rw [y2]; congr 1; omega, fr_mo (fr_tr (fr_tr f0 z3) y3) (fun x k q => ?_)⟩
    · rw [nI_c (by omega), up2_a (by omega), (hR.2.2 i him).1]
      exact z1
    · rw [nI_1]
      unfold itr
      exact y1
    · unfold frU frA at *
      omega
theorem c3_run (hK : StK K) (hi' : IsSt K b ci ky) (hc : ci ∈ [2, 3, 4, 6]) (ha : IsAk K a) (hab : apart z a b) (hz : 3 ≤ z) (hb : 96 ≤ b) (hn : ∀ i, i < m → nm i < nT) : tyC z G (d + 3) K mX3_run b a ky nT q fl A B (RowC b m nm) (rsl (qw q) (itr (stp q fl A B (qc q) nm) m 0 (0, 0, none))) m := fun n J O V h1 h2 h3 h4 h5 => by
  obtain ⟨V1, z1, z2, z3⟩ := c3_run2 (G := G) (d := d) (n := n) (J := J) (O := O) hK hi' hc ha hab hz hb hn m 0 _ 0 V (by omega) h3 h1 h2 h4
  exact ⟨V1, wX3_run_0 hK hi' hc ha z1, by rw [z2, Nat.zero_add], z3⟩
theorem c2_run (hK : StK K) (hi' : IsSt K b 2 ky) (ha : IsAk K a) (hab : apart z a b) (hz : 3 ≤ z) (hb : 96 ≤ b) (hky : ky < 4) (hn : ∀ i, i < m → nm i < nT) : tyC z G (d + 4) K mX2_run b a ky nT q fl A B (RowC b m nm) (if qm q = 0 ∧ qw q = 109 ∧ qc q = ky then moI (if 0 < m then some (nm 0) else none) else rsl (qw q) (itr (stp q fl A B (qc q) nm) m 0 (0, 0, none))) (if qm q = 0 ∧ qw q = 109 ∧ qc q = ky then (if 0 < m then 1 else 0) else m) := fun n J O V h1 h2 h3 h4 h5 => by
  have hl := c0_isLeast (G := G) (d := d + 3) (n := n) (J := J) (O := O) hK ha h1.1 h1.2.1 hky
  have h80 := h3.1
  have hab' := hab
  unfold apart at hab'
  by_cases c : qm q = 0 ∧ qw q = 109 ∧ qc q = ky
  · rw [if_pos c, if_pos c]
    by_cases h0 : 0 < m
    · rw [if_pos h0, if_pos h0]
      obtain ⟨V1, z1, z2, z3⟩ := c0_see (G := G) (d := d + 1) (n := n) (J := J) (O := O) (V := up2 V b 8 (V b 8 + 1)) hK ha (AkRun_b h1 hab hz hb) (RC_b h2 hab hz) (hn 0 h0)
      have hh : hq q fl A B (nm 0) = true := by
        unfold hq
        rw [c.1]
        rfl
      have hA1 : AkRun a nT q fl A B V1 := AkRun_fr (AkRun_b h1 hab hz hb) (fr_mo z3 (fun x k q => by have := h1.2.2.2.2.2.2; unfold frA at q; omega))
      have hres := c0_result (G := G) (d := d + 3) (n := n) (J := J) (O := O) hK ha h1.1 hA1.2.1.2.1 z2
      have er : rsl (qw q) (sstep (hq q fl A B) (fl (qc q)) (qw q) (0, 0, none) (nm 0)) = moI (some (nm 0)) := by
        rw [sstep_y hh]
        unfold rsl
        rw [if_neg (by omega), if_neg (by omega)]
      rw [er] at hres
      have f0 : fr (fun x k => x = b ∧ k = 8) V (up2 V b 8 (V b 8 + 1)) := fr_up fr_rfl ⟨rfl, rfl⟩
      refine ⟨V1, wX2_run_0 hK hi' ha ⟨_, by rw [h5]; exact hl, bn_y c (bf ?_ ⟨nI_v (a := 0) (by omega) (by omega), V1, ?_, _, hres, rfl, rfl⟩)⟩, ?_, fr_mo (fr_tr f0 z3) (fun x k q => ?_)⟩
      · rw [h3.2.1]
        show ¬ nI m ≤ nI 0
        rw [nI_le' (by omega) (by omega)]
        omega
      · rw [z0, up2_a (by omega), (h3.2.2 0 h0).1]
        exact z1
      · rw [z3 _ _ (by unfold frA; omega), up2_s, h4, nI_1]
      · unfold frU frA at *
        omega
    · rw [if_neg h0, if_neg h0]
      have hres := c0_result (G := G) (d := d + 3) (n := n) (J := J) (O := O) hK ha h1.1 h1.2.1.2.1 h2
      have er : rsl (qw q) ((0, 0, none) : RuS) = moI none := by
        unfold rsl
        rw [if_neg (by omega), if_neg (by omega)]
      rw [er] at hres
      refine ⟨V, wX2_run_0 hK hi' ha ⟨_, by rw [h5]; exact hl, bn_y c (bt ?_ ⟨_, hres, rfl, rfl⟩)⟩, h4, fr_rfl⟩
      rw [h3.2.1]
      show nI m ≤ nI 0
      rw [nI_le' (by omega) (by omega)]
      omega
  · rw [if_neg c, if_neg c]
    obtain ⟨V1, z1, z2, z3⟩ := c3_run (G := G) (d := d) hK hi' (by decide) ha hab hz hb hn n J O V h1 h2 h3 h4 h5
    exact ⟨V1, wX2_run_0 hK hi' ha ⟨_, by rw [h5]; exact hl, bn_n c ⟨_, _, z1, rfl, rfl⟩⟩, z2, z3⟩
/-- from a place on, up to the first one beyond -/
def srtR (q : QD) (fl : Nat → Nat → Nat) (A B f : Nat) (ke nm : Nat → Nat) (hi : Nat) : Nat → Nat → RuS → Nat → RuS × Nat
  | 0, _, s, c => (s, c)
  | k + 1, i, s, c => if ke (nm i) < hi then srtR q fl A B f ke nm hi k (i + 1) (stp q fl A B f nm i s) (c + 1) else (s, c + 1)
theorem c4_run23 (hK : StK K) (hi' : IsSt K b ci ky) (hc : ci ∈ [4, 6]) (ha : IsAk K a) (hab : apart z a b) (hz : 3 ≤ z) (hb : 96 ≤ b) (hky : ky < 4) {hi : Nat} (hhi : hi ≤ 101) (hn : ∀ i, i < m → nm i < nT) : ∀ (k i : Nat) (s : RuS) (c : Nat) (V : SV), i + k = m → RowC b m nm V → AkRun a nT q fl A B V → RC a nT (fl (qc q)) s V → V b 8 = nI c → ∃ V', Ev G (d + 3) mX4_run 23 [(0, .ref b), (1, .ref a), (2, .int (nI hi - 1)), (3, .int (nI i))] (K, n, V, J, O) (some (.int (rsl (qw q) (srtR q fl A B (qc q) (fl ky) nm hi k i s c).1))) (K, n, V', J, O) ∧ V' b 8 = nI (srtR q fl A B (qc q) (fl ky) nm hi k i s c).2 ∧ fr (frU z a b) V V' := by
  intro k
  induction k with
  | zero =>
    intro i s c V e hR hA hS h8
    have h80 := hR.1
    exact ⟨V, wX4_run_23 hK hi' hc ha (bt (lp_out hR.2.1 (by omega) (by omega)) ⟨_, c0_result hK ha hA.1 hA.2.1.2.1 hS, rfl, rfl⟩), h8, fr_rfl⟩
  | succ k ih =>
    intro i s c V e hR hA hS h8
    have h80 := hR.1
    have him : i < m := by omega
    have hab' := hab
    unfold apart at hab'
    have f0 : fr (fun x k => x = b ∧ k = 8) V (up2 V b 8 (V b 8 + 1)) := fr_up fr_rfl ⟨rfl, rfl⟩
    have hnT := hA.2.2.2.1.1
    have hni := hn i him
    have hin : vp_in (nI i) 80 := nI_v (by omega) (by omega)
    have hk1 := (hA.2.2.2.1.2 ky (nm i) hky hni)
    have enm : up2 V b 8 (V b 8 + 1) (b + 2) i = nI (nm i) := by rw [up2_a (by omega), (hR.2.2 i him).1]
    have eke : up2 V b 8 (V b 8 + 1) (4 + 1 + ky) (nm i) = nI (fl ky (nm i)) := by rw [up2_a (by omega), hk1.1]
    unfold srtR
    by_cases c1 : fl ky (nm i) < hi
    · rw [if_pos c1]
      obtain ⟨V1, z1, z2, z3⟩ := c0_see (G := G) (d := d) (n := n) (J := J) (O := O) (V := up2 V b 8 (V b 8 + 1)) hK ha (AkRun_b hA hab hz hb) (RC_b hS hab hz) (hn i him)
      have hR1 : RowC b m nm V1 := RowC_A (hR.fr f0) hab hz z3
      have hA1 : AkRun a nT q fl A B V1 := AkRun_fr (AkRun_b hA hab hz hb) (fr_mo z3 (fun x k q => by have := hA.2.2.2.2.2.2; unfold frA at q; omega))
      obtain ⟨V2, y1, y2, y3⟩ := ih (i + 1) _ (c + 1) V1 (by omega) hR1 hA1 z2 (by rw [z3 _ _ (by unfold frA; omega), up2_s, h8, nI_1])
      refine ⟨V2, wX4_run_23 hK hi' hc ha (bf (lp_in hR.2.1 (by omega) (by omega)) ⟨hin, ?_, ?_⟩), y2, fr_mo (fr_tr (fr_tr f0 z3) y3) (fun x k q => ?_)⟩
      · rw [nI_c (by omega), enm]
        exact nI_v (by omega) (by omega)
      · rw [nI_c (show i < 100000 by omega), enm, nI_c (show nm i < 100000 by omega), eke, le_pr (by omega) (by omega), nI_1]
        exact bt c1 ⟨hin, V1, z1, y1⟩
      · unfold frU frA at *
        omega
    · rw [if_neg c1]
      have hres := c0_result (G := G) (d := d + 2) (n := n) (V := up2 V b 8 (V b 8 + 1)) (J := J) (O := O) hK ha hA.1 (AkRun_b hA hab hz hb).2.1.2.1 (RC_b hS hab hz)
      refine ⟨_, wX4_run_23 hK hi' hc ha (bf (lp_in hR.2.1 (by omega) (by omega)) ⟨hin, ?_, ?_⟩), ?_, fr_mo f0 (fun x k q => ?_)⟩
      · rw [nI_c (by omega), enm]
        exact nI_v (by omega) (by omega)
      · rw [nI_c (show i < 100000 by omega), enm, nI_c (show nm i < 100000 by omega), eke, le_pr (by omega) (by omega)]
        exact bf c1 ⟨_, hres, rfl, rfl⟩
      · rw [up2_s, h8, nI_1]
      · unfold frU
        omega
/-- where LEAST is found, and the looks -/
def loP (ke nm : Nat → Nat) (m lo c : Nat) : Nat × Nat := bs (fun i => ah ke lo none (nm i)) m 0 m c
theorem loP_le {ke nm : Nat → Nat} {m lo c : Nat} : (loP ke nm m lo c).1 ≤ m := (bs_le (Nat.zero_le _)).2
def srtA (q : QD) (fl : Nat → Nat → Nat) (A B f ky m : Nat) (nm : Nat → Nat) : RuS × Nat := srtR q fl A B f (fl ky) nm (hiE q A B ky) (m - (loP (fl ky) nm m (loE q A B ky) 0).1) (loP (fl ky) nm m (loE q A B ky) 0).1 (0, 0, none) (loP (fl ky) nm m (loE q A B ky) 0).2
theorem FC_cKe (h : FC nT fl V) (hky : ky < 4) : cKe ky nT (fl ky) V := ⟨hky, h.1, fun t ht => h.2 ky t hky ht⟩
theorem c4_run (hK : StK K) (hi' : IsSt K b ci ky) (hc : ci ∈ [4, 6]) (ha : IsAk K a) (hab : apart z a b) (hz : 3 ≤ z) (hb : 96 ≤ b) (hky : ky < 4) (hn : ∀ i, i < m → nm i < nT) : tyC z G (d + 3) K mX4_run b a ky nT q fl A B (RowC b m nm) (rsl (qw q) (srtA q fl A B (qc q) ky m nm).1) (srtA q fl A B (qc q) ky m nm).2 := fun n J O V h1 h2 h3 h4 h5 => by
  have hh := hiE_le (q := q) (A := A) (B := B) (ky := ky)
  have hl := loE_le h1.1 (ky := ky) h1.2.2.2.2.1 h1.2.2.2.2.2.1
  have y1 := c0_highEnd (G := G) (d := d + 1) (n := n) (J := J) (O := O) hK ha h1.1 h1.2.1 h1.2.2.1 h1.2.2.2.2.1 h1.2.2.2.2.2.1 hky
  have y2 := c0_lowEnd (G := G) (d := d + 1) (n := n) (J := J) (O := O) hK ha h1.1 h1.2.1 h1.2.2.1 h1.2.2.2.2.1 h1.2.2.2.2.2.1 hky
  have y3 := c4_placeFor (G := G) (d := d + 1) (n := n) (J := J) (O := O) (o := none) hK hi' hc (v := loE q A B ky) (by omega) (fun u e => by cases e) h3 (FC_cKe h1.2.2.2.1 hky) hn hb h4
  have h80 := h3.1
  have hp := loP_le (ke := fl ky) (nm := nm) (m := m) (lo := loE q A B ky) (c := 0)
  have f0 : fr (fun x k => x = b ∧ k = 8) V (up2 V b 8 (nI (loP (fl ky) nm m (loE q A B ky) 0).2)) := fr_up fr_rfl ⟨rfl, rfl⟩
  obtain ⟨V2, z1, z2, z3⟩ := c4_run23 (G := G) (d := d) (n := n) (J := J) (O := O) hK hi' hc ha hab hz hb hky (hi := hiE q A B ky) (by omega) hn (m - (loP (fl ky) nm m (loE q A B ky) 0).1) (loP (fl ky) nm m (loE q A B ky) 0).1 (0, 0, none) (loP (fl ky) nm m (loE q A B ky) 0).2 (up2 V b 8 (nI (loP (fl ky) nm m (loE q A B ky) 0).2)) (by omega) (h3.fr f0) (AkRun_b h1 hab hz hb) (RC_b h2 hab hz) up2_s
  exact ⟨V2, wX4_run_0 hK hi' hc ha ⟨_, by rw [h5]; exact y1, _, by rw [h5]; exact y2, _, _, y3, z1⟩, z2, fr_mo (fr_tr f0 z3) (fun x k q => by unfold frU at *; omega)⟩
end
