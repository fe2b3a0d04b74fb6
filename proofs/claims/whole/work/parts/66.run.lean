/-! ===== an ask through a stone: in any order; tables, bits ===== -/
theorem itr_L {α : Type} {f : Nat → α → α} : ∀ (L A : List Nat) (s : α), itr (fun i s => f (nmL (A ++ L) i) s) L.length A.length s = L.foldl (fun s t => f t s) s
  | [], _, _ => rfl
  | x :: L, A, s => by
    show itr (fun i s => f (nmL (A ++ x :: L) i) s) L.length (A.length + 1) (f (nmL (A ++ x :: L) A.length) s) = L.foldl (fun s t => f t s) (f x s)
    rw [nmL_at]
    have := itr_L (f := f) L (A ++ [x]) (f x s)
    rw [List.append_assoc, List.length_append] at this
    exact this
theorem itr_L0 {α : Type} {f : Nat → α → α} (L : List Nat) (s : α) : itr (fun i s => f (nmL L i) s) L.length 0 s = L.foldl (fun s t => f t s) s := itr_L L [] s
theorem pm_fold {α : Type} {f : α → Nat → α} (hc : ∀ s a b, f (f s a) b = f (f s b) a) {L L' : List Nat} (p : List.Perm L L') : ∀ s, L.foldl f s = L'.foldl f s := by
  induction p with
  | nil => intro s; rfl
  | cons x p ih => intro s; exact ih (f s x)
  | swap x y l =>
    intro s
    show l.foldl f (f (f s y) x) = l.foldl f (f (f s x) y)
    rw [hc]
  | trans p1 p2 ih1 ih2 => intro s; rw [ih1, ih2]
theorem bet_iff {w va vb a b : Nat} : (bet w va vb a b = true) = ((w = 109 ∧ (va < vb ∨ (va = vb ∧ a < b))) ∨ (w ≠ 109 ∧ (vb < va ∨ (va = vb ∧ a < b)))) := by
  unfold bet
  apply propext
  by_cases h1 : va = vb
  · rw [if_pos h1, decide_eq_true_eq]
    omega
  · rw [if_neg h1]
    by_cases h2 : w = 109
    · rw [if_pos h2, decide_eq_true_eq]
      omega
    · rw [if_neg h2, decide_eq_true_eq]
      omega
theorem best_2 {w a b : Nat} {v : Nat → Nat} : (if bet w (v b) (v a) b a = true then b else a) = (if bet w (v a) (v b) a b = true then a else b) := by
  by_cases e : a = b
  · subst e
    rfl
  · by_cases h1 : bet w (v b) (v a) b a = true
    · rw [if_pos h1]
      by_cases h2 : bet w (v a) (v b) a b = true
      · rw [bet_iff] at h1 h2
        omega
      · rw [if_neg h2]
    · rw [if_neg h1]
      by_cases h2 : bet w (v a) (v b) a b = true
      · rw [if_pos h2]
      · rw [bet_iff] at h1 h2
        omega
theorem best_3 {w a b c : Nat} {v : Nat → Nat} : (if bet w (v b) (v (if bet w (v a) (v c) a c = true then a else c)) b (if bet w (v a) (v c) a c = true then a else c) = true then b else (if bet w (v a) (v c) a c = true then a else c)) = (if bet w (v a) (v (if bet w (v b) (v c) b c = true then b else c)) a (if bet w (v b) (v c) b c = true then b else c) = true then a else (if bet w (v b) (v c) b c = true then b else c)) := by
  by_cases h1 : bet w (v a) (v c) a c = true
  · by_cases h2 : bet w (v b) (v c) b c = true
    · rw [if_pos h1, if_pos h2]
      exact best_2
    · rw [if_pos h1, if_neg h2, if_pos h1, if_neg]
      intro h3
      rw [bet_iff] at h1 h2 h3
      omega
  · by_cases h2 : bet w (v b) (v c) b c = true
    · rw [if_neg h1, if_pos h2, if_neg]
      intro h3
      rw [bet_iff] at h1 h2 h3
      omega
    · rw [if_neg h1, if_neg h2, if_neg h1]
theorem sstep_c {h : Nat → Bool} {v : Nat → Nat} {w : Nat} (s : RuS) (a b : Nat) : sstep h v w (sstep h v w s a) b = sstep h v w (sstep h v w s b) a := by
  unfold sstep
  by_cases ha : h a = true
  · by_cases hb : h b = true
    · rw [if_pos ha, if_pos hb, if_pos ha, if_pos hb]
      refine Prod.ext rfl (Prod.ext ?_ ?_)
      · show s.2.1 + v a + v b = s.2.1 + v b + v a
        omega
      · show some (if bet w (v b) (v _) b _ = true then b else _) = some (if bet w (v a) (v _) a _ = true then a else _)
        cases s.2.2 with
        | none => exact congrArg some best_2
        | some c => exact congrArg some best_3
    · rw [if_pos ha, if_neg hb, if_neg hb, if_pos ha]
  · by_cases hb : h b = true
    · rw [if_neg ha, if_pos hb, if_neg ha]
    · rw [if_neg ha, if_neg hb, if_neg ha]
/-- what is seen, and the looks: those with p alone -/
def pstp (pr : Nat → Bool) (q : QD) (fl : Nat → Nat → Nat) (A B f : Nat) (t : Nat) (s : RuS × Nat) : RuS × Nat := if pr t = true then (sstep (hq q fl A B) (fl f) (qw q) s.1 t, s.2 + 1) else s
theorem pstp_y {pr : Nat → Bool} {q : QD} {fl : Nat → Nat → Nat} {A B f t : Nat} {s : RuS × Nat} (c : pr t = true) : pstp pr q fl A B f t s = (sstep (hq q fl A B) (fl f) (qw q) s.1 t, s.2 + 1) := if_pos c
theorem pstp_n {pr : Nat → Bool} {q : QD} {fl : Nat → Nat → Nat} {A B f t : Nat} {s : RuS × Nat} (c : ¬ pr t = true) : pstp pr q fl A B f t s = s := if_neg c
theorem pstp_c {pr : Nat → Bool} {q : QD} {fl : Nat → Nat → Nat} {A B f : Nat} (s : RuS × Nat) (a b : Nat) : pstp pr q fl A B f b (pstp pr q fl A B f a s) = pstp pr q fl A B f a (pstp pr q fl A B f b s) := by
  unfold pstp
  by_cases ha : pr a = true
  · by_cases hb : pr b = true
    · rw [if_pos ha, if_pos hb, if_pos ha, if_pos hb]
      exact Prod.ext (sstep_c _ _ _) rfl
    · rw [if_pos ha, if_neg hb, if_neg hb, if_pos ha]
  · by_cases hb : pr b = true
    · rw [if_neg ha, if_pos hb, if_neg ha]
    · rw [if_neg ha, if_neg hb, if_neg ha]
theorem CL_perm {ke : Nat → Nat} : ∀ {L : List Nat}, List.Perm (CL ke L) L
  | [] => by
    have := CL_len (ke := ke) (L := [])
    rw [List.length_nil, List.length_eq_zero_iff] at this
    rw [this]
  | t :: L => by
    obtain ⟨e1, e2⟩ := CL_split (ke := ke) (L1 := []) (L2 := L) (t := t)
    simp only [List.nil_append] at e1 e2
    rw [e1]
    refine List.Perm.trans List.perm_middle (List.Perm.cons t ?_)
    rw [← e2]
    exact CL_perm
theorem tab_eq {pr : Nat → Bool} {q : QD} {fl : Nat → Nat → Nat} {A B f : Nat} {ke : Nat → Nat} {L : List Nat} {s : RuS × Nat} : itr (fun i s => pstp pr q fl A B f (nmL (CL ke L) i) s) (CL ke L).length 0 s = itr (fun i s => pstp pr q fl A B f (nmL L i) s) L.length 0 s := by
  rw [itr_L0, itr_L0]
  exact pm_fold (fun s a b => pstp_c s a b) CL_perm s
theorem itr_p1 {pr : Nat → Bool} {q : QD} {fl : Nat → Nat → Nat} {A B f f' : Nat} {nm : Nat → Nat} : ∀ {k i : Nat} {s s' : RuS × Nat}, s.1.1 = s'.1.1 → s.2 = s'.2 → (itr (fun i s => pstp pr q fl A B f (nm i) s) k i s).1.1 = (itr (fun i s => pstp pr q fl A B f' (nm i) s) k i s').1.1 ∧ (itr (fun i s => pstp pr q fl A B f (nm i) s) k i s).2 = (itr (fun i s => pstp pr q fl A B f' (nm i) s) k i s').2
  | 0, _, _, _, h1, h2 => ⟨h1, h2⟩
  | k + 1, i, s, s', h1, h2 => by
    refine itr_p1 (k := k) (i := i + 1) ?_ ?_
    · show (pstp pr q fl A B f (nm i) s).1.1 = (pstp pr q fl A B f' (nm i) s').1.1
      by_cases c : pr (nm i) = true
      · rw [pstp_y c, pstp_y c]
        exact sstep_1 h1
      · rw [pstp_n c, pstp_n c]
        exact h1
    · show (pstp pr q fl A B f (nm i) s).2 = (pstp pr q fl A B f' (nm i) s').2
      by_cases c : pr (nm i) = true
      · rw [pstp_y c, pstp_y c]
        show s.2 + 1 = s'.2 + 1
        rw [h2]
      · rw [pstp_n c, pstp_n c]
        exact h2
/-- which names of a table are seen -/
def tbP (q : QD) (fl : Nat → Nat → Nat) (A B ky t : Nat) : Bool := !decide (eqI q ky < qm q) || decide (bk (fl ky) t = qwt q A B (eqI q ky) % 8)
def tbS (q : QD) (fl : Nat → Nat → Nat) (A B f ky m : Nat) (nm : Nat → Nat) : RuS × Nat := itr (fun i s => pstp (tbP q fl A B ky) q fl A B f (nm i) s) m 0 ((0, 0, none), 0)
section
variable {G : Gp} {d : Nat} {K : SK} {n : Nat × Nat} {V V' : SV} {J : SJV} {O : SO} {r : Option Value}
variable {z a b ci m nT A B t ky p sn kd : Nat} {q : QD} {fl : Nat → Nat → Nat} {s : RuS} {nm ke : Nat → Nat} {g : GS} {S : Nat → Prop}
theorem c7_run24 (hK : StK K) (hi' : IsSt K b 7 ky) (ha : IsAk K a) (hab : apart z a b) (hz : 3 ≤ z) (hb : 96 ≤ b) (hky : ky < 4) (hn : ∀ i, i < m → nm i < nT) : ∀ (k i : Nat) (s : RuS × Nat) (V : SV), i + k = m → RowC b m nm V → AkRun a nT q fl A B V → RC a nT (fl (qc q)) s.1 V → V b 8 = nI s.2 → ∃ V', Ev G (d + 3) mX7_run 24 [(0, .ref b), (1, .ref a), (2, .int (bI (eqI q ky < qm q))), (3, .int (nI (feq q A B ky % 8))), (4, .int (nI i))] (K, n, V, J, O) (some (.int (rsl (qw q) (itr (fun i s => pstp (tbP q fl A B ky) q fl A B (qc q) (nm i) s) k i s).1))) (K, n, V', J, O) ∧ V' b 8 = nI (itr (fun i s => pstp (tbP q fl A B ky) q fl A B (qc q) (nm i) s) k i s).2 ∧ fr (frU z a b) V V' := by
  intro k
  induction k with
  | zero =>
    intro i s V e hR hA hS h8
    have h80 := hR.1
    exact ⟨V, wX7_run_24 hK hi' ha (bt (lp_out hR.2.1 (by omega) (by omega)) ⟨_, c0_result hK ha hA.1 hA.2.1.2.1 hS, rfl, rfl⟩), h8, fr_rfl⟩
  | succ k ih =>
    intro i s V e hR hA hS h8
    have h80 := hR.1
    have him : i < m := by omega
    have hab' := hab
    unfold apart at hab'
    have hni := hn i him
    have hin : vp_in (nI i) 80 := nI_v (by omega) (by omega)
    have f0 : fr (fun x k => x = b ∧ k = 8) V (up2 V b 8 (V b 8 + 1)) := fr_up fr_rfl ⟨rfl, rfl⟩
    have enm : up2 V b 8 (V b 8 + 1) (b + 2) i = nI (nm i) := by rw [up2_a (by omega), (hR.2.2 i him).1]
    have ek : (nI i).toNatClampNeg = i := nI_c (by omega)
    have hbk : bk (fl ky) (nm i) < 8 := Nat.mod_lt _ (by decide)
    have hfe : feq q A B ky % 8 < 8 := Nat.mod_lt _ (by decide)
    unfold itr
    by_cases c : tbP q fl A B ky (nm i) = true
    · obtain ⟨V1, z1, z2, z3⟩ := c0_see (G := G) (d := d) (n := n) (J := J) (O := O) (V := up2 V b 8 (V b 8 + 1)) hK ha (AkRun_b hA hab hz hb) (RC_b hS hab hz) hni
      have hR1 : RowC b m nm V1 := RowC_A (hR.fr f0) hab hz z3
      have hA1 : AkRun a nT q fl A B V1 := AkRun_fr (AkRun_b hA hab hz hb) (fr_mo z3 (fun x k q => by have := hA.2.2.2.2.2.2; unfold frA at q; omega))
      obtain ⟨V2, y1, y2, y3⟩ := ih (i + 1) (sstep (hq q fl A B) (fl (qc q)) (qw q) s.1 (nm i), s.2 + 1) V1 (by omega) hR1 hA1 z2 (by rw [z3 _ _ (by unfold frA; omega), up2_s, h8, nI_1])
      have ep : pstp (tbP q fl A B ky) q fl A B (qc q) (nm i) s = (sstep (hq q fl A B) (fl (qc q)) (qw q) s.1 (nm i), s.2 + 1) := if_pos c
      rw [ep]
      refine ⟨V2, wX7_run_24 hK hi' ha (bf (lp_in hR.2.1 (by omega) (by omega)) ?_), y2, fr_mo (fr_tr (fr_tr f0 z3) y3) (fun x k q => by unfold frU frA at *; omega)⟩
      rw [ek, enm, (hR.2.2 i him).1, nI_1]
      by_cases c1 : eqI q ky < qm q
      · have c2 : bk (fl ky) (nm i) = feq q A B ky % 8 := by
          unfold tbP at c
          rw [decide_eq_true c1] at c
          simp at c
          unfold feq
          rw [if_pos c1]
          exact c
        refine bz_y c1 ⟨hin, _, c7_bucketOf hK hi' (FC_cKe hA.2.2.2.1 hky) hni, ?_⟩
        rw [nI_ne (by omega) (by omega), nI_eq' (by omega) (by omega)]
        exact nf c2 ⟨hin, V1, z1, y1⟩
      · exact bz_n c1 ⟨hin, V1, z1, y1⟩
    · have c1 : eqI q ky < qm q := by
        apply Classical.byContradiction
        intro c1
        apply c
        unfold tbP
        rw [decide_eq_false c1]
        rfl
      have c2 : ¬ bk (fl ky) (nm i) = feq q A B ky % 8 := by
        intro c2
        apply c
        unfold feq at c2
        rw [if_pos c1] at c2
        unfold tbP
        rw [decide_eq_true c2, Bool.or_true]
      obtain ⟨V2, y1, y2, y3⟩ := ih (i + 1) s V (by omega) hR hA hS h8
      have ep : pstp (tbP q fl A B ky) q fl A B (qc q) (nm i) s = s := if_neg c
      rw [ep]
      refine ⟨V2, wX7_run_24 hK hi' ha (bf (lp_in hR.2.1 (by omega) (by omega)) (bz_y c1 ⟨hin, _, by rw [ek, (hR.2.2 i him).1]; exact c7_bucketOf hK hi' (FC_cKe hA.2.2.2.1 hky) hni, ?_⟩)), y2, y3⟩
      rw [nI_ne (by omega) (by omega), nI_eq' (by omega) (by omega), nI_1]
      exact nt c2 y1
theorem c7_run (hK : StK K) (hi' : IsSt K b 7 ky) (ha : IsAk K a) (hab : apart z a b) (hz : 3 ≤ z) (hb : 96 ≤ b) (hky : ky < 4) (hn : ∀ i, i < m → nm i < nT) : tyC z G (d + 3) K mX7_run b a ky nT q fl A B (RowC b m nm) (rsl (qw q) (tbS q fl A B (qc q) ky m nm).1) (tbS q fl A B (qc q) ky m nm).2 := fun n J O V h1 h2 h3 h4 h5 => by
  have y1 := c0_hasEqual (G := G) (d := d + 1) (n := n) (J := J) (O := O) hK ha h1.1 h1.2.1 hky
  have y2 := c0_firstEqual (G := G) (d := d + 1) (n := n) (J := J) (O := O) hK ha h1.1 h1.2.1 h1.2.2.1 hky
  obtain ⟨V1, z1, z2, z3⟩ := c7_run24 (G := G) (d := d) (n := n) (J := J) (O := O) hK hi' ha hab hz hb hky hn m 0 ((0, 0, none), 0) V (by omega) h3 h1 h2 h4
  have hfe : feq q A B ky < 1000 := by
    unfold feq
    split
    · have := qwt_le h1.1 h1.2.2.2.2.1 h1.2.2.2.2.2.1 (show eqI q ky < qm q by assumption)
      omega
    · omega
  exact ⟨V1, wX7_run_0 hK hi' ha ⟨_, by rw [h5]; exact y1, _, by rw [h5]; exact y2, by rw [rem8 hfe]; exact z1⟩, z2, z3⟩
theorem c12_table10 (hK : StK K) (hs : sn < 10) (hky : ky < 4) (hn : ∀ i, i < m → nm i < nT) : ∀ (k i : Nat) (s : RuS × Nat) (V : SV), i + k = m → RowM sn m nm V → mKe sn ky nT (fl ky) V → AkRunM p nT q fl A B V → RM nT s.1 V → V 57 33 = nI s.2 → ∃ V', Ev G (d + 3) mX12_seeTable 10 [(0, .ref 57), (1, .int (nI p)), (2, .int (nI sn)), (3, .int (bkI q A B (eqI q ky))), (4, .int (nI i))] (K, n, V, J, O) none (K, n, V', J, O) ∧ RM nT (itr (fun i s => pstp (tbP q fl A B ky) q fl A B (qr q) (nm i) s) k i s).1 V' ∧ V' 57 33 = nI (itr (fun i s => pstp (tbP q fl A B ky) q fl A B (qr q) (nm i) s) k i s).2 ∧ fr frN V V' := by
  intro k
  induction k with
  | zero =>
    intro i s V e hR hk hA hS h8
    have h80 := hR.1
    refine ⟨V, wX12_seeTable_10 hK ⟨nI_v hs (by omega), ?_⟩, hS, h8, fr_rfl⟩
    rw [nI_c (by omega)]
    exact bt (lp_out hR.2.1 (by omega) (by omega)) ⟨rfl, rfl⟩
  | succ k ih =>
    intro i s V e hR hk hA hS h8
    have h80 := hR.1
    have him : i < m := by omega
    have hni := hn i him
    obtain ⟨l1, l2⟩ := look1 h8
    have hbk : bk (fl ky) (nm i) < 8 := Nat.mod_lt _ (by decide)
    have hke := (hk.2.2.2.2 _ hni).2
    have y1 := c12_keyIn (G := G) (d := d + 2) (n := n) (J := J) (O := O) hK hk hni
    have start := fun (V' : SV) (r : Option Value) hh => wX12_seeTable_10 (G := G) (d := d + 2) (K := K) (n := n) (V := V) (V' := V') (J := J) (O := O) (r := r) (x1 := nI p) (x2 := nI sn) (x3 := bkI q A B (eqI q ky)) (x4 := nI i) hK ⟨nI_v hs (by omega), bf (by rw [nI_c (by omega)]; exact lp_in hR.2.1 (by omega) (by omega)) ⟨by rw [ix80]; exact nI_v (by omega) (by omega), hh⟩⟩
    rw [ix80, nI_c (show 80 * sn + i < 100000 by omega), (hR.2.2 i him).1, nI_1] at start
    unfold itr
    by_cases c : tbP q fl A B ky (nm i) = true
    · obtain ⟨V1, z1, z2, z3⟩ := c12_see (G := G) (d := d) (n := n) (J := J) (O := O) hK (AkRunM_n hA l1) (RM_l hS (x := V 57 33 + 1)) hni
      have f1 : fr frN V V1 := fr_mo (fr_tr l1 z3) (fun x k q => q.elim id frMs_N)
      obtain ⟨V2, w1, w2, w3, w4⟩ := ih (i + 1) (sstep (hq q fl A B) (fl (qr q)) (qw q) s.1 (nm i), s.2 + 1) V1 (by omega) (RowM_n hR f1) (mKe_n hk f1) (AkRunM_n hA f1) z2 (by rw [z3 _ _ (by unfold frMs; omega), l2])
      have ep : pstp (tbP q fl A B ky) q fl A B (qr q) (nm i) s = (sstep (hq q fl A B) (fl (qr q)) (qw q) s.1 (nm i), s.2 + 1) := if_pos c
      rw [ep]
      refine ⟨V2, start _ _ ?_, w2, w3, fr_mo (fr_tr f1 w4) (fun x k q => q.elim id id)⟩
      by_cases c1 : eqI q ky < qm q
      · have hwq := qwt_le hA.1 hA.2.2.2.2.1 hA.2.2.2.2.2.1 c1
        have e8 : qwt q A B (eqI q ky) % 8 < 8 := Nat.mod_lt _ (by decide)
        have ebk : bkI q A B (eqI q ky) = nI (qwt q A B (eqI q ky) % 8) := if_pos c1
        have c2 : bk (fl ky) (nm i) = qwt q A B (eqI q ky) % 8 := by
          unfold tbP at c
          rw [decide_eq_true c1] at c
          simpa using c
        rw [ebk] at w1 ⊢
        refine bf (nI_pos (by omega)) ⟨_, y1, ?_⟩
        rw [rem8 (by omega), nI_ne (by omega) (by omega), nI_eq' (by omega) (by omega)]
        exact nf c2 ⟨V1, z1, w1⟩
      · have ebk : bkI q A B (eqI q ky) = -1 := if_neg c1
        rw [ebk] at w1 ⊢
        exact bt (by decide) ⟨V1, z1, w1⟩
    · have c1 : eqI q ky < qm q := by
        apply Classical.byContradiction
        intro c1
        apply c
        unfold tbP
        rw [decide_eq_false c1]
        rfl
      have c2 : ¬ bk (fl ky) (nm i) = qwt q A B (eqI q ky) % 8 := by
        intro c2
        apply c
        unfold tbP
        rw [decide_eq_true c2, Bool.or_true]
      have e8 : qwt q A B (eqI q ky) % 8 < 8 := Nat.mod_lt _ (by decide)
      have ebk : bkI q A B (eqI q ky) = nI (qwt q A B (eqI q ky) % 8) := if_pos c1
      obtain ⟨V2, w1, w2, w3, w4⟩ := ih (i + 1) s V (by omega) hR hk hA hS h8
      have ep : pstp (tbP q fl A B ky) q fl A B (qr q) (nm i) s = s := if_neg c
      rw [ep]
      refine ⟨V2, start _ _ ?_, w2, w3, w4⟩
      rw [ebk] at w1 ⊢
      refine bf (nI_pos (by omega)) ⟨_, y1, ?_⟩
      rw [rem8 (by omega), nI_ne (by omega) (by omega), nI_eq' (by omega) (by omega)]
      exact nt c2 w1
theorem m4_run (hK : StK K) (hs : sn < 10) (hky : ky < 4) (hn : ∀ i, i < m → nm i < nT) : tyM G (d + 5) K 4 sn p ky nT q fl A B (RowM sn m nm) (rsl (qw q) (tbS q fl A B (qr q) ky m nm).1) (tbS q fl A B (qr q) ky m nm).2 := fun n J O V h1 h2 h3 h4 h5 h6 h7 h8 h9 => by
  obtain ⟨V1, z1, z2, z3, z4, z5⟩ := c12_begin (G := G) (d := d + 4) (n := n) (J := J) (O := O) hK h1 h2 h3 h4 h5 h6
  have hk1 := mKe_o h7 (fr_mo z5 (fun x k q => by omega) : fr (fun a _ => a ≠ 58 ∧ a ≠ 71) V V1)
  have y0 := c12_bucketOf (G := G) (d := d + 2) (n := n) (J := J) (O := O) hK z2 hs hky hk1.2.2.2.1
  obtain ⟨V2, y1, y2, y3, y4⟩ := c12_table10 (G := G) (d := d + 1) (n := n) (J := J) (O := O) hK hs hky hn m 0 ((0, 0, none), 0) V1 (by omega) (RowM_o h9 (fr_mo z5 (fun x k q => by omega))) hk1 z2 z3 z4
  refine ⟨V2, wX12_throughOf_0 hK ⟨V1, z1, nI_v hs (by omega), ?_⟩, y3, frV2 z5 y4⟩
  rw [nI_c (by omega), z5 _ _ (by omega)]
  exact tw_4 h8 ⟨V2, wX12_seeTable_0 hK ⟨_, y0, y1⟩, c12_242 hK (AkRunM_n z2 y4) y2⟩
/-- BITS: what is sought -/
def btA (q : QD) (A B ky : Nat) (bits : Int32) : Int32 := if bits &&& bit2 (nI (feq q A B ky)) = bit2 (nI (feq q A B ky)) then -6 else 0
theorem c1_run (hK : StK K) (hi' : IsSt K b 1 ky) (ha : IsAk K a) (hab : apart z a b) (hz : 3 ≤ z) (hb : 96 ≤ b) (hky : ky < 4) {bits : Int32} : tyC z G (d + 4) K mX1_run b a ky nT q fl A B (fun V => V b 11 = bits) (if canB q 6 ky = true then btA q A B ky bits else -2) (if canB q 6 ky = true then 2 else 0) := fun n J O V h1 h2 h3 h4 h5 => by
  have y1 := c0_isOne (G := G) (d := d + 1) (n := n) (J := J) (O := O) hK ha h1.1 h1.2.1 hky
  have ec : (canB q 6 ky = true) = (qw q = 110 ∧ qm q = 1 ∧ eqI q ky < qm q) := by
    unfold canB
    rw [if_pos rfl]
    simp
  have f0 : fr (fun x k => x = b ∧ k = 8) V (up2 V b 8 (V b 8 + 2)) := fr_up fr_rfl ⟨rfl, rfl⟩
  have hA1 := AkRun_b (x := V b 8 + 2) h1 hab hz hb
  have y2 := c0_firstEqual (G := G) (d := d + 2) (n := n) (J := J) (O := O) hK ha hA1.1 hA1.2.1 hA1.2.2.1 hky
  by_cases c : qw q = 110 ∧ qm q = 1 ∧ eqI q ky < qm q
  · rw [if_pos (by rw [ec]; exact c), if_pos (by rw [ec]; exact c)]
    refine ⟨_, wX1_run_0 hK hi' ha ⟨_, by rw [h5]; exact y1, bn_y c ⟨_, by rw [h5]; exact y2, _, wX1_bitsOf_0 hK rfl, ?_⟩⟩, ?_, fr_mo f0 (fun x k q => by unfold frU; omega)⟩
    · rw [h3]
      unfold btA bit2
      by_cases c2 : bits &&& bit2 (nI (feq q A B ky)) = bit2 (nI (feq q A B ky))
      · unfold bit2 at c2
        rw [if_pos c2]
        exact nf c2 ⟨rfl, rfl⟩
      · unfold bit2 at c2
        rw [if_neg c2]
        exact nt c2 ⟨rfl, rfl⟩
    · rw [up2_s, h4]
      rfl
  · rw [if_neg (by rw [ec]; exact c), if_neg (by rw [ec]; exact c)]
    exact ⟨V, wX1_run_0 hK hi' ha ⟨_, by rw [h5]; exact y1, bn_n c ⟨rfl, rfl⟩⟩, h4, fr_rfl⟩
theorem m6_run (hK : StK K) (hs : sn < 10) (hky : ky < 4) {bits : Int32} (hcan : canB q 6 ky = true) : tyM G (d + 2) K 6 sn p ky nT q fl A B (fun V => V 77 sn = bits) (btA q A B ky bits) 2 := fun n J O V h1 h2 h3 h4 h5 h6 h7 h8 h9 => by
  obtain ⟨V1, z1, z2, z3, z4, z5⟩ := c12_begin (G := G) (d := d + 1) (n := n) (J := J) (O := O) hK h1 h2 h3 h4 h5 h6
  have ec : (canB q 6 ky = true) = (qw q = 110 ∧ qm q = 1 ∧ eqI q ky < qm q) := by
    unfold canB
    rw [if_pos rfl]
    simp
  rw [ec] at hcan
  have e0 : eqI q ky = 0 := by omega
  have f1 : fr frN V1 (up2 V1 57 33 2) := fr_up fr_rfl ⟨rfl, by omega⟩
  have y1 := c12_valueOf (G := G) (d := d + 1) (n := n) (J := J) (O := O) hK (AkRunM_n z2 f1) (i := 0) (by omega)
  have ef : feq q A B ky = qwt q A B 0 := by
    unfold feq
    rw [if_pos hcan.2.2, e0]
  rw [Nat.add_zero] at y1
  refine ⟨up2 V1 57 33 2, wX12_throughOf_0 hK ⟨V1, z1, nI_v hs (by omega), ?_⟩, up2_s, frV2 z5 f1⟩
  rw [nI_c (by omega), z5 70 _ (by omega), z5 77 _ (by omega), h9]
  refine tw_6 h8 ⟨_, by rw [ix16']; exact y1, _, wX12_bitsOf_0 hK rfl, nI_v hs (by omega), ?_⟩
  unfold btA
  rw [ef]
  unfold bit2
  by_cases c2 : bits &&& bit2 (nI (qwt q A B 0)) = bit2 (nI (qwt q A B 0))
  · unfold bit2 at c2
    rw [if_pos c2]
    exact nf c2 ⟨rfl, rfl⟩
  · unfold bit2 at c2
    rw [if_neg c2]
    exact nt c2 ⟨rfl, rfl⟩
end
