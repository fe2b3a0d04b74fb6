/-! ===== through: any kind ===== -/
def okS (N : Nat) (s : RuS) : Prop := s.1 ≤ N ∧ s.2.1 ≤ 100 * N ∧ ∀ b, s.2.2 = some b → b < 1000
theorem okS_0 : okS 0 ((0, 0, none) : RuS) := ⟨Nat.le_refl _, Nat.le_refl _, fun b h => by cases h⟩
theorem okS_up {N : Nat} {s : RuS} (h : okS N s) : okS (N + 1) s := ⟨by have := h.1; omega, by have := h.2.1; omega, h.2.2⟩
theorem okS_s {N : Nat} {s : RuS} {h : Nat → Bool} {v : Nat → Nat} {w t : Nat} (hs : okS N s) (hv : v t < 100) (ht : t < 1000) : okS (N + 1) (sstep h v w s t) := by
  obtain ⟨h1, h2, h3⟩ := hs
  by_cases c : h t = true
  · rw [sstep_y c]
    refine ⟨by show s.1 + 1 ≤ N + 1; omega, by show s.2.1 + v t ≤ 100 * (N + 1); omega, fun b hb => ?_⟩
    have hb' : (match s.2.2 with
      | none => t
      | some b => if bet w (v t) (v b) t b = true then t else b) = b := Option.some.inj hb
    cases e : s.2.2 with
    | none =>
      rw [e] at hb'
      dsimp only at hb'
      omega
    | some b0 =>
      rw [e] at hb'
      dsimp only at hb'
      have := h3 b0 e
      by_cases c2 : bet w (v t) (v b0) t b0 = true
      · rw [if_pos c2] at hb'
        omega
      · rw [if_neg c2] at hb'
        omega
  · rw [sstep_n c]
    exact okS_up ⟨h1, h2, h3⟩
theorem okS_itr {f : Nat → RuS → RuS} : ∀ {k t N : Nat} {s : RuS}, (∀ j s N, t ≤ j → j < t + k → okS N s → okS (N + 1) (f j s)) → okS N s → okS (N + k) (itr f k t s)
  | 0, _, _, _, _, h => h
  | k + 1, t, N, s, hf, h => by
    have := okS_itr (k := k) (t := t + 1) (N := N + 1) (s := f t s) (fun j s N h1 h2 => hf j s N (by omega) (by omega)) (hf t s N (Nat.le_refl _) (by omega) h)
    rw [show N + (k + 1) = N + 1 + k by omega]
    exact this
theorem okS_fold {f : RuS → Nat → RuS} : ∀ {L : List Nat} {N : Nat} {s : RuS}, (∀ s N u, u ∈ L → okS N s → okS (N + 1) (f s u)) → okS N s → okS (N + L.length) (L.foldl f s)
  | [], _, _, _, h => h
  | u :: L, N, s, hf, h => by
    have := okS_fold (L := L) (N := N + 1) (s := f s u) (fun s N v hv => hf s N v (by simp [hv])) (hf s N u (by simp) h)
    rw [List.length_cons, show N + (L.length + 1) = N + 1 + L.length by omega]
    exact this
theorem okS_srt {q : QD} {fl : Nat → Nat → Nat} {A B f : Nat} {ke nm : Nat → Nat} {hi : Nat} : ∀ {k i N c : Nat} {s : RuS}, (∀ j, i ≤ j → j < i + k → fl f (nm j) < 100 ∧ nm j < 1000) → okS N s → okS (N + k) (srtR q fl A B f ke nm hi k i s c).1
  | 0, _, _, _, _, _, h => h
  | k + 1, i, N, c, s, hf, h => by
    unfold srtR
    split
    · have := okS_srt (q := q) (A := A) (B := B) (ke := ke) (hi := hi) (k := k) (i := i + 1) (N := N + 1) (c := c + 1) (s := stp q fl A B f nm i s) (fun j h1 h2 => hf j (by omega) (by omega)) (okS_s h (hf i (by omega) (by omega)).1 (hf i (by omega) (by omega)).2)
      rw [show N + (k + 1) = N + 1 + k by omega]
      exact this
    · obtain ⟨h1, h2, h3⟩ := h
      exact ⟨show s.1 ≤ N + (k + 1) by omega, show s.2.1 ≤ 100 * (N + (k + 1)) by omega, h3⟩
theorem rsl_ne {N w : Nat} {s : RuS} (h : okS N s) (hN : N ≤ 900) : rsl w s ≠ -2 := by
  obtain ⟨h1, h2, h3⟩ := h
  have key : ∀ x : Nat, x < 100000 → nI x ≠ -2 := fun x hx z => by
    have := congrArg Int32.toInt z
    rw [nI_ti hx] at this
    have e1 : (-2 : Int32).toInt = -2 := by decide
    omega
  unfold rsl
  split
  · exact key _ (by omega)
  · split
    · exact key _ (by omega)
    · cases e : s.2.2 with
      | none => decide
      | some b => exact key b (by have := h3 b e; omega)
theorem okS_p {pr : Nat → Bool} {q : QD} {fl : Nat → Nat → Nat} {A B f : Nat} {nm : Nat → Nat} : ∀ {k i N : Nat} {s : RuS × Nat}, (∀ j, i ≤ j → j < i + k → fl f (nm j) < 100 ∧ nm j < 1000) → okS N s.1 → okS (N + k) (itr (fun i s => pstp pr q fl A B f (nm i) s) k i s).1
  | 0, _, _, _, _, h => h
  | k + 1, i, N, s, hf, h => by
    rw [show N + (k + 1) = N + 1 + k by omega]
    refine okS_p (k := k) (i := i + 1) (N := N + 1) (s := pstp pr q fl A B f (nm i) s) (fun j h1 h2 => hf j (by omega) (by omega)) ?_
    by_cases c : pr (nm i) = true
    · rw [pstp_y c]
      exact okS_s h (hf i (by omega) (by omega)).1 (hf i (by omega) (by omega)).2
    · rw [pstp_n c]
      exact okS_up h
theorem preF_mem {ke : Nat → Nat} {lo hi : Nat} {lc rc : Nat → Option Nat} : ∀ {h : Nat} {o : Option Nat} {L : List Nat} {u : Nat}, TS lc rc h o L → u ∈ preF ke lo hi lc rc h o → u ∈ L
  | 0, o, L, u, q, hu => by cases hu
  | h + 1, none, L, u, q, hu => by cases hu
  | h + 1, some t, L, u, ⟨A, B, e, q1, q2⟩, hu => by
    subst e
    rw [preF_s] at hu
    rcases List.mem_cons.mp hu with z | z
    · rw [z]; simp
    · rcases List.mem_append.mp z with z | z
      · have : u ∈ A := by
          by_cases c : lo ≤ ke t
          · rw [if_pos c] at z
            exact preF_mem q1 z
          · rw [if_neg c] at z
            cases z
        simp [this]
      · have : u ∈ B := by
          by_cases c : ke t < hi
          · rw [if_pos c] at z
            exact preF_mem q2 z
          · rw [if_neg c] at z
            cases z
        simp [this]
theorem rsl_f {q : QD} {F : Nat → RuS} (hk : Qok q) (h1 : ∀ f f', (F f).1 = (F f').1) : rsl (qw q) (F (qc q)) = rsl (qw q) (F (qr q)) := rsl_eq (h1 _ _) (fun hn => by rw [hk.2.2.2.2 hn])
theorem srt_1 {q : QD} {fl : Nat → Nat → Nat} {A B f f' : Nat} {ke nm : Nat → Nat} {hi : Nat} : ∀ {k i c : Nat} {s s' : RuS}, s.1 = s'.1 → (srtR q fl A B f ke nm hi k i s c).1.1 = (srtR q fl A B f' ke nm hi k i s' c).1.1 ∧ (srtR q fl A B f ke nm hi k i s c).2 = (srtR q fl A B f' ke nm hi k i s' c).2
  | 0, _, _, _, _, e => ⟨e, rfl⟩
  | k + 1, i, c, s, s', e => by
    unfold srtR
    split
    · exact srt_1 (sstep_1 e)
    · exact ⟨e, rfl⟩
theorem fold_1 {lo hi : Nat} {q : QD} {fl : Nat → Nat → Nat} {A B f f' ky : Nat} : ∀ {L : List Nat} {s s' : RuS}, s.1 = s'.1 → (L.foldl (tstp lo hi q fl A B f ky) s).1 = (L.foldl (tstp lo hi q fl A B f' ky) s').1
  | [], _, _, e => e
  | u :: L, s, s', e => by
    refine fold_1 (L := L) ?_
    unfold tstp
    split
    · exact sstep_1 e
    · exact e
theorem fsB_c {q : QD} (hk : Qok q) {ky : Nat} : fsB q (qc q) ky = fsB q (qr q) ky := by
  unfold fsB
  by_cases c : qw q = 110
  · rw [decide_eq_true c]
    simp
  · rw [hk.2.2.2.2 c]
section
variable {G : Gp} {d : Nat} {K : SK} {n : Nat × Nat} {V V' : SV} {J : SJV} {O : SO} {r : Option Value}
variable {z a b nT A B ky p sn kd : Nat} {q : QD} {fl : Nat → Nat → Nat} {g : GS} {S : Nat → Prop}
theorem smA_ne {m : Nat} {nm : Nat → Nat} (hm : m ≤ 80) (hv : ∀ i, i < m → fl ky (nm i) < 100) : smA q fl A B ky m nm ≠ -2 := by
  have key : ∀ x : Nat, x < 100000 → nI x ≠ -2 := fun x hx z => by
    have := congrArg Int32.toInt z
    rw [nI_ti hx] at this
    have e1 : (-2 : Int32).toInt = -2 := by decide
    omega
  have p1 := loP_le (ke := fl ky) (nm := nm) (m := m) (lo := hiE q A B ky) (c := (loP (fl ky) nm m (loE q A B ky) 0).2)
  have ps : ∀ j, j ≤ m → psum (fl ky) nm j ≤ 100 * j := by
    intro j
    induction j with
    | zero => intro _; exact Nat.le_refl _
    | succ j ih =>
      intro hj
      have h1 := ih (by omega)
      have h2 := hv j (by omega)
      rw [psum_s]
      omega
  unfold smA smP
  dsimp only
  generalize loP (fl ky) nm m (loE q A B ky) 0 = P1 at *
  generalize loP (fl ky) nm m (hiE q A B ky) P1.2 = P2 at *
  by_cases c : P1.1 < P2.1
  · rw [if_pos c]
    have h2 := ps P2.1 p1
    have hmo := psum_mono (ke := fl ky) (nm := nm) (i := P1.1) (P2.1 - P1.1)
    rw [show P1.1 + (P2.1 - P1.1) = P2.1 by omega] at hmo
    split
    · exact key _ (by omega)
    · rw [nI_s hmo]
      exact key _ (by omega)
  · rw [if_neg c]
    decide
theorem moI_ne {o : Option Nat} (h : ∀ u, o = some u → u < 1000) : moI o ≠ -2 := by
  cases o with
  | none => decide
  | some u =>
    intro z
    have := congrArg Int32.toInt z
    rw [show moI (some u) = nI u from rfl, nI_ti (by have := h u rfl; omega)] at this
    have e1 : (-2 : Int32).toInt = -2 := by decide
    omega
theorem tyC_e {D : Nat} {M : AM} {R : SV → Prop} {r r' : Int32} {c c' : Nat} (h : tyC z G D K M b a ky nT q fl A B R r c) (e : r = r') (e2 : c = c') : tyC z G D K M b a ky nT q fl A B R r' c' := e ▸ e2 ▸ h
theorem thr_any (hK : StK K) (hkd : kd ≤ 7) (hi' : IsSt K b (kc kd) ky) (ha : IsAk K a) (hb : 96 ≤ b) (hab : apart (sz kd) a b) (hs : sn < 10) (hky : ky < 4) (hg : gI kd (fl ky) S g) (hS : ∀ u, S u → u < nT) (h80 : nT ≤ 80) (hv : ∀ f t, f < 4 → t < nT → fl f t < 100) (hk : Qok q) : ∃ (r : Int32) (c : Nat) (M : AM), vt11_230 (kc kd) = some M ∧ (∀ d, tyC (sz kd) G (d + 5) K M b a ky nT q fl A B (CR kd b (fl ky) g) (if canB q kd ky = true then r else -2) c) ∧ (canB q kd ky = true → r ≠ -2 ∧ ∀ d, tyM G (d + 86) K kd sn p ky nT q fl A B (MR kd sn g) r c) := by
  have hqr := hk.2.2.2.1
  have row : ∀ L : List Nat, hld S L → (∀ i, i < L.length → nmL L i < nT) ∧ L.length ≤ 80 := fun L h => ⟨fun i hi => hS _ ((h.2 _).mp (nmL_mem hi)), Nat.le_trans (hld_len h hS) h80⟩
  have okr : ∀ (L : List Nat), hld S L → rsl (qw q) (itr (stp q fl A B (qr q) (nmL L)) L.length 0 (0, 0, none)) ≠ -2 := fun L h => rsl_ne (okS_itr (N := 0) (fun j s N _ h2 h3 => okS_s h3 (hv _ _ hqr ((row L h).1 j (by omega))) (by have := (row L h).1 j (by omega); omega)) okS_0) (by have := (row L h).2; omega)
  have e1 : ∀ (nm : Nat → Nat) (m : Nat), rsl (qw q) (itr (stp q fl A B (qc q) nm) m 0 (0, 0, none)) = rsl (qw q) (itr (stp q fl A B (qr q) nm) m 0 (0, 0, none)) := fun nm m => rsl_f (F := fun f => itr (stp q fl A B f nm) m 0 (0, 0, none)) hk (fun f f' => itr_1 (fun j s s' e => sstep_1 e) rfl)
  rcases kd_cases hkd with rfl | rfl | rfl | rfl | rfl | rfl | rfl | rfl
  · exact ⟨0, 0, _, rfl, fun d n J O V h1 h2 h3 h4 h5 => ⟨V, wX5_run_0 hK hi' (by decide) ha rfl, h4, fr_rfl⟩, fun h => by cases h⟩
  · obtain ⟨hn, hl⟩ := row g.1 hg
    exact ⟨_, _, _, rfl, fun d => tyC_e (c3_run (d := d + 2) hK hi' (by decide) ha hab (by decide) hb hn) (by rw [e1]; rfl) rfl, fun _ => ⟨okr g.1 hg, fun d => m1_run (d := d + 82) hK hs hn⟩⟩
  · obtain ⟨hn, hl⟩ := row g.1 hg.1
    have e2 := srt_1 (q := q) (fl := fl) (A := A) (B := B) (f := qc q) (f' := qr q) (ke := fl ky) (nm := nmL g.1) (hi := hiE q A B ky) (k := g.1.length - (loP (fl ky) (nmL g.1) g.1.length (loE q A B ky) 0).1) (i := (loP (fl ky) (nmL g.1) g.1.length (loE q A B ky) 0).1) (c := (loP (fl ky) (nmL g.1) g.1.length (loE q A B ky) 0).2) (s := (0, 0, none)) (s' := (0, 0, none)) rfl
    have hp := loP_le (ke := fl ky) (nm := nmL g.1) (m := g.1.length) (lo := loE q A B ky) (c := 0)
    refine ⟨rsl (qw q) (srtA q fl A B (qr q) ky g.1.length (nmL g.1)).1, (srtA q fl A B (qr q) ky g.1.length (nmL g.1)).2, _, rfl, fun d => tyC_e (c4_run (d := d + 2) hK hi' (by decide) ha hab (by decide) hb hky hn) ?_ e2.2, fun _ => ⟨rsl_ne (okS_srt (N := 0) (fun j h1 h2 => ⟨hv _ _ hqr (hn j (by omega)), by have := hn j (by omega); omega⟩) okS_0) (by omega), fun d => m2_run (d := d + 82) hK hs hky hn⟩⟩
    show rsl (qw q) (srtA q fl A B (qc q) ky g.1.length (nmL g.1)).1 = rsl (qw q) (srtA q fl A B (qr q) ky g.1.length (nmL g.1)).1
    exact rsl_eq e2.1 (fun hn => by rw [hk.2.2.2.2 hn])
  · obtain ⟨hn, hl⟩ := row g.1 hg
    have ec : (qm q = 0 ∧ qw q = 109 ∧ qc q = ky) = (qm q = 0 ∧ qw q = 109 ∧ qr q = ky) := by
      apply propext
      constructor
      · rintro ⟨x1, x2, x3⟩
        exact ⟨x1, x2, by rw [← hk.2.2.2.2 (by omega)]; exact x3⟩
      · rintro ⟨x1, x2, x3⟩
        exact ⟨x1, x2, by rw [hk.2.2.2.2 (by omega)]; exact x3⟩
    refine ⟨if qm q = 0 ∧ qw q = 109 ∧ qr q = ky then moI (if 0 < g.1.length then some (nmL g.1 0) else none) else rsl (qw q) (itr (stp q fl A B (qr q) (nmL g.1)) g.1.length 0 (0, 0, none)), if qm q = 0 ∧ qw q = 109 ∧ qr q = ky then (if 0 < g.1.length then 1 else 0) else g.1.length, _, rfl, fun d => tyC_e (c2_run (d := d + 1) hK hi' ha hab (by decide) hb hky hn) ?_ ?_, fun _ => ⟨?_, fun d => m3_run (d := d + 81) hK hs hky hn⟩⟩
    · simp only [ec]
      rw [e1]
      rfl
    · simp only [ec]
    · by_cases c : qm q = 0 ∧ qw q = 109 ∧ qr q = ky
      · rw [if_pos c]
        refine moI_ne (fun u hu => ?_)
        by_cases c2 : 0 < g.1.length
        · rw [if_pos c2] at hu
          have := hn 0 c2
          cases hu
          omega
        · rw [if_neg c2] at hu
          cases hu
      · rw [if_neg c]
        exact okr g.1 hg
  · obtain ⟨hn, hl⟩ := row g.1 hg
    have hnC : ∀ i, i < (CL (fl ky) g.1).length → nmL (CL (fl ky) g.1) i < nT := fun i hi => hS _ ((hg.2 _).mp (CL_mem.mp (nmL_mem hi)))
    have e2 := itr_p1 (pr := tbP q fl A B ky) (q := q) (fl := fl) (A := A) (B := B) (f := qc q) (f' := qr q) (nm := nmL g.1) (k := g.1.length) (i := 0) (s := ((0, 0, none), 0)) (s' := ((0, 0, none), 0)) rfl rfl
    have e3 := tab_eq (pr := tbP q fl A B ky) (q := q) (fl := fl) (A := A) (B := B) (f := qc q) (ke := fl ky) (L := g.1) (s := ((0, 0, none), 0))
    refine ⟨rsl (qw q) (tbS q fl A B (qr q) ky g.1.length (nmL g.1)).1, (tbS q fl A B (qr q) ky g.1.length (nmL g.1)).2, _, rfl, fun d => tyC_e (c7_run (d := d + 2) hK hi' ha hab (by decide) hb hky hnC) ?_ ?_, fun _ => ⟨rsl_ne (okS_p (N := 0) (fun j h1 h2 => ⟨hv _ _ hqr (hn j (by omega)), by have := hn j (by omega); omega⟩) okS_0) (by omega), fun d => m4_run (d := d + 81) hK hs hky hn⟩⟩
    · show rsl (qw q) (tbS q fl A B (qc q) ky (CL (fl ky) g.1).length (nmL (CL (fl ky) g.1))).1 = rsl (qw q) (tbS q fl A B (qr q) ky g.1.length (nmL g.1)).1
      unfold tbS
      rw [e3]
      exact rsl_eq e2.1 (fun hn => by rw [hk.2.2.2.2 hn])
    · unfold tbS
      rw [e3]
      exact e2.2
  · obtain ⟨hn, hl⟩ := row g.1 hg.1
    have hL := hg.2.2
    have hnn : ∀ u, u ∈ g.1 → u < nT := fun u hu => hS _ ((hg.1.2 u).mp hu)
    have hp := pi_perm (ke := fl ky) (lo := loE q A B ky) (hi := hiE q A B ky) (lc := g.2.1) (rc := g.2.2.1) (h := 80) (o := g.2.2.2.1)
    have e3 := pm_fold (f := tstp (loE q A B ky) (hiE q A B ky) q fl A B (qr q) ky) (fun s a b => tstp_c s a b) hp (0, 0, none)
    refine ⟨rsl (qw q) ((inF (fl ky) (loE q A B ky) (hiE q A B ky) g.2.1 g.2.2.1 80 g.2.2.2.1).foldl (tstp (loE q A B ky) (hiE q A B ky) q fl A B (qr q) ky) (0, 0, none)), (inF (fl ky) (loE q A B ky) (hiE q A B ky) g.2.1 g.2.2.1 80 g.2.2.2.1).length, _, rfl, fun d => tyC_e (c10_run (d := d + 2) hK hi' ha hab (by decide) hb hky hL rfl hnn) ?_ hp.length_eq, fun _ => ⟨?_, fun d => m5_run (d := d + 2) hK hs hky hL hnn⟩⟩
    · show _ = rsl (qw q) _
      rw [← e3]
      exact rsl_f (F := fun f => (preF (fl ky) (loE q A B ky) (hiE q A B ky) g.2.1 g.2.2.1 80 g.2.2.2.1).foldl (tstp (loE q A B ky) (hiE q A B ky) q fl A B f ky) (0, 0, none)) hk (fun f f' => fold_1 rfl)
    · rw [← e3]
      have hlen := preF_len (ke := fl ky) (lo := loE q A B ky) (hi := hiE q A B ky) hL
      refine rsl_ne (okS_fold (N := 0) (fun s N u hu h3 => ?_) okS_0) (by omega)
      have hun := hnn u (preF_mem hL hu)
      unfold tstp
      split
      · exact okS_s h3 (hv _ _ hqr hun) (by omega)
      · exact okS_up h3
  · refine ⟨btA q A B ky g.2.2.2.2, if canB q 6 ky = true then 2 else 0, _, rfl, fun d => c1_run (d := d + 1) hK hi' ha hab (by decide) hb hky, fun h => ⟨?_, fun d => ?_⟩⟩
    · unfold btA
      split <;> decide
    · rw [if_pos h]
      exact m6_run (d := d + 84) hK hs hky h
  · obtain ⟨hn, hl⟩ := row g.1 hg.1
    have e2 := srt_1 (q := q) (fl := fl) (A := A) (B := B) (f := qc q) (f' := qr q) (ke := fl ky) (nm := nmL g.1) (hi := hiE q A B ky) (k := g.1.length - (loP (fl ky) (nmL g.1) g.1.length (loE q A B ky) 0).1) (i := (loP (fl ky) (nmL g.1) g.1.length (loE q A B ky) 0).1) (c := (loP (fl ky) (nmL g.1) g.1.length (loE q A B ky) 0).2) (s := (0, 0, none)) (s' := (0, 0, none)) rfl
    have hp := loP_le (ke := fl ky) (nm := nmL g.1) (m := g.1.length) (lo := loE q A B ky) (c := 0)
    refine ⟨if fsB q (qr q) ky = true then smA q fl A B ky g.1.length (nmL g.1) else rsl (qw q) (srtA q fl A B (qr q) ky g.1.length (nmL g.1)).1, if fsB q (qr q) ky = true then (smP q fl A B ky g.1.length (nmL g.1)).2.2 else (srtA q fl A B (qr q) ky g.1.length (nmL g.1)).2, _, rfl, fun d => tyC_e (c6_run (d := d + 1) hK hi' ha hab (by decide) hb hky hn) ?_ ?_, fun _ => ⟨?_, fun d => m7_run (d := d + 82) hK hs hky hn⟩⟩
    · rw [fsB_c hk]
      show _ = (if fsB q (qr q) ky = true then _ else _)
      by_cases c : fsB q (qr q) ky = true
      · rw [if_pos c, if_pos c]
      · rw [if_neg c, if_neg c]
        show rsl (qw q) (srtA q fl A B (qc q) ky g.1.length (nmL g.1)).1 = rsl (qw q) (srtA q fl A B (qr q) ky g.1.length (nmL g.1)).1
        exact rsl_eq e2.1 (fun hn => by rw [hk.2.2.2.2 hn])
    · rw [fsB_c hk]
      by_cases c : fsB q (qr q) ky = true
      · rw [if_pos c, if_pos c]
      · rw [if_neg c, if_neg c]
        exact e2.2
    · by_cases c : fsB q (qr q) ky = true
      · rw [if_pos c]
        exact smA_ne hl (fun i hi => hv _ _ hky (hn i hi))
      · rw [if_neg c]
        exact rsl_ne (okS_srt (N := 0) (fun j h1 h2 => ⟨hv _ _ hqr (hn j (by omega)), by have := hn j (by omega); omega⟩) okS_0) (by omega)
end
