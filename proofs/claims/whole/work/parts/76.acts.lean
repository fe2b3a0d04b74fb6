/-! ===== act, trace: of both ===== -/
/-- the latest act's bodies, in both -/
def TX (nS : Nat) (ad : Nat → Nat) (O : SO) (T : List Nat) (V : SV) : Prop := TrMx T V ∧ T.length ≤ 100 ∧ ((O 0 9 = none ∧ T = []) ∨ ∃ i, i < nS ∧ O 0 9 = some (ad i) ∧ TrCx (ad i) T V)
def frT9 (nS : Nat) (ad : Nat → Nat) : Nat → Nat → Prop := fun x k => (∃ i, i < nS ∧ (x = ad i + 1 ∨ (x = ad i ∧ k = 5))) ∨ x = 91 ∨ (x = 57 ∧ (k = 51 ∨ k = 52))
section
variable {G : Gp} {d : Nat} {K : SK} {n : Nat × Nat} {V V' : SV} {J : SJV} {O O' : SO} {r : Option Value}
variable {nS nT : Nat} {ad kd ky : Nat → Nat} {fl : Nat → Nat → Nat} {ins : Nat → Bool} {x : Nat → SX} {T : List Nat}
theorem TX_Tr (hS : StR nS nT ad kd ky fl ins K O x V) (h : TX nS ad O T V) : TrR K O V := by
  obtain ⟨h1, h2, h3⟩ := h
  rcases h3 with ⟨h3, h4⟩ | ⟨i, hi, h3, h4⟩
  · subst h4
    exact Or.inl ⟨h3, h1.1⟩
  · obtain ⟨⟨⟨h96, hkd, hky⟩, hO, hIs⟩, -⟩ := hS.2.1 i hi
    exact Or.inr ⟨ad i, kc (kd i), ky i, h3, hIs, kc_in hkd, by rw [h4.1, h1.1]⟩
theorem tlB_len : ∀ k, k ≤ 7 → (tlB k).length ≤ 50 := by decide
theorem fnB_len : ∀ k, k ≤ 7 → (fnB k).length ≤ 50 := by decide
theorem mdB_len : ∀ k, k ≤ 7 → (mdB k k).length ≤ 50 := by decide
theorem kpB_len : ∀ k, k ≤ 7 → (kpB k).length ≤ 50 := by decide
/-- one act of both, begun -/
theorem act_go {M : AM} {b kyi kdi i : Nat} {y : Int32} {L : List Nat} {rr : Int32} (hlen : L.length ≤ 50) (hC : acC G (d + 12) K M b kyi i y L rr) (h96 : 96 ≤ b) (h1 : V b 1 = nI i) (h2 : V b 2 = nI kyi) (h70 : V 70 i = nI kdi) (h71 : V 71 i = nI kyi) {MM : AM} (hM : acM G (d + 12) K MM kdi kyi kdi i y L rr) : ∃ V1 V2, Ev G (d + 12) M 0 [(0, .ref b), (1, .int y)] (K, n, up2 V b 5 0, J, O) (some (.int rr)) (K, n, V1, J, O) ∧ Ev G (d + 12) MM 0 [(0, .ref 57), (1, .int (nI kdi)), (2, .int y)] (K, n, up2 (up2 V1 57 51 0) 57 52 (nI i), J, O) (some (.int rr)) (K, n, V2, J, O) ∧ TrCx b L V2 ∧ TrMx L V2 ∧ fr (fun x k => x = b + 1 ∨ (x = b ∧ k = 5)) V V1 ∧ fr (fun x k => x = b + 1 ∨ (x = b ∧ k = 5) ∨ x = 91 ∨ (x = 57 ∧ (k = 51 ∨ k = 52))) V V2 := by
  obtain ⟨V1, z1, z2, z3⟩ := hC n J O (up2 V b 5 0) [] (by simp; omega) ⟨by rw [up2_s]; rfl, fun j hj => by cases hj⟩ (by rw [up2_k (by decide)]; exact h1) (by rw [up2_k (by decide)]; exact h2)
  have f1 : fr (fun x k => x = b + 1 ∨ (x = b ∧ k = 5)) V V1 := fr_mo (fr_tr (fr_up fr_rfl ⟨rfl, rfl⟩ : fr (fun x k => x = b ∧ k = 5) V _) z3) (fun x k q => by unfold frL at q; omega)
  have f2 : fr (fun x k => x = 57 ∧ (k = 51 ∨ k = 52)) V1 (up2 (up2 V1 57 51 0) 57 52 (nI i)) := fr_up (fr_up fr_rfl ⟨rfl, Or.inl rfl⟩) ⟨rfl, Or.inr rfl⟩
  obtain ⟨V2, y1, y2, y3⟩ := hM n J O (up2 (up2 V1 57 51 0) 57 52 (nI i)) [] (by simp; omega) ⟨by rw [up2_k (by decide), up2_s]; rfl, fun j hj => by cases hj⟩ up2_s (by rw [f2 _ _ (by omega), f1 _ _ (by omega)]; exact h70) (by rw [f2 _ _ (by omega), f1 _ _ (by omega)]; exact h71)
  have f3 : fr (fun x k => x = 91 ∨ (x = 57 ∧ (k = 51 ∨ k = 52))) V1 V2 := fr_mo (fr_tr f2 y3) (fun x k q => by unfold frW at q; omega)
  refine ⟨V1, V2, z1, y1, ⟨by rw [f3 _ _ (by omega)]; exact z2.1, fun j h1 h2 => by rw [f3 _ _ (by omega)]; exact z2.2 j h1 h2⟩, y2, f1, fr_mo (fr_tr f1 f3) (fun x k q => by omega)⟩
theorem o9 {o : Option Nat} : up2 O 0 9 o 0 9 = o := up2_s
theorem s3_0 {x : Int32} {A0 A1 A2 A3 : Prop} (e : x = 0) (h : A0) : (x = 0 → A0) ∧ (x = 1 → A1) ∧ (x = 2 → A2) ∧ ((¬ x = 0 ∧ ¬ x = 1 ∧ ¬ x = 2) → A3) := by
  subst e
  exact ⟨fun _ => h, fun e => absurd e (by decide), fun e => absurd e (by decide), fun e => absurd rfl e.1⟩
theorem s3_1 {x : Int32} {A0 A1 A2 A3 : Prop} (e : x = 1) (h : A1) : (x = 0 → A0) ∧ (x = 1 → A1) ∧ (x = 2 → A2) ∧ ((¬ x = 0 ∧ ¬ x = 1 ∧ ¬ x = 2) → A3) := by
  subst e
  exact ⟨fun e => absurd e (by decide), fun _ => h, fun e => absurd e (by decide), fun e => absurd rfl e.2.1⟩
theorem s3_2 {x : Int32} {A0 A1 A2 A3 : Prop} (e : x = 2) (h : A2) : (x = 0 → A0) ∧ (x = 1 → A1) ∧ (x = 2 → A2) ∧ ((¬ x = 0 ∧ ¬ x = 1 ∧ ¬ x = 2) → A3) := by
  subst e
  exact ⟨fun e => absurd e (by decide), fun e => absurd e (by decide), fun _ => h, fun e => absurd rfl e.2.2⟩
theorem s3_3 {x : Int32} {A0 A1 A2 A3 : Prop} (e : x = 3) (h : A3) : (x = 0 → A0) ∧ (x = 1 → A1) ∧ (x = 2 → A2) ∧ ((¬ x = 0 ∧ ¬ x = 1 ∧ ¬ x = 2) → A3) := by
  subst e
  exact ⟨fun e => absurd e (by decide), fun e => absurd e (by decide), fun e => absurd e (by decide), fun _ => h⟩
theorem StR_O9 (hS : StR nS nT ad kd ky fl ins K O x V) {o : Option Nat} : StR nS nT ad kd ky fl ins K (up2 O 0 9 o) x V := ⟨hS.1, fun i hi => by
  obtain ⟨⟨h1, hO, hIs⟩, h2⟩ := hS.2.1 i hi
  exact ⟨⟨h1, by rw [up2_a (by decide)]; exact hO, hIs⟩, h2⟩, hS.2.2⟩
theorem p_act (hK : StK K) (hS : StR nS nT ad kd ky fl ins K O x V) (hT : TX nS ad O T V) {x1 x2 x3 : Int32} : ∃ (r : Int32) (V1 V2 : SV) (o : Option Nat) (T' : List Nat), Ev G (d + 13) mX11_act 0 [(0, .ref 0), (1, .int x1), (2, .int x2), (3, .int x3)] (K, n, V, J, O) (some (.int r)) (K, n, V1, J, up2 O 0 9 o) ∧ Ev G (d + 13) mX12_act 0 [(0, .ref 57), (1, .int x1), (2, .int x2), (3, .int x3)] (K, n, V1, J, up2 O 0 9 o) (some (.int r)) (K, n, V2, J, up2 O 0 9 o) ∧ fr (frT9 nS ad) V V2 ∧ TX nS ad (up2 O 0 9 o) T' V2 := by
  have hS10 := hS.1.1
  have none2 : TX nS ad (up2 O 0 9 none) [] (up2 V 57 51 0) := ⟨⟨up2_s, fun j hj => by cases hj⟩, Nat.zero_le _, Or.inl ⟨up2_s, rfl⟩⟩
  have fnone : fr (frT9 nS ad) V (up2 V 57 51 0) := fr_up fr_rfl (Or.inr (Or.inr ⟨rfl, Or.inl rfl⟩))
  by_cases h2 : ∃ a, a ≤ 3 ∧ x2 = nI a
  · obtain ⟨a, ha, rfl⟩ := h2
    have w1 : ∀ {V : SV}, Ev G (d + 12) mX11_isWithin 0 [(0, .int (nI a)), (1, .int 0), (2, .int 3)] (K, n, V, J, O) (some (.int 1)) (K, n, V, J, O) := x_wi (N := 3) hK (by decide) ha
    by_cases h1 : ∃ i, i < nS ∧ x1 = nI i
    · obtain ⟨i, hi, rfl⟩ := h1
      obtain ⟨⟨⟨h96, hkd, hky⟩, hO, hIs⟩, ⟨n1, n2⟩, -⟩ := hS.2.1 i hi
      obtain ⟨-, ⟨m1, m2⟩, -⟩ := hS.2.2.1 i hi
      have a1 := c11_stoneAt (G := G) (d := d + 11) (n := n) (J := J) hK hS hi
      have hvs : vp_in (nI i) 10 := nI_v (by omega) (by omega)
      have hci : (nI i).toNatClampNeg = i := nI_c (by omega)
      have hin := kc_in hkd
      have start := fun (V' : SV) (r : Option Value) hh => wX11_act_0 (G := G) (d := d + 12) (K := K) (n := n) (V := V) (V' := V') (J := J) (O := O) (O' := up2 O 0 9 (some (ad i))) (r := r) (x1 := nI i) (x2 := nI a) (x3 := x3) hK ⟨_, w1, bf one0 ⟨_, a1, Or.inr ⟨ad i, kc (kd i), ky i, rfl, hIs, hin, Or.inr ⟨ad i, kc (kd i), ky i, up2_s, hIs, hin, Or.inr ⟨ad i, kc (kd i), ky i, up2_s, hIs, hin, hh⟩⟩⟩⟩⟩
      have fin : ∀ (V1 V2 : SV) (L : List Nat), L.length ≤ 50 → TrCx (ad i) L V2 → TrMx L V2 → fr (fun x k => x = ad i + 1 ∨ (x = ad i ∧ k = 5) ∨ x = 91 ∨ (x = 57 ∧ (k = 51 ∨ k = 52))) V V2 → fr (frT9 nS ad) V V2 ∧ TX nS ad (up2 O 0 9 (some (ad i))) L V2 := fun V1 V2 L hl h1 h2 h3 => ⟨fr_mo h3 (fun x k q => by
        rcases q with q | q | q | q
        · exact Or.inl ⟨i, hi, Or.inl q⟩
        · exact Or.inl ⟨i, hi, Or.inr q⟩
        · exact Or.inr (Or.inl q)
        · exact Or.inr (Or.inr q)), h2, by omega, Or.inr ⟨i, hi, up2_s, h1⟩⟩
      have mstart := fun (V1 V' : SV) (hf : fr (fun x k => x = ad i + 1 ∨ (x = ad i ∧ k = 5)) V V1) (r : Option Value) hh => wX12_act_0 (G := G) (d := d + 12) (K := K) (n := n) (V := V1) (V' := V') (J := J) (O := up2 O 0 9 (some (ad i))) (r := r) (x1 := nI i) (x2 := nI a) (x3 := x3) hK ⟨_, wX12_isStone_0 hK (bf (nI_pos (by omega)) (bf (by rw [up2_k (by decide), hf _ _ (by omega), hS.1.2.2.2, nI_le' (by omega) (by omega)]; omega) rfl)), bf one0 ⟨_, m_wi (N := 3) hK (by decide) (by decide) ha, nt one0 hh⟩⟩
      have e70 : ∀ V1, fr (fun x k => x = ad i + 1 ∨ (x = ad i ∧ k = 5)) V V1 → V1 70 i = nI (kd i) := fun V1 hf => by rw [hf _ _ (by omega)]; exact m1
      rcases (show a = 0 ∨ a = 1 ∨ a = 2 ∨ a = 3 by omega) with rfl | rfl | rfl | rfl
      · obtain ⟨M, -, e1, hM⟩ := c_finds (G := G) (i := i) hK hkd hIs
        obtain ⟨V1, V2, z1, z2, z3, z4, z5, z6⟩ := act_go (d := d) (n := n) (J := J) (O := up2 O 0 9 (some (ad i))) (fnB_len _ hkd) (hM x3 (d + 9)) h96 n1 n2 m1 m2 (m_finds (kd := kd i) (k := kd i) hK (show i < 10 by omega) hkd x3 (d + 8))
        obtain ⟨g1, g2⟩ := fin V1 V2 _ (fnB_len _ hkd) z3 z4 z6
        exact ⟨_, V1, V2, some (ad i), _, start _ _ (s3_0 rfl (Or.inr ⟨ad i, kc (kd i), ky i, up2_s, hIs, hin, M, e1, _, V1, z1, rfl, rfl, rfl⟩)), mstart V1 V2 z5 _ (nf rfl ⟨hvs, _, V2, by rw [hci, e70 V1 z5]; exact z2, rfl, rfl⟩), g1, g2⟩
      · obtain ⟨M, -, e1, hM⟩ := c_mends (G := G) (i := i) hK hkd hIs
        obtain ⟨V1, V2, z1, z2, z3, z4, z5, z6⟩ := act_go (d := d) (n := n) (J := J) (O := up2 O 0 9 (some (ad i))) (mdB_len _ hkd) (hM x3 (d + 6)) h96 n1 n2 m1 m2 (m_mends (kd := kd i) hK (show i < 10 by omega) hkd x3 (d + 4))
        obtain ⟨g1, g2⟩ := fin V1 V2 _ (mdB_len _ hkd) z3 z4 z6
        exact ⟨_, V1, V2, some (ad i), _, start _ _ (s3_1 rfl (Or.inr ⟨ad i, kc (kd i), ky i, up2_s, hIs, hin, M, e1, _, V1, z1, rfl, rfl, rfl⟩)), mstart V1 V2 z5 _ (nt (by decide) (nf rfl ⟨hvs, _, V2, by rw [hci, e70 V1 z5]; exact z2, rfl, rfl⟩)), g1, g2⟩
      · obtain ⟨M, -, e1, hM⟩ := c_keeps (G := G) (i := i) hK hkd hIs
        obtain ⟨V1, V2, z1, z2, z3, z4, z5, z6⟩ := act_go (d := d) (n := n) (J := J) (O := up2 O 0 9 (some (ad i))) (kpB_len _ hkd) (hM x3 (d + 9)) h96 n1 n2 m1 m2 (m_keeps (kd := kd i) hK (show i < 10 by omega) hkd x3 (d + 7))
        obtain ⟨g1, g2⟩ := fin V1 V2 _ (kpB_len _ hkd) z3 z4 z6
        exact ⟨_, V1, V2, some (ad i), _, start _ _ (s3_2 rfl (Or.inr ⟨ad i, kc (kd i), ky i, up2_s, hIs, hin, M, e1, _, V1, z1, rfl, rfl, rfl⟩)), mstart V1 V2 z5 _ (nt (by decide) (nt (by decide) (nf rfl ⟨hvs, _, V2, by rw [hci, e70 V1 z5]; exact z2, rfl, rfl⟩))), g1, g2⟩
      · obtain ⟨M, e1, hM⟩ := c_tells (G := G) (i := i) hK hkd hIs
        obtain ⟨V1, V2, z1, z2, z3, z4, z5, z6⟩ := act_go (d := d) (n := n) (J := J) (O := up2 O 0 9 (some (ad i))) (tlB_len _ hkd) (hM x3 (d + 4)) h96 n1 n2 m1 m2 (m_tells (kd := kd i) hK (show i < 10 by omega) hkd x3 d)
        obtain ⟨g1, g2⟩ := fin V1 V2 _ (tlB_len _ hkd) z3 z4 z6
        exact ⟨_, V1, V2, some (ad i), _, start _ _ (s3_3 rfl (Or.inr ⟨ad i, kc (kd i), ky i, up2_s, hIs, hin, M, e1, _, V1, z1, rfl, rfl, rfl⟩)), mstart V1 V2 z5 _ (nt (by decide) (nt (by decide) (nt (by decide) ⟨hvs, _, V2, by rw [hci, e70 V1 z5]; exact z2, rfl, rfl⟩))), g1, g2⟩
    · have e25 : ¬ ∃ i, i < nS ∧ x1 = nI i := h1
      have hM : Ev G (d + 12) mX12_isStone 0 [(0, .ref 57), (1, .int x1)] (K, n, up2 V 57 51 0, J, up2 O 0 9 none) (some (.int 0)) (K, n, up2 V 57 51 0, J, up2 O 0 9 none) := by
        refine wX12_isStone_0 hK ?_
        by_cases q : x1 < 0
        · exact bt q rfl
        · refine bf q (bt ?_ rfl)
          rw [up2_k (by decide), hS.1.2.2.2]
          apply Int32.not_lt.mp
          intro q2
          exact h1 ((lt_iff (by omega)).mp ⟨Int32.not_lt.mp q, q2⟩)
      exact ⟨0, V, up2 V 57 51 0, none, [], wX11_act_0 hK ⟨_, w1, bf one0 ⟨_, c11_stoneNo hK hS h1, Or.inl ⟨rfl, Or.inl ⟨up2_s, rfl, rfl, rfl⟩⟩⟩⟩, wX12_act_0 hK ⟨_, hM, bt rfl ⟨rfl, rfl⟩⟩, fnone, none2⟩
  · have c0 : Ev G (d + 13) mX11_act 0 [(0, .ref 0), (1, .int x1), (2, .int x2), (3, .int x3)] (K, n, V, J, O) (some (.int 0)) (K, n, V, J, up2 O 0 9 none) := wX11_act_0 hK ⟨_, x_win (N := 3) hK (by decide) h2, bt rfl (Or.inl ⟨up2_s, rfl, rfl, rfl⟩)⟩
    by_cases h1 : ∃ i, i < nS ∧ x1 = nI i
    · obtain ⟨i, hi, rfl⟩ := h1
      have hM : Ev G (d + 12) mX12_isStone 0 [(0, .ref 57), (1, .int (nI i))] (K, n, up2 V 57 51 0, J, up2 O 0 9 none) (some (.int 1)) (K, n, up2 V 57 51 0, J, up2 O 0 9 none) := wX12_isStone_0 hK (bf (nI_pos (by omega)) (bf (by rw [up2_k (by decide), hS.1.2.2.2, nI_le' (by omega) (by omega)]; omega) rfl))
      exact ⟨0, V, up2 V 57 51 0, none, [], c0, wX12_act_0 hK ⟨_, hM, bf one0 ⟨_, m_win (N := 3) hK (by decide) (by decide) h2, nf rfl ⟨rfl, rfl⟩⟩⟩, fnone, none2⟩
    · have hM : Ev G (d + 12) mX12_isStone 0 [(0, .ref 57), (1, .int x1)] (K, n, up2 V 57 51 0, J, up2 O 0 9 none) (some (.int 0)) (K, n, up2 V 57 51 0, J, up2 O 0 9 none) := by
        refine wX12_isStone_0 hK ?_
        by_cases q : x1 < 0
        · exact bt q rfl
        · refine bf q (bt ?_ rfl)
          rw [up2_k (by decide), hS.1.2.2.2]
          apply Int32.not_lt.mp
          intro q2
          exact h1 ((lt_iff (by omega)).mp ⟨Int32.not_lt.mp q, q2⟩)
      exact ⟨0, V, up2 V 57 51 0, none, [], c0, wX12_act_0 hK ⟨_, hM, bt rfl ⟨rfl, rfl⟩⟩, fnone, none2⟩
theorem p_trace (hK : StK K) (hS : StR nS nT ad kd ky fl ins K O x V) (hT : TX nS ad O T V) {x1 : Int32} : ∃ r : Int32, Ev G (d + 2) mX11_trace 0 [(0, .ref 0), (1, .int x1)] (K, n, V, J, O) (some (.int r)) (K, n, V, J, O) ∧ Ev G (d + 2) mX12_trace 0 [(0, .ref 57), (1, .int x1)] (K, n, V, J, O) (some (.int r)) (K, n, V, J, O) := by
  obtain ⟨⟨t1, t2⟩, hl, h3⟩ := hT
  have mN : ∀ m, m ≤ 24 → m ≤ T.length → (T.length ≤ m ∨ 24 ≤ m) → (¬ ∃ j, j < m ∧ x1 = nI j) → Ev G (d + 2) mX12_trace 0 [(0, .ref 57), (1, .int x1)] (K, n, V, J, O) (some (.int (-1))) (K, n, V, J, O) := fun m hm hm2 hm3 hn => by
    refine wX12_trace_0 hK ?_
    by_cases q : x1 < 0
    · exact bt q rfl
    · refine bf q ?_
      rw [t1]
      by_cases q2 : nI T.length ≤ x1
      · exact bt q2 rfl
      · refine bf q2 (bt ?_ rfl)
        obtain ⟨j, hj, rfl⟩ := (lt_iff (by omega)).mp ⟨Int32.not_lt.mp q, Int32.not_le.mp q2⟩
        show nI 24 ≤ nI j
        rw [nI_le' (by omega) (by omega)]
        apply Classical.byContradiction
        intro q3
        exact hn ⟨j, by omega, rfl⟩
  rcases h3 with ⟨h3, h4⟩ | ⟨i, hi, h3, h4⟩
  · subst h4
    exact ⟨-1, wX11_trace_0 hK (Or.inl ⟨h3, rfl⟩), mN 0 (by omega) (Nat.zero_le _) (Or.inl (Nat.le_refl _)) (by rintro ⟨j, hj, -⟩; omega)⟩
  · obtain ⟨⟨⟨h96, hkd, hky⟩, hO, hIs⟩, -⟩ := hS.2.1 i hi
    have emin : (if (24 : Int32) < V (ad i) 5 then 24 else V (ad i) 5) = nI (if 24 < T.length then 24 else T.length) := by
      rw [h4.1]
      show (if nI 24 < nI T.length then nI 24 else nI T.length) = _
      by_cases c : 24 < T.length
      · rw [if_pos c, if_pos ((nI_l' (a := 24) (by omega) (by omega)).mpr c)]
      · rw [if_neg c, if_neg (fun z => c ((nI_l' (a := 24) (by omega) (by omega)).mp z))]
    have hmm : (if 24 < T.length then 24 else T.length) ≤ 24 ∧ (if 24 < T.length then 24 else T.length) ≤ T.length ∧ (T.length ≤ (if 24 < T.length then 24 else T.length) ∨ 24 ≤ (if 24 < T.length then 24 else T.length)) := by
      split <;> omega
    generalize (if 24 < T.length then 24 else T.length) = m at emin hmm
    by_cases h1 : ∃ j, j < m ∧ x1 = nI j
    · obtain ⟨j, hj, rfl⟩ := h1
      refine ⟨nI (nmL T j), wX11_trace_0 hK (Or.inr ⟨ad i, kc (kd i), ky i, h3, hIs, kc_in hkd, Or.inr ⟨ad i, kc (kd i), ky i, h3, hIs, kc_in hkd, 1, ev_b (c11_isWithin hK) (by rw [emin, ix_iff (by omega)]; exact ⟨j, hj, rfl⟩), bf one0 (Or.inr ⟨ad i, kc (kd i), ky i, h3, hIs, kc_in hkd, nI_v (by omega) (by omega), ?_⟩)⟩⟩), wX12_trace_0 hK (bf (nI_pos (by omega)) (bf ?_ (bf ?_ ⟨nI_v (by omega) (by omega), ?_⟩)))⟩
      · rw [nI_c (by omega), h4.2 j (by omega) (by omega)]
      · rw [t1, nI_le' (by omega) (by omega)]
        omega
      · show ¬ nI 24 ≤ nI j
        rw [nI_le' (by omega) (by omega)]
        omega
      · rw [nI_c (by omega), t2 j (by omega) (by omega)]
    · exact ⟨-1, wX11_trace_0 hK (Or.inr ⟨ad i, kc (kd i), ky i, h3, hIs, kc_in hkd, Or.inr ⟨ad i, kc (kd i), ky i, h3, hIs, kc_in hkd, 0, ev_n (c11_isWithin hK) (by rw [emin, ix_iff (by omega)]; exact h1), bt rfl rfl⟩⟩), mN m hmm.1 hmm.2.1 hmm.2.2 h1⟩
end
