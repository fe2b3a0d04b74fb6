/-! ===== acts, the trace ===== -/
def TrCx (b : Nat) (T : List Nat) (V : SV) : Prop := V b 5 = nI T.length ∧ ∀ j, j < T.length → j < 24 → V (b + 1) j = nI (nmL T j)
def TrMx (T : List Nat) (V : SV) : Prop := V 57 51 = nI T.length ∧ ∀ j, j < T.length → j < 24 → V 91 j = nI (nmL T j)
def frL (b : Nat) : Nat → Nat → Prop := fun x k => x = b + 1 ∨ (x = b ∧ k = 5)
def frW : Nat → Nat → Prop := fun x k => x = 91 ∨ (x = 57 ∧ k = 51)
/-- the class: an act of the stone at b, the bodies that run -/
def acC (G : Gp) (D : Nat) (K : SK) (M : AM) (b ky i : Nat) (x : Int32) (L : List Nat) (r : Int32) : Prop := ∀ (n : Nat × Nat) (J : SJV) (O : SO) (V : SV) (T : List Nat), T.length + L.length ≤ 100 → TrCx b T V → V b 1 = nI i → V b 2 = nI ky → ∃ V', Ev G D M 0 [(0, .ref b), (1, .int x)] (K, n, V, J, O) (some (.int r)) (K, n, V', J, O) ∧ TrCx b (T ++ L) V' ∧ fr (frL b) V V'
/-- the reference: an act of the stone i, the body of the kind k -/
def acM (G : Gp) (D : Nat) (K : SK) (M : AM) (k ky kd i : Nat) (x : Int32) (L : List Nat) (r : Int32) : Prop := ∀ (n : Nat × Nat) (J : SJV) (O : SO) (V : SV) (T : List Nat), T.length + L.length ≤ 100 → TrMx T V → V 57 52 = nI i → V 70 i = nI kd → V 71 i = nI ky → ∃ V', Ev G D M 0 [(0, .ref 57), (1, .int (nI k)), (2, .int x)] (K, n, V, J, O) (some (.int r)) (K, n, V', J, O) ∧ TrMx (T ++ L) V' ∧ fr frW V V'
def fnB (k : Nat) : List Nat := match k with
  | 0 => [1]
  | 4 => [50, 1]
  | 5 => [1]
  | 6 => [70, 50, 1]
  | _ => [20, 1]
def fnV (k : Nat) (i ky : Int32) (x : Int32) : Int32 := match k with
  | 0 => x + i
  | 4 => (x + i) * 3
  | 5 => x + i
  | 6 => -((x + 1 + i) * 3)
  | _ => x + i + ky
/-- mends: the body of the kind k, of a stone of the kind kd -/
def mdB (kd k : Nat) : List Nat := match k with
  | 2 => 30 :: 10 :: fnB kd
  | 7 => 80 :: 30 :: 10 :: (fnB kd ++ fnB 2)
  | _ => 10 :: fnB kd
def mdV (kd k : Nat) (i ky : Int32) (x : Int32) : Int32 := match k with
  | 2 => fnV kd i ky x * 2 - 1
  | 7 => fnV kd i ky x * 2 - 1 + fnV 2 i ky x
  | _ => fnV kd i ky x * 2
def kpB (k : Nat) : List Nat := match k with
  | 3 => 40 :: 11 :: fnB 3
  | 6 => [71, 11]
  | _ => [11]
def kpV (k : Nat) (i ky : Int32) (x : Int32) : Int32 := match k with
  | 3 => (x ^^^ i) + fnV 3 i ky 2
  | 6 => (x ^^^ i) * 2
  | _ => x ^^^ i
def tlB (k : Nat) : List Nat := match k with
  | 5 => 60 :: 2 :: (mdB 5 5 ++ kpB 5)
  | k => 2 :: (mdB k k ++ kpB k)
def tlV (k : Nat) (i ky : Int32) (x : Int32) : Int32 := match k with
  | 5 => (mdV 5 5 i ky x - kpV 5 i ky 1) ^^^ 5
  | k => mdV k k i ky x - kpV k i ky 1
theorem up2_frL {b : Nat} {V : SV} {k : Nat} {x y : Int32} : fr (frL b) V (up2 (up2 V (b + 1) k x) b 5 y) := fr_up (fr_up fr_rfl (Or.inl rfl)) (Or.inr ⟨rfl, rfl⟩)
section
variable {G : Gp} {d : Nat} {K : SK} {n : Nat × Nat} {V V' : SV} {J : SJV} {O : SO} {r : Option Value}
variable {b ci ky i kd k m : Nat} {T L L2 : List Nat} {x y : Int32}
theorem c_led (hK : StK K) (ha : IsSt K b ci ky) (hc : ci ∈ [1, 2, 3, 4, 5, 6, 7, 10]) (hT : TrCx b T V) (hl : T.length < 1000) : ∃ V', Ev G d mX5_led 0 [(0, .ref b), (1, .int (nI m))] (K, n, V, J, O) none (K, n, V', J, O) ∧ TrCx b (T ++ [m]) V' ∧ fr (frL b) V V' := by
  obtain ⟨t1, t2⟩ := hT
  have e24 : (24 ≤ nI T.length) = (24 ≤ T.length) := propext (nI_le' (a := 24) (by omega) (by omega))
  by_cases c : 24 ≤ T.length
  · refine ⟨up2 V b 5 (V b 5 + 1), wX5_led_0 hK ha hc ?_, ⟨?_, fun j h1 h2 => ?_⟩, fr_up fr_rfl (Or.inr ⟨rfl, rfl⟩)⟩
    · rw [t1, e24]
      exact bt c ⟨rfl, rfl⟩
    · rw [up2_s, t1, nI_1, List.length_append, List.length_singleton]
    · rw [List.length_append, List.length_singleton] at h1
      rw [up2_a (by omega), nmL_l (by omega)]
      exact t2 j (by omega) h2
  · refine ⟨up2 (up2 V (b + 1) T.length (nI m)) b 5 (nI (T.length + 1)), wX5_led_0 hK ha hc ?_, ⟨?_, fun j h1 h2 => ?_⟩, up2_frL⟩
    · rw [t1, e24, up2_a (by omega), t1, nI_c (by omega), nI_1]
      exact bf c ⟨nI_v (by omega) (by omega), rfl, rfl⟩
    · rw [up2_s, List.length_append, List.length_singleton]
    · rw [List.length_append, List.length_singleton] at h1
      rw [up2_a (by omega)]
      by_cases e : j = T.length
      · rw [e, up2_s, nmL_at]
      · rw [up2_k e, nmL_l (by omega)]
        exact t2 j (by omega) h2
/-- led, then a body -/
theorem ac_led (hK : StK K) (ha : IsSt K b ci ky) (hc : ci ∈ [1, 2, 3, 4, 5, 6, 7, 10]) {D : Nat} {M : AM} {rr : Int32} (h : acC G D K M b ky i x L rr) (hl : T.length + (m :: L).length ≤ 100) (hT : TrCx b T V) (h1 : V b 1 = nI i) (h2 : V b 2 = nI ky) : ∃ V1 V2, Ev G d mX5_led 0 [(0, .ref b), (1, .int (nI m))] (K, n, V, J, O) none (K, n, V1, J, O) ∧ Ev G D M 0 [(0, .ref b), (1, .int x)] (K, n, V1, J, O) (some (.int rr)) (K, n, V2, J, O) ∧ TrCx b (T ++ m :: L) V2 ∧ fr (frL b) V V2 := by
  rw [List.length_cons] at hl
  obtain ⟨V1, z1, z2, z3⟩ := c_led (G := G) (d := d) (n := n) (J := J) (O := O) (m := m) hK ha hc hT (by omega)
  obtain ⟨V2, y1, y2, y3⟩ := h n J O V1 (T ++ [m]) (by rw [List.length_append, List.length_singleton]; omega) z2 (by rw [z3 _ _ (by unfold frL; omega)]; exact h1) (by rw [z3 _ _ (by unfold frL; omega)]; exact h2)
  refine ⟨V1, V2, z1, y1, ?_, fr_mo (fr_tr z3 y3) (fun x k q => q.elim id id)⟩
  rw [List.append_assoc] at y2
  exact y2
theorem c5_finds (hK : StK K) (ha : IsSt K b ci ky) (hc : ci ∈ [1, 2, 3, 4, 5, 6, 7, 10]) : acC G (d + 1) K mX5_finds b ky i x [1] (x + nI i) := fun n J O V T hl hT h1 h2 => by
  obtain ⟨V1, z1, z2, z3⟩ := c_led (G := G) (d := d) (n := n) (J := J) (O := O) (m := 1) hK ha hc hT (by simp at hl; omega)
  exact ⟨V1, wX5_finds_0 hK ha hc ⟨V1, z1, by rw [z3 _ _ (by unfold frL; omega), h1], rfl⟩, z2, z3⟩
theorem c3_finds (hK : StK K) (ha : IsSt K b ci ky) (hc : ci ∈ [2, 3, 4, 6]) : acC G (d + 2) K mX3_finds b ky i x [20, 1] (x + nI i + nI ky) := fun n J O V T hl hT h1 h2 => by
  obtain ⟨V1, V2, z1, z2, z3, z4⟩ := ac_led (G := G) (d := d + 1) (n := n) (J := J) (O := O) (m := 20) hK ha (sb_row_all hc) (c5_finds (d := d) (x := x) hK ha (sb_row_all hc)) hl hT h1 h2
  exact ⟨V2, wX3_finds_0 hK ha hc ⟨V1, z1, _, V2, z2, by rw [z4 _ _ (by unfold frL; omega), h2], rfl⟩, z3, z4⟩
theorem c7_finds (hK : StK K) (ha : IsSt K b ci ky) (hc : ci ∈ [1, 7]) : acC G (d + 2) K mX7_finds b ky i x [50, 1] ((x + nI i) * 3) := fun n J O V T hl hT h1 h2 => by
  obtain ⟨V1, V2, z1, z2, z3, z4⟩ := ac_led (G := G) (d := d + 1) (n := n) (J := J) (O := O) (m := 50) hK ha (sb_tab_all hc) (c5_finds (d := d) (x := x) hK ha (sb_tab_all hc)) hl hT h1 h2
  exact ⟨V2, wX7_finds_0 hK ha hc ⟨V1, z1, _, V2, z2, rfl, rfl⟩, z3, z4⟩
theorem c1_finds (hK : StK K) (ha : IsSt K b 1 ky) : acC G (d + 3) K mX1_finds b ky i x [70, 50, 1] (-((x + 1 + nI i) * 3)) := fun n J O V T hl hT h1 h2 => by
  obtain ⟨V1, V2, z1, z2, z3, z4⟩ := ac_led (G := G) (d := d + 2) (n := n) (J := J) (O := O) (m := 70) hK ha (by decide) (c7_finds (d := d) (x := x + 1) hK ha (by decide)) hl hT h1 h2
  exact ⟨V2, wX1_finds_0 hK ha ⟨V1, z1, _, V2, z2, rfl, rfl⟩, z3, z4⟩
theorem acC_up {D : Nat} {M : AM} {rr : Int32} (h : ∀ d, acC G (d + D) K M b ky i x L rr) (hD : D ≤ 3) : ∀ d, acC G (d + 3) K M b ky i x L rr := fun d => by
  have := h (d + (3 - D))
  rw [show d + (3 - D) + D = d + 3 by omega] at this
  exact this
/-- finds of any kind -/
theorem c_finds (hK : StK K) (hkd : kd ≤ 7) (ha : IsSt K b (kc kd) ky) : ∃ M, vt5_70 (kc kd) = some M ∧ vt11_326 (kc kd) = some M ∧ ∀ x d, acC G (d + 3) K M b ky i x (fnB kd) (fnV kd (nI i) (nI ky) x) := by
  rcases kd_cases hkd with rfl | rfl | rfl | rfl | rfl | rfl | rfl | rfl
  · exact ⟨_, rfl, rfl, fun x => acC_up (fun d => c5_finds (d := d) hK ha (by decide)) (by omega)⟩
  · exact ⟨_, rfl, rfl, fun x => acC_up (fun d => c3_finds (d := d) hK ha (by decide)) (by omega)⟩
  · exact ⟨_, rfl, rfl, fun x => acC_up (fun d => c3_finds (d := d) hK ha (by decide)) (by omega)⟩
  · exact ⟨_, rfl, rfl, fun x => acC_up (fun d => c3_finds (d := d) hK ha (by decide)) (by omega)⟩
  · exact ⟨_, rfl, rfl, fun x => acC_up (fun d => c7_finds (d := d) hK ha (by decide)) (by omega)⟩
  · exact ⟨_, rfl, rfl, fun x => acC_up (fun d => c5_finds (d := d) hK ha (by decide)) (by omega)⟩
  · exact ⟨_, rfl, rfl, fun x => acC_up (fun d => c1_finds (d := d) hK ha) (by omega)⟩
  · exact ⟨_, rfl, rfl, fun x => acC_up (fun d => c3_finds (d := d) hK ha (by decide)) (by omega)⟩
theorem c5_mends (hK : StK K) (hkd : kd ≤ 7) (ha : IsSt K b (kc kd) ky) : acC G (d + 4) K mX5_mends b ky i x (10 :: fnB kd) (fnV kd (nI i) (nI ky) x * 2) := fun n J O V T hl hT h1 h2 => by
  obtain ⟨M, m1, m2, hM⟩ := c_finds (G := G) (i := i) hK hkd ha
  obtain ⟨V1, V2, z1, z2, z3, z4⟩ := ac_led (G := G) (d := d + 3) (n := n) (J := J) (O := O) (m := 10) hK ha (kc_in hkd) (hM x d) hl hT h1 h2
  exact ⟨V2, wX5_mends_0 hK ha (kc_in hkd) ⟨V1, z1, M, m1, _, V2, z2, rfl, rfl⟩, z3, z4⟩
theorem c4_mends (hK : StK K) (hkd : kd = 2 ∨ kd = 7) (ha : IsSt K b (kc kd) ky) : acC G (d + 5) K mX4_mends b ky i x (30 :: 10 :: fnB kd) (fnV kd (nI i) (nI ky) x * 2 - 1) := fun n J O V T hl hT h1 h2 => by
  have hk7 : kd ≤ 7 := by omega
  have hc : kc kd ∈ [4, 6] := by rcases hkd with rfl | rfl <;> decide
  obtain ⟨V1, V2, z1, z2, z3, z4⟩ := ac_led (G := G) (d := d + 4) (n := n) (J := J) (O := O) (m := 30) hK ha (kc_in hk7) (c5_mends (d := d) (x := x) hK hk7 ha) hl hT h1 h2
  exact ⟨V2, wX4_mends_0 hK ha hc ⟨V1, z1, _, V2, z2, rfl, rfl⟩, z3, z4⟩
theorem c6_mends (hK : StK K) (ha : IsSt K b 6 ky) : acC G (d + 6) K mX6_mends b ky i x (80 :: 30 :: 10 :: (fnB 7 ++ fnB 2)) (fnV 7 (nI i) (nI ky) x * 2 - 1 + fnV 2 (nI i) (nI ky) x) := fun n J O V T hl hT h1 h2 => by
  obtain ⟨V1, V2, z1, z2, z3, z4⟩ := ac_led (G := G) (d := d + 5) (n := n) (J := J) (O := O) (m := 80) hK ha (by decide) (c4_mends (kd := 7) (d := d) (x := x) hK (Or.inr rfl) ha) (by simp [fnB] at hl ⊢; omega) hT h1 h2
  obtain ⟨V3, y1, y2, y3⟩ := c3_finds (G := G) (d := d + 3) (x := x) (i := i) hK ha (show 6 ∈ [2, 3, 4, 6] by decide) n J O V2 _ (by simp [fnB] at hl ⊢; omega) z3 (by rw [z4 _ _ (by unfold frL; omega)]; exact h1) (by rw [z4 _ _ (by unfold frL; omega)]; exact h2)
  refine ⟨V3, wX6_mends_0 hK ha ⟨V1, z1, _, V2, z2, _, V3, y1, rfl, rfl⟩, ?_, fr_mo (fr_tr z4 y3) (fun x k q => q.elim id id)⟩
  have e : T ++ 80 :: 30 :: 10 :: fnB 7 ++ [20, 1] = T ++ 80 :: 30 :: 10 :: (fnB 7 ++ fnB 2) := by simp [fnB]
  rw [e] at y2
  exact y2
theorem acC_u {D E : Nat} {M : AM} {rr : Int32} (h : ∀ d, acC G (d + D) K M b ky i x L rr) (hD : D ≤ E) : ∀ d, acC G (d + E) K M b ky i x L rr := fun d => by
  have := h (d + (E - D))
  rw [show d + (E - D) + D = d + E by omega] at this
  exact this
theorem c_mends (hK : StK K) (hkd : kd ≤ 7) (ha : IsSt K b (kc kd) ky) : ∃ M, vt5_73 (kc kd) = some M ∧ vt11_329 (kc kd) = some M ∧ ∀ x d, acC G (d + 6) K M b ky i x (mdB kd kd) (mdV kd kd (nI i) (nI ky) x) := by
  rcases kd_cases hkd with rfl | rfl | rfl | rfl | rfl | rfl | rfl | rfl
  · exact ⟨_, rfl, rfl, fun x => acC_u (fun d => c5_mends (d := d) hK hkd ha) (by omega)⟩
  · exact ⟨_, rfl, rfl, fun x => acC_u (fun d => c5_mends (d := d) hK hkd ha) (by omega)⟩
  · exact ⟨_, rfl, rfl, fun x => acC_u (fun d => c4_mends (d := d) hK (Or.inl rfl) ha) (by omega)⟩
  · exact ⟨_, rfl, rfl, fun x => acC_u (fun d => c5_mends (d := d) hK hkd ha) (by omega)⟩
  · exact ⟨_, rfl, rfl, fun x => acC_u (fun d => c5_mends (d := d) hK hkd ha) (by omega)⟩
  · exact ⟨_, rfl, rfl, fun x => acC_u (fun d => c5_mends (d := d) hK hkd ha) (by omega)⟩
  · exact ⟨_, rfl, rfl, fun x => acC_u (fun d => c5_mends (d := d) hK hkd ha) (by omega)⟩
  · exact ⟨_, rfl, rfl, fun x => acC_u (fun d => c6_mends (d := d) hK ha) (by omega)⟩
theorem c5_keeps (hK : StK K) (ha : IsSt K b ci ky) (hc : ci ∈ [1, 2, 3, 4, 5, 6, 7, 10]) : acC G (d + 1) K mX5_keeps b ky i x [11] (x ^^^ nI i) := fun n J O V T hl hT h1 h2 => by
  obtain ⟨V1, z1, z2, z3⟩ := c_led (G := G) (d := d) (n := n) (J := J) (O := O) (m := 11) hK ha hc hT (by simp at hl; omega)
  exact ⟨V1, wX5_keeps_0 hK ha hc ⟨V1, z1, by rw [z3 _ _ (by unfold frL; omega), h1], rfl⟩, z2, z3⟩
theorem c1_keeps (hK : StK K) (ha : IsSt K b 1 ky) : acC G (d + 2) K mX1_keeps b ky i x [71, 11] ((x ^^^ nI i) * 2) := fun n J O V T hl hT h1 h2 => by
  obtain ⟨V1, V2, z1, z2, z3, z4⟩ := ac_led (G := G) (d := d + 1) (n := n) (J := J) (O := O) (m := 71) hK ha (by decide) (c5_keeps (d := d) (x := x) hK ha (by decide)) hl hT h1 h2
  exact ⟨V2, wX1_keeps_0 hK ha ⟨V1, z1, _, V2, z2, rfl, rfl⟩, z3, z4⟩
theorem c2_keeps (hK : StK K) (ha : IsSt K b 2 ky) : acC G (d + 3) K mX2_keeps b ky i x (40 :: 11 :: fnB 3) ((x ^^^ nI i) + fnV 3 (nI i) (nI ky) 2) := fun n J O V T hl hT h1 h2 => by
  obtain ⟨V1, V2, z1, z2, z3, z4⟩ := ac_led (G := G) (d := d + 2) (n := n) (J := J) (O := O) (m := 40) hK ha (by decide) (c5_keeps (d := d + 1) (x := x) hK ha (by decide)) (by simp [fnB] at hl ⊢; omega) hT h1 h2
  obtain ⟨V3, y1, y2, y3⟩ := c3_finds (G := G) (d := d) (x := 2) (i := i) hK ha (show 2 ∈ [2, 3, 4, 6] by decide) n J O V2 _ (by simp [fnB] at hl ⊢; omega) z3 (by rw [z4 _ _ (by unfold frL; omega)]; exact h1) (by rw [z4 _ _ (by unfold frL; omega)]; exact h2)
  refine ⟨V3, wX2_keeps_0 hK ha ⟨V1, z1, _, V2, z2, _, V3, y1, rfl, rfl⟩, ?_, fr_mo (fr_tr z4 y3) (fun x k q => q.elim id id)⟩
  have e : T ++ [40, 11] ++ [20, 1] = T ++ 40 :: 11 :: fnB 3 := by simp [fnB]
  rw [e] at y2
  exact y2
theorem c_keeps (hK : StK K) (hkd : kd ≤ 7) (ha : IsSt K b (kc kd) ky) : ∃ M, vt5_76 (kc kd) = some M ∧ vt11_332 (kc kd) = some M ∧ ∀ x d, acC G (d + 3) K M b ky i x (kpB kd) (kpV kd (nI i) (nI ky) x) := by
  rcases kd_cases hkd with rfl | rfl | rfl | rfl | rfl | rfl | rfl | rfl
  · exact ⟨_, rfl, rfl, fun x => acC_u (fun d => c5_keeps (d := d) hK ha (by decide)) (by omega)⟩
  · exact ⟨_, rfl, rfl, fun x => acC_u (fun d => c5_keeps (d := d) hK ha (by decide)) (by omega)⟩
  · exact ⟨_, rfl, rfl, fun x => acC_u (fun d => c5_keeps (d := d) hK ha (by decide)) (by omega)⟩
  · exact ⟨_, rfl, rfl, fun x => acC_u (fun d => c2_keeps (d := d) hK ha) (by omega)⟩
  · exact ⟨_, rfl, rfl, fun x => acC_u (fun d => c5_keeps (d := d) hK ha (by decide)) (by omega)⟩
  · exact ⟨_, rfl, rfl, fun x => acC_u (fun d => c5_keeps (d := d) hK ha (by decide)) (by omega)⟩
  · exact ⟨_, rfl, rfl, fun x => acC_u (fun d => c1_keeps (d := d) hK ha) (by omega)⟩
  · exact ⟨_, rfl, rfl, fun x => acC_u (fun d => c5_keeps (d := d) hK ha (by decide)) (by omega)⟩
theorem c5_tells (hK : StK K) (hkd : kd ≤ 7) (ha : IsSt K b (kc kd) ky) : acC G (d + 7) K mX5_tells b ky i x (2 :: (mdB kd kd ++ kpB kd)) (mdV kd kd (nI i) (nI ky) x - kpV kd (nI i) (nI ky) 1) := fun n J O V T hl hT h1 h2 => by
  obtain ⟨M, m1, m2, hM⟩ := c_mends (G := G) (i := i) hK hkd ha
  obtain ⟨M', p1, p2, hM'⟩ := c_keeps (G := G) (i := i) hK hkd ha
  rw [List.length_cons, List.length_append] at hl
  obtain ⟨V1, V2, z1, z2, z3, z4⟩ := ac_led (G := G) (d := d + 6) (n := n) (J := J) (O := O) (m := 2) hK ha (kc_in hkd) (hM x d) (by rw [List.length_cons]; omega) hT h1 h2
  obtain ⟨V3, y1, y2, y3⟩ := hM' 1 (d + 3) n J O V2 _ (by rw [List.length_append, List.length_cons]; omega) z3 (by rw [z4 _ _ (by unfold frL; omega)]; exact h1) (by rw [z4 _ _ (by unfold frL; omega)]; exact h2)
  refine ⟨V3, wX5_tells_0 hK ha (kc_in hkd) ⟨V1, z1, M, m1, _, V2, z2, M', p1, _, V3, y1, rfl, rfl⟩, ?_, fr_mo (fr_tr z4 y3) (fun x k q => q.elim id id)⟩
  rw [List.append_assoc, List.cons_append] at y2
  exact y2
theorem c10_tells (hK : StK K) (ha : IsSt K b 10 ky) : acC G (d + 8) K mX10_tells b ky i x (tlB 5) (tlV 5 (nI i) (nI ky) x) := fun n J O V T hl hT h1 h2 => by
  obtain ⟨V1, V2, z1, z2, z3, z4⟩ := ac_led (G := G) (d := d + 7) (n := n) (J := J) (O := O) (m := 60) hK ha (by decide) (c5_tells (kd := 5) (d := d) (x := x) hK (by omega) ha) hl hT h1 h2
  exact ⟨V2, wX10_tells_0 hK ha ⟨V1, z1, _, V2, z2, rfl, rfl⟩, z3, z4⟩
theorem c_tells (hK : StK K) (hkd : kd ≤ 7) (ha : IsSt K b (kc kd) ky) : ∃ M, vt11_335 (kc kd) = some M ∧ ∀ x d, acC G (d + 8) K M b ky i x (tlB kd) (tlV kd (nI i) (nI ky) x) := by
  rcases kd_cases hkd with rfl | rfl | rfl | rfl | rfl | rfl | rfl | rfl
  · exact ⟨_, rfl, fun x => acC_u (fun d => c5_tells (d := d) hK hkd ha) (by omega)⟩
  · exact ⟨_, rfl, fun x => acC_u (fun d => c5_tells (d := d) hK hkd ha) (by omega)⟩
  · exact ⟨_, rfl, fun x => acC_u (fun d => c5_tells (d := d) hK hkd ha) (by omega)⟩
  · exact ⟨_, rfl, fun x => acC_u (fun d => c5_tells (d := d) hK hkd ha) (by omega)⟩
  · exact ⟨_, rfl, fun x => acC_u (fun d => c5_tells (d := d) hK hkd ha) (by omega)⟩
  · exact ⟨_, rfl, fun x d => c10_tells (d := d) hK ha⟩
  · exact ⟨_, rfl, fun x => acC_u (fun d => c5_tells (d := d) hK hkd ha) (by omega)⟩
  · exact ⟨_, rfl, fun x => acC_u (fun d => c5_tells (d := d) hK hkd ha) (by omega)⟩
/-! the reference -/
theorem c12_ran (hK : StK K) (hT : TrMx T V) (hl : T.length < 1000) : ∃ V', Ev G d mX12_ranBody 0 [(0, .ref 57), (1, .int (nI m))] (K, n, V, J, O) none (K, n, V', J, O) ∧ TrMx (T ++ [m]) V' ∧ fr frW V V' := by
  obtain ⟨t1, t2⟩ := hT
  have e24 : (24 ≤ nI T.length) = (24 ≤ T.length) := propext (nI_le' (a := 24) (by omega) (by omega))
  by_cases c : 24 ≤ T.length
  · refine ⟨up2 V 57 51 (V 57 51 + 1), wX12_ranBody_0 hK ?_, ⟨?_, fun j h1 h2 => ?_⟩, fr_up fr_rfl (Or.inr ⟨rfl, rfl⟩)⟩
    · rw [t1, e24]
      exact bt c ⟨rfl, rfl⟩
    · rw [up2_s, t1, nI_1, List.length_append, List.length_singleton]
    · rw [List.length_append, List.length_singleton] at h1
      rw [up2_a (by omega), nmL_l (by omega)]
      exact t2 j (by omega) h2
  · refine ⟨up2 (up2 V 91 T.length (nI m)) 57 51 (nI (T.length + 1)), wX12_ranBody_0 hK ?_, ⟨?_, fun j h1 h2 => ?_⟩, fr_up (fr_up fr_rfl (Or.inl rfl)) (Or.inr ⟨rfl, rfl⟩)⟩
    · rw [t1, e24, nI_c (by omega), nI_1]
      exact bf c ⟨nI_v (by omega) (by omega), rfl, rfl⟩
    · rw [up2_s, List.length_append, List.length_singleton]
    · rw [List.length_append, List.length_singleton] at h1
      rw [up2_a (by omega)]
      by_cases e : j = T.length
      · rw [e, up2_s, nmL_at]
      · rw [up2_k e, nmL_l (by omega)]
        exact t2 j (by omega) h2
theorem c12_above (hK : StK K) (hk : k ≤ 7) : Ev G d mX12_above 0 [(0, .int (nI k))] (K, n, V, J, O) (some (.int (nI (if k = 2 ∨ k = 3 then 1 else if k = 6 then 4 else if k = 7 then 2 else 0)))) (K, n, V, J, O) := by
  refine wX12_above_0 hK ?_
  rcases kd_cases hk with rfl | rfl | rfl | rfl | rfl | rfl | rfl | rfl
  · exact bf (by decide) (nt (by decide) (nt (by decide) (nt (by decide) rfl)))
  · exact bf (by decide) (nt (by decide) (nt (by decide) (nt (by decide) rfl)))
  · exact bt (by decide) rfl
  · exact bf (by decide) (nf (by decide) rfl)
  · exact bf (by decide) (nt (by decide) (nt (by decide) (nt (by decide) rfl)))
  · exact bf (by decide) (nt (by decide) (nt (by decide) (nt (by decide) rfl)))
  · exact bf (by decide) (nt (by decide) (nf (by decide) rfl))
  · exact bf (by decide) (nt (by decide) (nt (by decide) (nf (by decide) rfl)))
theorem m_finds0 (hK : StK K) : acM G (d + 1) K mX12_finds 0 ky kd i x [1] (x + nI i) := fun n J O V T hl hT h1 h2 h3 => by
  obtain ⟨V1, z1, z2, z3⟩ := c12_ran (G := G) (d := d) (n := n) (J := J) (O := O) (m := 1) hK hT (by simp at hl; omega)
  exact ⟨V1, wX12_finds_0 hK (sv_0 rfl ⟨V1, z1, by rw [z3 _ _ (by unfold frW; omega), h1], rfl⟩), z2, z3⟩
theorem ac_ran (hK : StK K) {D : Nat} {M : AM} {rr : Int32} (h : acM G D K M k ky kd i x L rr) (hl : T.length + (m :: L).length ≤ 100) (hT : TrMx T V) (h1 : V 57 52 = nI i) (h2 : V 70 i = nI kd) (h3 : V 71 i = nI ky) : ∃ V1 V2, Ev G d mX12_ranBody 0 [(0, .ref 57), (1, .int (nI m))] (K, n, V, J, O) none (K, n, V1, J, O) ∧ Ev G D M 0 [(0, .ref 57), (1, .int (nI k)), (2, .int x)] (K, n, V1, J, O) (some (.int rr)) (K, n, V2, J, O) ∧ TrMx (T ++ m :: L) V2 ∧ fr frW V V1 ∧ fr frW V V2 := by
  rw [List.length_cons] at hl
  obtain ⟨V1, z1, z2, z3⟩ := c12_ran (G := G) (d := d) (n := n) (J := J) (O := O) (m := m) hK hT (by omega)
  obtain ⟨V2, y1, y2, y3⟩ := h n J O V1 (T ++ [m]) (by rw [List.length_append, List.length_singleton]; omega) z2 (by rw [z3 _ _ (by unfold frW; omega)]; exact h1) (by rw [z3 _ _ (by unfold frW; omega)]; exact h2) (by rw [z3 _ _ (by unfold frW; omega)]; exact h3)
  refine ⟨V1, V2, z1, y1, ?_, z3, fr_mo (fr_tr z3 y3) (fun x k q => q.elim id id)⟩
  rw [List.append_assoc] at y2
  exact y2
theorem m_finds1 (hK : StK K) (hi : i < 10) : acM G (d + 2) K mX12_finds 1 ky kd i x [20, 1] (x + nI i + nI ky) := fun n J O V T hl hT h1 h2 h3 => by
  obtain ⟨V1, V2, z1, z2, z3, z4, z5⟩ := ac_ran (G := G) (d := d + 1) (n := n) (J := J) (O := O) (m := 20) hK (m_finds0 (d := d) (x := x) hK) hl hT h1 h2 h3
  have e52 : V2 57 52 = nI i := by rw [z5 _ _ (by unfold frW; omega)]; exact h1
  refine ⟨V2, wX12_finds_0 hK (sv_1 rfl ⟨V1, z1, _, c12_above (k := 1) hK (by omega), _, V2, z2, ?_, ?_, rfl⟩), z3, z5⟩
  · rw [e52]
    exact nI_v hi (by omega)
  · rw [e52, nI_c (by omega), z5 _ _ (by unfold frW; omega), h3]
theorem m_finds2 (hK : StK K) (hi : i < 10) (hk : k = 2 ∨ k = 3) : acM G (d + 3) K mX12_finds k ky kd i x [20, 1] (x + nI i + nI ky) := fun n J O V T hl hT h1 h2 h3 => by
  obtain ⟨V2, z1, z2, z3⟩ := m_finds1 (G := G) (d := d) (x := x) hK hi n J O V T hl hT h1 h2 h3
  rcases hk with rfl | rfl
  · exact ⟨V2, wX12_finds_0 hK (sv_2 rfl ⟨_, c12_above (k := 2) hK (by omega), _, V2, z1, rfl, rfl⟩), z2, z3⟩
  · exact ⟨V2, wX12_finds_0 hK (sv_3 rfl ⟨_, c12_above (k := 3) hK (by omega), _, V2, z1, rfl, rfl⟩), z2, z3⟩
theorem m_finds4 (hK : StK K) : acM G (d + 2) K mX12_finds 4 ky kd i x [50, 1] ((x + nI i) * 3) := fun n J O V T hl hT h1 h2 h3 => by
  obtain ⟨V1, V2, z1, z2, z3, z4, z5⟩ := ac_ran (G := G) (d := d + 1) (n := n) (J := J) (O := O) (m := 50) hK (m_finds0 (d := d) (x := x) hK) hl hT h1 h2 h3
  exact ⟨V2, wX12_finds_0 hK (sv_4 rfl ⟨V1, z1, _, c12_above (k := 4) hK (by omega), _, V2, z2, rfl, rfl⟩), z3, z5⟩
theorem m_finds6 (hK : StK K) : acM G (d + 3) K mX12_finds 6 ky kd i x [70, 50, 1] (-((x + 1 + nI i) * 3)) := fun n J O V T hl hT h1 h2 h3 => by
  obtain ⟨V1, V2, z1, z2, z3, z4, z5⟩ := ac_ran (G := G) (d := d + 2) (n := n) (J := J) (O := O) (m := 70) hK (m_finds4 (d := d) (x := x + 1) hK) hl hT h1 h2 h3
  exact ⟨V2, wX12_finds_0 hK (sv_6 rfl ⟨V1, z1, _, c12_above (k := 6) hK (by omega), _, V2, z2, rfl, rfl⟩), z3, z5⟩
theorem acM_u {D E : Nat} {M : AM} {rr : Int32} (h : ∀ d, acM G (d + D) K M k ky kd i x L rr) (hD : D ≤ E) : ∀ d, acM G (d + E) K M k ky kd i x L rr := fun d => by
  have := h (d + (E - D))
  rw [show d + (E - D) + D = d + E by omega] at this
  exact this
theorem m_finds (hK : StK K) (hi : i < 10) (hk : k ≤ 7) : ∀ x d, acM G (d + 4) K mX12_finds k ky kd i x (fnB k) (fnV k (nI i) (nI ky) x) := by
  rcases kd_cases hk with rfl | rfl | rfl | rfl | rfl | rfl | rfl | rfl
  · exact fun x => acM_u (fun d => m_finds0 (d := d) hK) (by omega)
  · exact fun x => acM_u (fun d => m_finds1 (d := d) hK hi) (by omega)
  · exact fun x => acM_u (fun d => m_finds2 (d := d) hK hi (Or.inl rfl)) (by omega)
  · exact fun x => acM_u (fun d => m_finds2 (d := d) hK hi (Or.inr rfl)) (by omega)
  · exact fun x => acM_u (fun d => m_finds4 (d := d) hK) (by omega)
  · intro x d n J O V T hl hT h1 h2 h3
    obtain ⟨V2, z1, z2, z3⟩ := m_finds0 (G := G) (d := d + 2) (x := x) (ky := ky) (kd := kd) hK n J O V T hl hT h1 h2 h3
    exact ⟨V2, wX12_finds_0 hK (sv_5 rfl ⟨_, c12_above (k := 5) hK (by omega), _, V2, z1, rfl, rfl⟩), z2, z3⟩
  · exact fun x => acM_u (fun d => m_finds6 (d := d) hK) (by omega)
  · intro x d n J O V T hl hT h1 h2 h3
    obtain ⟨V2, z1, z2, z3⟩ := m_finds2 (G := G) (d := d) (x := x) (ky := ky) (kd := kd) (k := 2) hK hi (Or.inl rfl) n J O V T hl hT h1 h2 h3
    exact ⟨V2, wX12_finds_0 hK (sv_n (by decide) (by decide) (by decide) (by decide) (by decide) (by decide) (by decide) ⟨_, c12_above (k := 7) hK (by omega), _, V2, z1, rfl, rfl⟩), z2, z3⟩
theorem m_mends0 (hK : StK K) (hi : i < 10) (hkd : kd ≤ 7) : acM G (d + 5) K mX12_mends 0 ky kd i x (10 :: fnB kd) (fnV kd (nI i) (nI ky) x * 2) := fun n J O V T hl hT h1 h2 h3 => by
  obtain ⟨V1, V2, z1, z2, z3, z4, z5⟩ := ac_ran (G := G) (d := d + 4) (n := n) (J := J) (O := O) (m := 10) hK (m_finds (k := kd) (kd := kd) hK hi hkd x d) hl hT h1 h2 h3
  have e52 : V1 57 52 = nI i := by rw [z4 _ _ (by unfold frW; omega)]; exact h1
  refine ⟨V2, wX12_mends_0 hK ⟨fun _ => ⟨V1, z1, by rw [e52]; exact nI_v hi (by omega), _, V2, by rw [e52, nI_c (by omega), z4 _ _ (by unfold frW; omega), h2]; exact z2, rfl, rfl⟩, fun e => absurd e (by decide), fun e => absurd e (by decide), fun e => absurd rfl e.1⟩, z3, z5⟩
theorem md_up (hK : StK K) {a D : Nat} {rr : Int32} (hk : (k = 1 ∧ a = 0) ∨ (k = 3 ∧ a = 1) ∨ (k = 4 ∧ a = 0) ∨ (k = 5 ∧ a = 0) ∨ (k = 6 ∧ a = 4)) (h : acM G D K mX12_mends a ky kd i x L rr) : acM G (D + 1) K mX12_mends k ky kd i x L rr := fun n J O V T hl hT h1 h2 h3 => by
  obtain ⟨V2, z1, z2, z3⟩ := h n J O V T hl hT h1 h2 h3
  refine ⟨V2, wX12_mends_0 hK ?_, z2, z3⟩
  rcases hk with ⟨rfl, rfl⟩ | ⟨rfl, rfl⟩ | ⟨rfl, rfl⟩ | ⟨rfl, rfl⟩ | ⟨rfl, rfl⟩
  · exact ⟨fun e => absurd e (by decide), fun e => absurd e (by decide), fun e => absurd e (by decide), fun _ => ⟨_, c12_above (k := 1) hK (by omega), _, V2, z1, rfl, rfl⟩⟩
  · exact ⟨fun e => absurd e (by decide), fun e => absurd e (by decide), fun e => absurd e (by decide), fun _ => ⟨_, c12_above (k := 3) hK (by omega), _, V2, z1, rfl, rfl⟩⟩
  · exact ⟨fun e => absurd e (by decide), fun e => absurd e (by decide), fun e => absurd e (by decide), fun _ => ⟨_, c12_above (k := 4) hK (by omega), _, V2, z1, rfl, rfl⟩⟩
  · exact ⟨fun e => absurd e (by decide), fun e => absurd e (by decide), fun e => absurd e (by decide), fun _ => ⟨_, c12_above (k := 5) hK (by omega), _, V2, z1, rfl, rfl⟩⟩
  · exact ⟨fun e => absurd e (by decide), fun e => absurd e (by decide), fun e => absurd e (by decide), fun _ => ⟨_, c12_above (k := 6) hK (by omega), _, V2, z1, rfl, rfl⟩⟩
theorem m_mends2 (hK : StK K) (hi : i < 10) (hkd : kd ≤ 7) : acM G (d + 7) K mX12_mends 2 ky kd i x (30 :: 10 :: fnB kd) (fnV kd (nI i) (nI ky) x * 2 - 1) := fun n J O V T hl hT h1 h2 h3 => by
  obtain ⟨V1, V2, z1, z2, z3, z4, z5⟩ := ac_ran (G := G) (d := d + 6) (n := n) (J := J) (O := O) (m := 30) hK (md_up (k := 1) hK (Or.inl ⟨rfl, rfl⟩) (m_mends0 (d := d) (x := x) hK hi hkd)) hl hT h1 h2 h3
  exact ⟨V2, wX12_mends_0 hK ⟨fun e => absurd e (by decide), fun _ => ⟨V1, z1, _, c12_above (k := 2) hK (by omega), _, V2, z2, rfl, rfl⟩, fun e => absurd e (by decide), fun e => absurd rfl e.2.1⟩, z3, z5⟩
theorem m_mends7 (hK : StK K) (hi : i < 10) : acM G (d + 8) K mX12_mends 7 ky 7 i x (mdB 7 7) (mdV 7 7 (nI i) (nI ky) x) := fun n J O V T hl hT h1 h2 h3 => by
  obtain ⟨V1, V2, z1, z2, z3, z4, z5⟩ := ac_ran (G := G) (d := d + 7) (n := n) (J := J) (O := O) (m := 80) hK (m_mends2 (kd := 7) (d := d) (x := x) hK hi (by omega)) (by simp [mdB, fnB] at hl ⊢; omega) hT h1 h2 h3
  obtain ⟨V3, y1, y2, y3⟩ := m_finds2 (G := G) (d := d + 4) (x := x) (ky := ky) (kd := 7) (k := 2) hK hi (Or.inl rfl) n J O V2 _ (by simp [mdB, fnB] at hl ⊢; omega) z3 (by rw [z5 _ _ (by unfold frW; omega)]; exact h1) (by rw [z5 _ _ (by unfold frW; omega)]; exact h2) (by rw [z5 _ _ (by unfold frW; omega)]; exact h3)
  refine ⟨V3, wX12_mends_0 hK ⟨fun e => absurd e (by decide), fun e => absurd e (by decide), fun _ => ⟨V1, z1, _, c12_above (k := 7) hK (by omega), _, V2, z2, _, c12_above (k := 7) hK (by omega), _, V3, y1, rfl, rfl⟩, fun e => absurd rfl e.2.2⟩, ?_, fr_mo (fr_tr z5 y3) (fun x k q => q.elim id id)⟩
  have e : T ++ 80 :: 30 :: 10 :: fnB 7 ++ [20, 1] = T ++ mdB 7 7 := by simp [fnB, mdB]
  rw [e] at y2
  exact y2
theorem m_mends (hK : StK K) (hi : i < 10) (hkd : kd ≤ 7) : ∀ x d, acM G (d + 8) K mX12_mends kd ky kd i x (mdB kd kd) (mdV kd kd (nI i) (nI ky) x) := by
  have h0 := fun (kd : Nat) (hkd : kd ≤ 7) (x : Int32) (d : Nat) => m_mends0 (G := G) (K := K) (ky := ky) (kd := kd) (i := i) (d := d) (x := x) hK hi hkd
  rcases kd_cases hkd with rfl | rfl | rfl | rfl | rfl | rfl | rfl | rfl
  · exact fun x => acM_u (fun d => h0 0 hkd x d) (by omega)
  · exact fun x => acM_u (D := 6) (fun d => md_up (k := 1) hK (Or.inl ⟨rfl, rfl⟩) (h0 1 hkd x d)) (by omega)
  · exact fun x => acM_u (fun d => m_mends2 (d := d) hK hi hkd) (by omega)
  · exact fun x => acM_u (D := 7) (fun d => md_up (k := 3) hK (Or.inr (Or.inl ⟨rfl, rfl⟩)) (md_up (k := 1) hK (Or.inl ⟨rfl, rfl⟩) (h0 3 hkd x d))) (by omega)
  · exact fun x => acM_u (D := 6) (fun d => md_up (k := 4) hK (Or.inr (Or.inr (Or.inl ⟨rfl, rfl⟩))) (h0 4 hkd x d)) (by omega)
  · exact fun x => acM_u (D := 6) (fun d => md_up (k := 5) hK (Or.inr (Or.inr (Or.inr (Or.inl ⟨rfl, rfl⟩)))) (h0 5 hkd x d)) (by omega)
  · exact fun x => acM_u (D := 7) (fun d => md_up (k := 6) hK (Or.inr (Or.inr (Or.inr (Or.inr ⟨rfl, rfl⟩)))) (md_up (k := 4) hK (Or.inr (Or.inr (Or.inl ⟨rfl, rfl⟩))) (h0 6 hkd x d))) (by omega)
  · exact fun x d => m_mends7 (d := d) hK hi
theorem m_keeps0 (hK : StK K) : acM G (d + 1) K mX12_keeps 0 ky kd i x [11] (x ^^^ nI i) := fun n J O V T hl hT h1 h2 h3 => by
  obtain ⟨V1, z1, z2, z3⟩ := c12_ran (G := G) (d := d) (n := n) (J := J) (O := O) (m := 11) hK hT (by simp at hl; omega)
  exact ⟨V1, wX12_keeps_0 hK ⟨fun _ => ⟨V1, z1, by rw [z3 _ _ (by unfold frW; omega), h1], rfl⟩, fun e => absurd e (by decide), fun e => absurd e (by decide), fun e => absurd rfl e.1⟩, z2, z3⟩
theorem kp_up (hK : StK K) {a D : Nat} {rr : Int32} (hk : (k = 1 ∧ a = 0) ∨ (k = 2 ∧ a = 1) ∨ (k = 4 ∧ a = 0) ∨ (k = 5 ∧ a = 0) ∨ (k = 7 ∧ a = 2)) (h : acM G D K mX12_keeps a ky kd i x L rr) : acM G (D + 1) K mX12_keeps k ky kd i x L rr := fun n J O V T hl hT h1 h2 h3 => by
  obtain ⟨V2, z1, z2, z3⟩ := h n J O V T hl hT h1 h2 h3
  refine ⟨V2, wX12_keeps_0 hK ?_, z2, z3⟩
  rcases hk with ⟨rfl, rfl⟩ | ⟨rfl, rfl⟩ | ⟨rfl, rfl⟩ | ⟨rfl, rfl⟩ | ⟨rfl, rfl⟩
  · exact ⟨fun e => absurd e (by decide), fun e => absurd e (by decide), fun e => absurd e (by decide), fun _ => ⟨_, c12_above (k := 1) hK (by omega), _, V2, z1, rfl, rfl⟩⟩
  · exact ⟨fun e => absurd e (by decide), fun e => absurd e (by decide), fun e => absurd e (by decide), fun _ => ⟨_, c12_above (k := 2) hK (by omega), _, V2, z1, rfl, rfl⟩⟩
  · exact ⟨fun e => absurd e (by decide), fun e => absurd e (by decide), fun e => absurd e (by decide), fun _ => ⟨_, c12_above (k := 4) hK (by omega), _, V2, z1, rfl, rfl⟩⟩
  · exact ⟨fun e => absurd e (by decide), fun e => absurd e (by decide), fun e => absurd e (by decide), fun _ => ⟨_, c12_above (k := 5) hK (by omega), _, V2, z1, rfl, rfl⟩⟩
  · exact ⟨fun e => absurd e (by decide), fun e => absurd e (by decide), fun e => absurd e (by decide), fun _ => ⟨_, c12_above (k := 7) hK (by omega), _, V2, z1, rfl, rfl⟩⟩
theorem m_keeps3 (hK : StK K) (hi : i < 10) : acM G (d + 5) K mX12_keeps 3 ky 3 i x (kpB 3) (kpV 3 (nI i) (nI ky) x) := fun n J O V T hl hT h1 h2 h3 => by
  obtain ⟨V1, V2, z1, z2, z3, z4, z5⟩ := ac_ran (G := G) (d := d + 4) (n := n) (J := J) (O := O) (m := 40) hK (kp_up (k := 1) hK (Or.inl ⟨rfl, rfl⟩) (m_keeps0 (d := d + 2) (x := x) hK)) (by simp [kpB, fnB] at hl ⊢; omega) hT h1 h2 h3
  have g1 : V2 57 52 = nI i := by rw [z5 _ _ (by unfold frW; omega)]; exact h1
  have g2 : V2 70 i = nI 3 := by rw [z5 _ _ (by unfold frW; omega)]; exact h2
  have g3 : V2 71 i = nI ky := by rw [z5 _ _ (by unfold frW; omega)]; exact h3
  obtain ⟨V3, y1, y2, y3⟩ := m_finds (G := G) (ky := ky) (kd := 3) (k := 3) hK hi (by omega) 2 d n J O V2 _ (by simp [kpB, fnB] at hl ⊢; omega) z3 g1 g2 g3
  refine ⟨V3, wX12_keeps_0 hK ⟨fun e => absurd e (by decide), fun _ => ⟨V1, z1, _, c12_above (k := 3) hK (by omega), _, V2, z2, by rw [g1]; exact nI_v hi (by omega), _, V3, by rw [g1, nI_c (by omega), g2]; exact y1, rfl, rfl⟩, fun e => absurd e (by decide), fun e => absurd rfl e.2.1⟩, ?_, fr_mo (fr_tr z5 y3) (fun x k q => q.elim id id)⟩
  have e : T ++ [40, 11] ++ fnB 3 = T ++ kpB 3 := by simp [fnB, kpB]
  rw [e] at y2
  exact y2
theorem m_keeps6 (hK : StK K) : acM G (d + 3) K mX12_keeps 6 ky kd i x [71, 11] ((x ^^^ nI i) * 2) := fun n J O V T hl hT h1 h2 h3 => by
  obtain ⟨V1, V2, z1, z2, z3, z4, z5⟩ := ac_ran (G := G) (d := d + 2) (n := n) (J := J) (O := O) (m := 71) hK (kp_up (k := 4) hK (Or.inr (Or.inr (Or.inl ⟨rfl, rfl⟩))) (m_keeps0 (d := d) (x := x) hK)) hl hT h1 h2 h3
  exact ⟨V2, wX12_keeps_0 hK ⟨fun e => absurd e (by decide), fun e => absurd e (by decide), fun _ => ⟨V1, z1, _, c12_above (k := 6) hK (by omega), _, V2, z2, rfl, rfl⟩, fun e => absurd rfl e.2.2⟩, z3, z5⟩
theorem m_keeps (hK : StK K) (hi : i < 10) (hkd : kd ≤ 7) : ∀ x d, acM G (d + 5) K mX12_keeps kd ky kd i x (kpB kd) (kpV kd (nI i) (nI ky) x) := by
  have h0 := fun (kd : Nat) (x : Int32) (d : Nat) => m_keeps0 (G := G) (K := K) (ky := ky) (kd := kd) (i := i) (d := d) (x := x) hK
  rcases kd_cases hkd with rfl | rfl | rfl | rfl | rfl | rfl | rfl | rfl
  · exact fun x => acM_u (fun d => h0 0 x d) (by omega)
  · exact fun x => acM_u (D := 2) (fun d => kp_up (k := 1) hK (Or.inl ⟨rfl, rfl⟩) (h0 1 x d)) (by omega)
  · exact fun x => acM_u (D := 3) (fun d => kp_up (k := 2) hK (Or.inr (Or.inl ⟨rfl, rfl⟩)) (kp_up (k := 1) hK (Or.inl ⟨rfl, rfl⟩) (h0 2 x d))) (by omega)
  · exact fun x d => m_keeps3 (d := d) hK hi
  · exact fun x => acM_u (D := 2) (fun d => kp_up (k := 4) hK (Or.inr (Or.inr (Or.inl ⟨rfl, rfl⟩))) (h0 4 x d)) (by omega)
  · exact fun x => acM_u (D := 2) (fun d => kp_up (k := 5) hK (Or.inr (Or.inr (Or.inr (Or.inl ⟨rfl, rfl⟩)))) (h0 5 x d)) (by omega)
  · exact fun x => acM_u (fun d => m_keeps6 (d := d) hK) (by omega)
  · exact fun x => acM_u (D := 4) (fun d => kp_up (k := 7) hK (Or.inr (Or.inr (Or.inr (Or.inr ⟨rfl, rfl⟩)))) (kp_up (k := 2) hK (Or.inr (Or.inl ⟨rfl, rfl⟩)) (kp_up (k := 1) hK (Or.inl ⟨rfl, rfl⟩) (h0 7 x d)))) (by omega)
theorem m_tells0 (hK : StK K) (hi : i < 10) (hkd : kd ≤ 7) : acM G (d + 9) K mX12_tells 0 ky kd i x (2 :: (mdB kd kd ++ kpB kd)) (mdV kd kd (nI i) (nI ky) x - kpV kd (nI i) (nI ky) 1) := fun n J O V T hl hT h1 h2 h3 => by
  rw [List.length_cons, List.length_append] at hl
  obtain ⟨V1, V2, z1, z2, z3, z4, z5⟩ := ac_ran (G := G) (d := d + 8) (n := n) (J := J) (O := O) (m := 2) hK (m_mends (kd := kd) hK hi hkd x d) (by rw [List.length_cons]; omega) hT h1 h2 h3
  have g1 : V2 57 52 = nI i := by rw [z5 _ _ (by unfold frW; omega)]; exact h1
  have g2 : V2 70 i = nI kd := by rw [z5 _ _ (by unfold frW; omega)]; exact h2
  have g3 : V2 71 i = nI ky := by rw [z5 _ _ (by unfold frW; omega)]; exact h3
  have e52 : V1 57 52 = nI i := by rw [z4 _ _ (by unfold frW; omega)]; exact h1
  obtain ⟨V3, y1, y2, y3⟩ := m_keeps (G := G) (ky := ky) (kd := kd) hK hi hkd 1 (d + 3) n J O V2 _ (by rw [List.length_append, List.length_cons]; omega) z3 g1 g2 g3
  refine ⟨V3, wX12_tells_0 hK ⟨fun _ => ⟨V1, z1, by rw [e52]; exact nI_v hi (by omega), _, V2, by rw [e52, nI_c (by omega), z4 _ _ (by unfold frW; omega), h2]; exact z2, by rw [g1]; exact nI_v hi (by omega), _, V3, by rw [g1, nI_c (by omega), g2]; exact y1, rfl, rfl⟩, fun e => absurd e (by decide), fun e => absurd rfl e.1⟩, ?_, fr_mo (fr_tr z5 y3) (fun x k q => q.elim id id)⟩
  rw [List.append_assoc, List.cons_append] at y2
  exact y2
theorem tl_up (hK : StK K) {a D : Nat} {rr : Int32} (hk : (k = 1 ∧ a = 0) ∨ (k = 2 ∧ a = 1) ∨ (k = 3 ∧ a = 1) ∨ (k = 4 ∧ a = 0) ∨ (k = 6 ∧ a = 4) ∨ (k = 7 ∧ a = 2)) (h : acM G D K mX12_tells a ky kd i x L rr) : acM G (D + 1) K mX12_tells k ky kd i x L rr := fun n J O V T hl hT h1 h2 h3 => by
  obtain ⟨V2, z1, z2, z3⟩ := h n J O V T hl hT h1 h2 h3
  refine ⟨V2, wX12_tells_0 hK ?_, z2, z3⟩
  rcases hk with ⟨rfl, rfl⟩ | ⟨rfl, rfl⟩ | ⟨rfl, rfl⟩ | ⟨rfl, rfl⟩ | ⟨rfl, rfl⟩ | ⟨rfl, rfl⟩
  · exact ⟨fun e => absurd e (by decide), fun e => absurd e (by decide), fun _ => ⟨_, c12_above (k := 1) hK (by omega), _, V2, z1, rfl, rfl⟩⟩
  · exact ⟨fun e => absurd e (by decide), fun e => absurd e (by decide), fun _ => ⟨_, c12_above (k := 2) hK (by omega), _, V2, z1, rfl, rfl⟩⟩
  · exact ⟨fun e => absurd e (by decide), fun e => absurd e (by decide), fun _ => ⟨_, c12_above (k := 3) hK (by omega), _, V2, z1, rfl, rfl⟩⟩
  · exact ⟨fun e => absurd e (by decide), fun e => absurd e (by decide), fun _ => ⟨_, c12_above (k := 4) hK (by omega), _, V2, z1, rfl, rfl⟩⟩
  · exact ⟨fun e => absurd e (by decide), fun e => absurd e (by decide), fun _ => ⟨_, c12_above (k := 6) hK (by omega), _, V2, z1, rfl, rfl⟩⟩
  · exact ⟨fun e => absurd e (by decide), fun e => absurd e (by decide), fun _ => ⟨_, c12_above (k := 7) hK (by omega), _, V2, z1, rfl, rfl⟩⟩
theorem m_tells (hK : StK K) (hi : i < 10) (hkd : kd ≤ 7) : ∀ x d, acM G (d + 12) K mX12_tells kd ky kd i x (tlB kd) (tlV kd (nI i) (nI ky) x) := by
  have h0 := fun (kd : Nat) (hkd : kd ≤ 7) (x : Int32) (d : Nat) => m_tells0 (G := G) (K := K) (ky := ky) (kd := kd) (i := i) (d := d) (x := x) hK hi hkd
  rcases kd_cases hkd with rfl | rfl | rfl | rfl | rfl | rfl | rfl | rfl
  · exact fun x => acM_u (fun d => h0 0 hkd x d) (by omega)
  · exact fun x => acM_u (D := 10) (fun d => tl_up (k := 1) hK (Or.inl ⟨rfl, rfl⟩) (h0 1 hkd x d)) (by omega)
  · exact fun x => acM_u (D := 11) (fun d => tl_up (k := 2) hK (Or.inr (Or.inl ⟨rfl, rfl⟩)) (tl_up (k := 1) hK (Or.inl ⟨rfl, rfl⟩) (h0 2 hkd x d))) (by omega)
  · exact fun x => acM_u (D := 11) (fun d => tl_up (k := 3) hK (Or.inr (Or.inr (Or.inl ⟨rfl, rfl⟩))) (tl_up (k := 1) hK (Or.inl ⟨rfl, rfl⟩) (h0 3 hkd x d))) (by omega)
  · exact fun x => acM_u (D := 10) (fun d => tl_up (k := 4) hK (Or.inr (Or.inr (Or.inr (Or.inl ⟨rfl, rfl⟩)))) (h0 4 hkd x d)) (by omega)
  · intro x d n J O V T hl hT h1 h2 h3
    obtain ⟨V1, V2, z1, z2, z3, z4, z5⟩ := ac_ran (G := G) (d := d + 11) (n := n) (J := J) (O := O) (m := 60) hK (h0 5 hkd x (d + 2)) hl hT h1 h2 h3
    exact ⟨V2, wX12_tells_0 hK ⟨fun e => absurd e (by decide), fun _ => ⟨V1, z1, _, c12_above (k := 5) hK (by omega), _, V2, z2, rfl, rfl⟩, fun e => absurd rfl e.2⟩, z3, z5⟩
  · exact fun x => acM_u (D := 11) (fun d => tl_up (k := 6) hK (Or.inr (Or.inr (Or.inr (Or.inr (Or.inl ⟨rfl, rfl⟩))))) (tl_up (k := 4) hK (Or.inr (Or.inr (Or.inr (Or.inl ⟨rfl, rfl⟩)))) (h0 6 hkd x d))) (by omega)
  · exact fun x => acM_u (D := 12) (fun d => tl_up (k := 7) hK (Or.inr (Or.inr (Or.inr (Or.inr (Or.inr ⟨rfl, rfl⟩))))) (tl_up (k := 2) hK (Or.inr (Or.inl ⟨rfl, rfl⟩)) (tl_up (k := 1) hK (Or.inl ⟨rfl, rfl⟩) (h0 7 hkd x d)))) (by omega)
end
