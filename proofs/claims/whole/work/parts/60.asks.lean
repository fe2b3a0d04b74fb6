/-! ===== asks: the reference ===== -/
theorem ix16 (p i : Nat) : (16 : Int32) * nI p + nI i = nI (16 * p + i) := by
  rw [show (16 : Int32) = nI 16 from rfl, nI_mul, nI_add]
theorem ix16' (p : Nat) : (16 : Int32) * nI p = nI (16 * p) := by
  rw [show (16 : Int32) = nI 16 from rfl, nI_mul]
theorem sub_ti {a b : Nat} (ha : a < 100000) (hb : b < 100000) : (nI a - nI b).toInt = (a : Int) - b := by
  rw [Int32.toInt_sub, nI_ti ha, nI_ti hb]
  exact Int.bmod_eq_of_le (by omega) (by omega)
theorem z_ti : (0 : Int32).toInt = 0 := by decide
theorem sub_gt {a b : Nat} (ha : a < 100000) (hb : b < 100000) : (0 < nI a - nI b) = (b < a) := by
  rw [Int32.lt_iff_toInt_lt, sub_ti ha hb, z_ti]
  apply propext
  omega
theorem sub_ge {a b : Nat} (ha : a < 100000) (hb : b < 100000) : (0 ≤ nI a - nI b) = (b ≤ a) := by
  rw [Int32.le_iff_toInt_le, sub_ti ha hb, z_ti]
  apply propext
  omega
theorem sub_eq0 {a b : Nat} (ha : a < 100000) (hb : b < 100000) : (nI a - nI b = 0) = (a = b) := by
  rw [← Int32.toInt_inj, sub_ti ha hb, z_ti]
  apply propext
  omega
/-- the ask at p, the letters, the things: all that seeing needs -/
def AkRunM (p nT : Nat) (q : QD) (fl : Nat → Nat → Nat) (A B : Nat) (V : SV) : Prop := Qok q ∧ QM p q V ∧ LM A B V ∧ FM nT fl V ∧ A ≤ 99 ∧ B ≤ 99 ∧ p < 10
section
variable {G : Gp} {d : Nat} {K : SK} {n : Nat × Nat} {V V' : SV} {J : SJV} {O : SO} {r : Option Value}
variable {p nT A B t ky sn : Nat} {q : QD} {fl : Nat → Nat → Nat} {s : RuS}
theorem QM_fr (h : QM p q V) (hf : fr (fun x _ => ¬ (63 ≤ x ∧ x ≤ 68)) V V') : QM p q V' := ⟨by rw [hf _ _ (by omega)]; exact h.1, by rw [hf _ _ (by omega)]; exact h.2.1, by rw [hf _ _ (by omega)]; exact h.2.2.1, fun i hi => by rw [hf _ _ (by omega), hf _ _ (by omega), hf _ _ (by omega)]; exact h.2.2.2 i hi⟩
theorem AkRunM_fr (h : AkRunM p nT q fl A B V) (hf : fr (fun x k => ¬ (63 ≤ x ∧ x ≤ 68) ∧ x ≠ 58 ∧ (x = 57 → k ≠ 27 ∧ k ≠ 28)) V V') : AkRunM p nT q fl A B V' := ⟨h.1, QM_fr h.2.1 (fr_mo hf (fun x k q => by omega)), ⟨by rw [hf _ _ (by omega)]; exact h.2.2.1.1, by rw [hf _ _ (by omega)]; exact h.2.2.1.2⟩, ⟨h.2.2.2.1.1, fun f t h1 h2 => by rw [hf _ _ (by omega)]; exact h.2.2.2.1.2 f t h1 h2⟩, h.2.2.2.2⟩
theorem RM_fr (h : RM nT s V) (hf : fr (fun x k => x = 57 → ¬ (29 ≤ k ∧ k ≤ 31)) V V') : RM nT s V' := ⟨by rw [hf _ _ (by omega)]; exact h.1, by rw [hf _ _ (by omega)]; exact h.2.1, by rw [hf _ _ (by omega)]; exact h.2.2.1, h.2.2.2⟩
theorem c12_valueOf (hK : StK K) (hR : AkRunM p nT q fl A B V) {i : Nat} (hi : i < qm q) : Ev G d mX12_valueOf 0 [(0, .ref 57), (1, .int (nI (16 * p + i)))] (K, n, V, J, O) (some (.int (nI (qwt q A B i)))) (K, n, V, J, O) := by
  obtain ⟨hq, hC, hL, h4, h5, h6, h7⟩ := hR
  have hm := hq.1.1
  have hv := (hq.1.2 i hi).2.2
  have e := (hC.2.2.2 i hi).2.2
  have hin : vp_in (nI (16 * p + i)) 160 := nI_v (by omega) (by omega)
  refine wX12_valueOf_0 hK ⟨hin, ?_⟩
  rw [nI_c (by omega), e]
  unfold qwt wv
  by_cases h1 : qv q i = 100
  · refine nf (leqI (c := 100) rfl h1) ?_
    rw [if_pos h1, hL.1]
  · refine nt (lne (c := 100) rfl (by omega) (by omega) h1) ⟨hin, ?_⟩
    rw [if_neg h1]
    by_cases h2 : qv q i = 101
    · refine nf (leqI (c := 101) rfl h2) ?_
      rw [if_pos h2, hL.2]
    · refine nt (lne (c := 101) rfl (by omega) (by omega) h2) ⟨hin, ?_⟩
      rw [if_neg h2]
theorem c12_holds8 (hK : StK K) (hR : AkRunM p nT q fl A B V) (ht : t < nT) : ∀ (k i : Nat) (b : Bool), i + k = qm q → (b && !anyF (fun i => !cmpB (qs q i) (fl (qf q i) t) (qwt q A B i)) k i) = hq q fl A B t → Ev G (d + 1) mX12_holds 8 [(0, .ref 57), (1, .int (nI p)), (2, .int (nI t)), (3, .int (bI (b = true))), (4, .int (nI (16 * p + i)))] (K, n, V, J, O) (some (.int (bI (hq q fl A B t = true)))) (K, n, V, J, O) := by
  obtain ⟨h1, h2, h3, h4, h5, h6, h7⟩ := hR
  have hm := h1.1.1
  have h80 := h4.1
  intro k
  induction k with
  | zero =>
    intro i b e hz
    refine wX12_holds_8 hK ⟨nI_v h7 (by omega), ?_⟩
    rw [nI_c (by omega), h2.1, ix16, nI_le' (by omega) (by omega)]
    refine bt (by omega) ⟨bI_z, ?_⟩
    rw [anyF_0, Bool.not_false, Bool.and_true] at hz
    rw [hz]
  | succ k ih =>
    intro i b e hz
    have hi : i < qm q := by omega
    obtain ⟨e1, e2, e3⟩ := h2.2.2.2 i hi
    obtain ⟨hf, hs, -⟩ := h1.1.2 i hi
    have hw := qwt_le h1 h5 h6 hi
    obtain ⟨e58, hvt⟩ := h4.2 (qf q i) t hf ht
    have y1 := c12_valueOf (G := G) (d := d) (n := n) (J := J) (O := O) hK (show AkRunM p nT q fl A B V from ⟨h1, h2, h3, h4, h5, h6, h7⟩) hi
    have hin : vp_in (nI (16 * p + i)) 160 := nI_v (by omega) (by omega)
    refine wX12_holds_8 hK ⟨nI_v h7 (by omega), ?_⟩
    rw [nI_c (show p < 100000 by omega), h2.1, ix16, nI_le' (by omega) (by omega), nI_c (show 16 * p + i < 100000 by omega), e1, e2, ix4, nI_c (show 4 * t + qf q i < 100000 by omega), e58, nI_1]
    rw [anyF_s] at hz
    refine bf (by omega) ⟨hin, nI_v (by omega) (by omega), _, y1, ?_⟩
    have zf : (b && cmpB (qs q i) (fl (qf q i) t) (qwt q A B i)) = false → Ev G (d + 1) mX12_holds 8 [(0, .ref 57), (1, .int (nI p)), (2, .int (nI t)), (3, .int 0), (4, .int (nI (16 * p + i + 1)))] (K, n, V, J, O) (some (.int (bI (hq q fl A B t = true)))) (K, n, V, J, O) := fun hb => by
      have := ih (i + 1) false (by omega) (by
        rw [← hz]
        cases b
        · rfl
        · rw [Bool.true_and] at hb
          rw [hb]
          simp)
      rw [bI_f (by decide)] at this
      exact this
    have zt : (b && cmpB (qs q i) (fl (qf q i) t) (qwt q A B i)) = true → Ev G (d + 1) mX12_holds 8 [(0, .ref 57), (1, .int (nI p)), (2, .int (nI t)), (3, .int 1), (4, .int (nI (16 * p + i + 1)))] (K, n, V, J, O) (some (.int (bI (hq q fl A B t = true)))) (K, n, V, J, O) := fun hb => by
      have := ih (i + 1) true (by omega) (by
        rw [← hz]
        rw [Bool.and_eq_true] at hb
        rw [hb.1, hb.2]
        simp)
      rw [bI_t rfl] at this
      exact this
    cases b with
    | false => exact bz_n (by decide) (zf rfl)
    | true =>
      rw [Bool.true_and] at zf zt
      refine bz_y rfl ⟨hin, ?_⟩
      rw [nI_ne (by omega) (by omega), nI_eq' (by omega) (by omega), nI_le' (by omega) (by omega), nI_le' (by omega) (by omega)]
      unfold cmpB at zf zt
      rcases hs with h | h | h
      · rw [if_neg (by omega), if_pos h, decide_eq_false_iff_not] at zf
        rw [if_neg (by omega), if_pos h, decide_eq_true_eq] at zt
        refine nt (lne (c := 61) rfl (by omega) (by omega) (by omega)) ⟨hin, nf (leqI (c := 60) rfl h) ?_⟩
        by_cases c : fl (qf q i) t < qwt q A B i
        · exact bf (by omega) (zt c)
        · exact bt (by omega) (zf c)
      · rw [if_pos h, decide_eq_false_iff_not] at zf
        rw [if_pos h, decide_eq_true_eq] at zt
        refine nf (leqI (c := 61) rfl h) ?_
        by_cases c : fl (qf q i) t = qwt q A B i
        · exact nf c (zt c)
        · exact nt c (zf c)
      · rw [if_neg (by omega), if_neg (by omega), decide_eq_false_iff_not] at zf
        rw [if_neg (by omega), if_neg (by omega), decide_eq_true_eq] at zt
        refine nt (lne (c := 61) rfl (by omega) (by omega) (by omega)) ⟨hin, nt (lne (c := 60) rfl (by omega) (by omega) (by omega)) ?_⟩
        by_cases c : qwt q A B i < fl (qf q i) t
        · exact bf (by omega) (zt c)
        · exact bt (by omega) (zf c)
theorem c12_holds (hK : StK K) (hR : AkRunM p nT q fl A B V) (ht : t < nT) : Ev G (d + 1) mX12_holds 0 [(0, .ref 57), (1, .int (nI p)), (2, .int (nI t))] (K, n, V, J, O) (some (.int (bI (hq q fl A B t = true)))) (K, n, V, J, O) := by
  have z := c12_holds8 (G := G) (d := d) (n := n) (J := J) (O := O) hK hR ht (qm q) 0 true (by omega) (by unfold hq; simp)
  rw [bI_t rfl] at z
  refine wX12_holds_0 hK ?_
  rw [ix16']
  exact z
def frMs : Nat → Nat → Prop := fun x k => x = 57 ∧ 29 ≤ k ∧ k ≤ 31
theorem c12_see (hK : StK K) (hR : AkRunM p nT q fl A B V) (hS : RM nT s V) (ht : t < nT) : ∃ V', Ev G (d + 2) mX12_see 0 [(0, .ref 57), (1, .int (nI p)), (2, .int (nI t))] (K, n, V, J, O) none (K, n, V', J, O) ∧ RM nT (sstep (hq q fl A B) (fl (qr q)) (qw q) s t) V' ∧ fr frMs V V' := by
  have y1 := c12_holds (G := G) (d := d) (n := n) (J := J) (O := O) hK hR ht
  obtain ⟨h1, h2, h3, h4, h5, h6, h7⟩ := hR
  have h80 := h4.1
  have hqw : qw q < 1000 := by have := h1.2.1; omega
  have hqr := h1.2.2.2.1
  by_cases hz : hq q fl A B t = true
  · obtain ⟨s1, s2, s3, s4⟩ := hS
    obtain ⟨e58, hvt⟩ := h4.2 (qr q) t hqr ht
    have hv1 : vp_in (nI p) 10 := nI_v h7 (by omega)
    have hpp : (nI p).toNatClampNeg = p := nI_c (by omega)
    rw [sstep_y hz]
    generalize hV1 : up2 (up2 V 57 29 (V 57 29 + 1)) 57 31 (V 57 31 + nI (fl (qr q) t)) = V1
    have f1 : fr frMs V V1 := hV1 ▸ fr_up (fr_up fr_rfl ⟨rfl, by omega⟩) ⟨rfl, by omega⟩
    have g29 : V1 57 29 = nI (s.1 + 1) := by rw [← hV1, up2_k (by decide), up2_s, s1, nI_1]
    have g31 : V1 57 31 = nI (s.2.1 + fl (qr q) t) := by rw [← hV1, up2_s, s2, nI_add]
    have g30 : V1 57 30 = moI s.2.2 := by rw [← hV1, up2_k (by decide), up2_k (by decide), s3]
    have f2 : fr frMs V (up2 V1 57 30 (nI t)) := fr_up f1 ⟨rfl, by omega⟩
    have f3 : fr frMs V (up2 V1 57 30 (V1 57 30)) := fr_up f1 ⟨rfl, by omega⟩
    have taken : RM nT (s.1 + 1, s.2.1 + fl (qr q) t, some t) (up2 V1 57 30 (nI t)) := by
      refine ⟨?_, ?_, up2_s, fun b hb => ?_⟩
      · rw [up2_k (by decide)]; exact g29
      · rw [up2_k (by decide)]; exact g31
      · cases hb
        exact ht
    have ix : (nI (4 * t + qr q)).toNatClampNeg = 4 * t + qr q := nI_c (by omega)
    have start := fun (V' : SV) hh => wX12_see_0 (G := G) (d := d + 1) (K := K) (n := n) (V := V) (V' := V') (J := J) (O := O) (r := none) (x1 := nI p) (x2 := nI t) hK ⟨_, y1, bn_y hz ⟨hv1, by rw [hpp, h2.2.2.1, ix4]; exact nI_v (by omega) (by omega), hh⟩⟩
    rw [hpp, h2.2.2.1, h2.2.1, ix4, ix, e58, hV1] at start
    cases hb : s.2.2 with
    | none =>
      have e30 : V 57 30 = -1 := by rw [s3, hb]; rfl
      rw [e30] at start
      exact ⟨_, start _ (bf (by decide) (bt (by decide) (wX12_see_123 hK ⟨rfl, rfl⟩))), taken, f2⟩
    | some b =>
      have hbT := s4 b hb
      obtain ⟨b58, hvb⟩ := h4.2 (qr q) b hqr hbT
      have e30 : V 57 30 = nI b := by rw [s3, hb]; rfl
      have e30' : V1 57 30 = nI b := by rw [g30, hb]; rfl
      have ixb : (nI (4 * b + qr q)).toNatClampNeg = 4 * b + qr q := nI_c (by omega)
      rw [e30, ix4, ixb, b58, sub_gt (by omega) (by omega), sub_ge (by omega) (by omega)] at start
      have hin2 : vp_in (nI (4 * b + qr q)) 320 := nI_v (by omega) (by omega)
      have to123 : ∀ {x3 x4 : Int32}, Ev G (d + 1 + 1) mX12_see 123 [(0, .ref 57), (1, .int (nI p)), (2, .int (nI t)), (3, .int x3), (4, .int x4)] (K, n, V1, J, O) none (K, n, up2 V1 57 30 (nI t), J, O) := wX12_see_123 hK ⟨rfl, rfl⟩
      have to127 : ∀ {x3 x4 : Int32}, Ev G (d + 1 + 1) mX12_see 127 [(0, .ref 57), (1, .int (nI p)), (2, .int (nI t)), (3, .int x3), (4, .int x4)] (K, n, V1, J, O) none (K, n, up2 V1 57 30 (V1 57 30), J, O) := wX12_see_127 hK ⟨rfl, rfl⟩
      have keep : RM nT (s.1 + 1, s.2.1 + fl (qr q) t, some b) (up2 V1 57 30 (V1 57 30)) := by
        refine ⟨?_, ?_, ?_, fun b' hb' => ?_⟩
        · rw [up2_k (by decide)]; exact g29
        · rw [up2_k (by decide)]; exact g31
        · rw [up2_s, e30']; rfl
        · cases hb'
          exact hbT
      have yes := fun (h : bet (qw q) (fl (qr q) t) (fl (qr q) b) t b = true) (hh : Ev G (d + 1 + 1) mX12_see 0 [(0, .ref 57), (1, .int (nI p)), (2, .int (nI t))] (K, n, V, J, O) none (K, n, up2 V1 57 30 (nI t), J, O)) => (show ∃ V', Ev G (d + 2) mX12_see 0 [(0, .ref 57), (1, .int (nI p)), (2, .int (nI t))] (K, n, V, J, O) none (K, n, V', J, O) ∧ RM nT (s.1 + 1, s.2.1 + fl (qr q) t, some (if bet (qw q) (fl (qr q) t) (fl (qr q) b) t b = true then t else b)) V' ∧ fr frMs V V' from ⟨_, hh, by rw [if_pos h]; exact taken, f2⟩)
      have no := fun (h : ¬ bet (qw q) (fl (qr q) t) (fl (qr q) b) t b = true) (hh : Ev G (d + 1 + 1) mX12_see 0 [(0, .ref 57), (1, .int (nI p)), (2, .int (nI t))] (K, n, V, J, O) none (K, n, up2 V1 57 30 (V1 57 30), J, O)) => (show ∃ V', Ev G (d + 2) mX12_see 0 [(0, .ref 57), (1, .int (nI p)), (2, .int (nI t))] (K, n, V, J, O) none (K, n, V', J, O) ∧ RM nT (s.1 + 1, s.2.1 + fl (qr q) t, some (if bet (qw q) (fl (qr q) t) (fl (qr q) b) t b = true then t else b)) V' ∧ fr frMs V V' from ⟨_, hh, by rw [if_neg h]; exact keep, f3⟩)
      have at110 : ∀ {x3 : Int32} {V2 : SV}, (fl (qr q) t = fl (qr q) b ∧ t < b → V2 = up2 V1 57 30 (nI t)) → (¬ (fl (qr q) t = fl (qr q) b ∧ t < b) → V2 = up2 V1 57 30 (V1 57 30)) → Ev G (d + 1 + 1) mX12_see 110 [(0, .ref 57), (1, .int (nI p)), (2, .int (nI t)), (3, .int x3), (4, .int (nI (fl (qr q) t) - nI (fl (qr q) b)))] (K, n, V1, J, O) none (K, n, V2, J, O) := by
        intro x3 V2 g1 g2
        refine wX12_see_110 hK ?_
        rw [ne_eq, sub_eq0 (by omega) (by omega), e30', nI_le' (by omega) (by omega)]
        by_cases c1 : fl (qr q) t = fl (qr q) b
        · refine ⟨fun z => absurd c1 z, fun _ => ?_⟩
          by_cases c2 : t < b
          · rw [g1 ⟨c1, c2⟩]
            exact bf (by omega) to123
          · rw [g2 (fun z => c2 z.2)]
            exact bt (by omega) to127
        · refine ⟨fun _ => ?_, fun z => absurd z c1⟩
          rw [g2 (fun z => c1 z.1)]
          exact to127
      have hb0 : ¬ nI b < 0 := nI_pos (by omega)
      have hb1 : 0 ≤ nI b := nI_pos' (by omega)
      by_cases c1 : fl (qr q) t = fl (qr q) b
      · have hbt : bet (qw q) (fl (qr q) t) (fl (qr q) b) t b = decide (t < b) := if_pos c1
        have go : ∀ V2, (t < b → V2 = up2 V1 57 30 (nI t)) → (¬ t < b → V2 = up2 V1 57 30 (V1 57 30)) → Ev G (d + 1 + 1) mX12_see 0 [(0, .ref 57), (1, .int (nI p)), (2, .int (nI t))] (K, n, V, J, O) none (K, n, V2, J, O) := by
          intro V2 g1 g2
          have w := at110 (x3 := nI (fl (qr q) t)) (V2 := V2) (fun z => g1 z.2) (fun z => g2 (fun y => z ⟨c1, y⟩))
          refine start _ (bt hb1 ⟨hv1, hin2, bf hb0 ⟨hv1, ?_⟩⟩)
          by_cases c2 : qw q = 109
          · exact nf (leqI (c := 109) rfl c2) (bt (by omega) w)
          · exact nt (lne (c := 109) rfl (by omega) (by omega) c2) (bf (by omega) w)
        by_cases c2 : t < b
        · exact yes (by rw [hbt]; simpa using c2) (go _ (fun _ => rfl) (fun z => absurd c2 z))
        · exact no (by rw [hbt]; simpa using c2) (go _ (fun z => absurd z c2) (fun _ => rfl))
      · have w := at110 (x3 := nI (fl (qr q) t)) (V2 := up2 V1 57 30 (V1 57 30)) (fun z => absurd z.1 c1) (fun _ => rfl)
        by_cases c2 : qw q = 109
        · have hbt : bet (qw q) (fl (qr q) t) (fl (qr q) b) t b = decide (fl (qr q) t < fl (qr q) b) := by unfold bet; rw [if_neg c1, if_pos c2]
          by_cases c3 : fl (qr q) t < fl (qr q) b
          · exact yes (by rw [hbt]; simpa using c3) (start _ (bt hb1 ⟨hv1, hin2, bf hb0 ⟨hv1, nf (leqI (c := 109) rfl c2) (bf (by omega) to123)⟩⟩))
          · exact no (by rw [hbt]; simpa using c3) (start _ (bt hb1 ⟨hv1, hin2, bf hb0 ⟨hv1, nf (leqI (c := 109) rfl c2) (bt (by omega) w)⟩⟩))
        · have hbt : bet (qw q) (fl (qr q) t) (fl (qr q) b) t b = decide (fl (qr q) b < fl (qr q) t) := by unfold bet; rw [if_neg c1, if_neg c2]
          by_cases c3 : fl (qr q) b < fl (qr q) t
          · exact yes (by rw [hbt]; simpa using c3) (start _ (bt hb1 ⟨hv1, hin2, bf hb0 ⟨hv1, nt (lne (c := 109) rfl (by omega) (by omega) c2) (bt (by omega) to123)⟩⟩))
          · exact no (by rw [hbt]; simpa using c3) (start _ (bt hb1 ⟨hv1, hin2, bf hb0 ⟨hv1, nt (lne (c := 109) rfl (by omega) (by omega) c2) (bf (by omega) w)⟩⟩))
  · refine ⟨V, wX12_see_0 hK ⟨_, y1, bn_n hz ⟨rfl, rfl⟩⟩, ?_, fr_rfl⟩
    rw [sstep_n hz]
    exact hS
theorem c12_told (hK : StK K) (hq : Qok q) (hp : p < 10) (h67 : V 67 p = nI (qw q)) (hS : RM nT s V) : Ev G d mX12_told 0 [(0, .ref 57), (1, .int (nI p))] (K, n, V, J, O) (some (.int (rsl (qw q) s))) (K, n, V, J, O) := by
  obtain ⟨s1, s2, s3, s4⟩ := hS
  have hw := hq.2.1
  have hv : vp_in (nI p) 10 := nI_v hp (by omega)
  refine wX12_told_0 hK ⟨hv, ?_⟩
  rw [nI_c (by omega), h67, s1, s2, s3]
  unfold rsl
  by_cases c1 : qw q = 110
  · rw [if_pos c1]
    exact nf (leqI (c := 110) rfl c1) rfl
  · rw [if_neg c1]
    refine nt (lne (c := 110) rfl (by omega) (by omega) c1) ⟨hv, ?_⟩
    by_cases c2 : qw q = 115
    · rw [if_pos c2]
      exact nf (leqI (c := 115) rfl c2) rfl
    · rw [if_neg c2]
      exact nt (lne (c := 115) rfl (by omega) (by omega) c2) rfl
theorem c12_begin (hK : StK K) (hq : Qok q) (hC : QM p q V) (hF : FM nT fl V) (hA : A ≤ 99) (hB : B ≤ 99) (hp : p < 10) : ∃ V', Ev G d mX12_begin 0 [(0, .ref 57), (1, .int (nI A)), (2, .int (nI B))] (K, n, V, J, O) none (K, n, V', J, O) ∧ AkRunM p nT q fl A B V' ∧ RM nT (0, 0, none) V' ∧ V' 57 33 = nI 0 ∧ fr (fun x k => x = 57 ∧ ((27 ≤ k ∧ k ≤ 31) ∨ k = 33)) V V' := by
  refine ⟨_, wX12_begin_0 hK ⟨rfl, rfl⟩, ?_⟩
  generalize hV1 : up2 (up2 (up2 (up2 (up2 (up2 V 57 27 (nI A)) 57 28 (nI B)) 57 29 0) 57 30 (-1)) 57 31 0) 57 33 0 = V1
  have f1 : fr (fun x k => x = 57 ∧ ((27 ≤ k ∧ k ≤ 31) ∨ k = 33)) V V1 := hV1 ▸ fr_up (fr_up (fr_up (fr_up (fr_up (fr_up fr_rfl ⟨rfl, by omega⟩) ⟨rfl, by omega⟩) ⟨rfl, by omega⟩) ⟨rfl, by omega⟩) ⟨rfl, by omega⟩) ⟨rfl, by omega⟩
  refine ⟨⟨hq, QM_fr hC (fr_mo f1 (fun x k q => by omega)), ⟨?_, ?_⟩, ⟨hF.1, fun f t h1 h2 => by rw [f1 _ _ (by omega)]; exact hF.2 f t h1 h2⟩, hA, hB, hp⟩, ⟨?_, ?_, ?_, fun b hb => by cases hb⟩, ?_, f1⟩
  · rw [← hV1]; simp [up2]
  · rw [← hV1]; simp [up2]
  · rw [← hV1]; simp [up2]; rfl
  · rw [← hV1]; simp [up2]; rfl
  · rw [← hV1]; simp [up2]; rfl
  · rw [← hV1]; simp [up2]; rfl
end
