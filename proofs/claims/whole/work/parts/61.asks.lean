/-! ===== asks: ends, what they are about; the reference ===== -/
def bkI (q : QD) (A B : Nat) (i : Nat) : Int32 := if i < qm q then nI (qwt q A B i % 8) else -1
section
variable {G : Gp} {d : Nat} {K : SK} {n : Nat × Nat} {V V' : SV} {J : SJV} {O : SO} {r : Option Value}
variable {p nT A B t ky sn kd : Nat} {q : QD} {fl : Nat → Nat → Nat} {s : RuS}
theorem c12_isAbout (hK : StK K) (hq : Qok q) (hC : QM p q V) (hp : p < 10) (hs : sn < 10) (hky : ky < 4) (h71 : V 71 sn = nI ky) {i : Nat} (hi : i < qm q) : Ev G d mX12_isAbout 0 [(0, .ref 57), (1, .int (nI (16 * p + i))), (2, .int (nI sn))] (K, n, V, J, O) (some (.int (bI (qf q i = ky)))) (K, n, V, J, O) := by
  have hm := hq.1.1
  have hf := (hq.1.2 i hi).1
  have e := (hC.2.2.2 i hi).1
  refine wX12_isAbout_0 hK ⟨nI_v (by omega) (by omega), nI_v hs (by omega), ?_⟩
  rw [nI_c (by omega), nI_c (by omega), e, h71, nI_ne (by omega) (by omega), nI_eq' (by omega) (by omega)]
  by_cases h : qf q i = ky
  · exact nf h (si_t h)
  · exact nt h (si_f h)
theorem c12_least8 (hK : StK K) (hR : AkRunM p nT q fl A B V) (hs : sn < 10) (hky : ky < 4) (h71 : V 71 sn = nI ky) : ∀ (k i c : Nat), i + k = qm q → c ≤ 100 → Ev G (d + 1) mX12_leastOf 8 [(0, .ref 57), (1, .int (nI p)), (2, .int (nI sn)), (3, .int (nI c)), (4, .int (nI (16 * p + i)))] (K, n, V, J, O) (some (.int (nI (itr (loS q A B ky) k i c)))) (K, n, V, J, O) := by
  have hR' := hR
  obtain ⟨hq, hC, h3, h4, h5, h6, h7⟩ := hR
  have hm := hq.1.1
  intro k
  induction k with
  | zero =>
    intro i c e _
    refine wX12_leastOf_8 hK ⟨nI_v h7 (by omega), ?_⟩
    rw [nI_c (by omega), hC.1, ix16, nI_le' (by omega) (by omega)]
    exact bt (by omega) rfl
  | succ k ih =>
    intro i c e hc
    have hi : i < qm q := by omega
    obtain ⟨e1, e2, -⟩ := hC.2.2.2 i hi
    obtain ⟨g1, g2, -⟩ := hq.1.2 i hi
    have hw := qwt_le hq h5 h6 hi
    have y1 := c12_valueOf (G := G) (d := d) (n := n) (J := J) (O := O) hK hR' hi
    have y2 := c12_isAbout (G := G) (d := d) (n := n) (J := J) (O := O) hK hq hC h7 hs hky h71 hi
    have hin : vp_in (nI (16 * p + i)) 160 := nI_v (by omega) (by omega)
    have z := ih (i + 1) (loS q A B ky i c) (by omega) (loS_le hw hc)
    have z' : ∀ c', loS q A B ky i c = c' → Ev G (d + 1) mX12_leastOf 8 [(0, .ref 57), (1, .int (nI p)), (2, .int (nI sn)), (3, .int (nI c')), (4, .int (nI (16 * p + i + 1)))] (K, n, V, J, O) (some (.int (nI (itr (loS q A B ky) k (i + 1) (loS q A B ky i c))))) (K, n, V, J, O) := fun c' e => by rw [← e]; exact z
    have z92 : ∀ x5, loS q A B ky i c = c → Ev G (d + 1) mX12_leastOf 92 [(0, .ref 57), (1, .int (nI p)), (2, .int (nI sn)), (3, .int (nI c)), (4, .int (nI (16 * p + i))), (5, .int x5)] (K, n, V, J, O) (some (.int (nI (itr (loS q A B ky) k (i + 1) (loS q A B ky i c))))) (K, n, V, J, O) := fun x5 e => wX12_leastOf_92 hK (by rw [nI_1]; exact z' c e)
    refine wX12_leastOf_8 hK ⟨nI_v h7 (by omega), ?_⟩
    rw [nI_c (show p < 100000 by omega), hC.1, ix16, nI_le' (by omega) (by omega), nI_c (show 16 * p + i < 100000 by omega), e2, nI_1]
    refine bf (by omega) ⟨hin, ?_⟩
    show _ ∧ _
    rcases g2 with h | h | h
    · refine nt (lne (c := 61) rfl (by omega) (by omega) (by omega)) ⟨hin, nt (lne (c := 62) rfl (by omega) (by omega) (by omega)) ⟨_, y2, ?_⟩⟩
      by_cases h1 : qf q i = ky
      · refine bz_y h1 (bt (nI_pos' (by omega)) (z92 _ ?_))
        unfold loS
        rw [if_pos h1, if_pos h]
      · exact bz_n h1 (z92 _ (by unfold loS; rw [if_neg h1]))
    · refine nf (leqI (c := 61) rfl h) ⟨_, y1, _, y2, ?_⟩
      by_cases h1 : qf q i = ky
      · have hu := ()
        refine bz_y h1 ?_
        rw [nI_le' (by omega) (by omega)]
        by_cases h2 : c < qwt q A B i
        · have hu := ()
          exact bf (by omega) (z' _ (by unfold loS; rw [if_pos h1, if_neg (by omega), if_neg (by omega), if_pos h2]))
        · have hu := ()
          exact bt (by omega) (z92 _ (by unfold loS; rw [if_pos h1, if_neg (by omega), if_neg (by omega), if_neg h2]))
      · exact bz_n h1 (z92 _ (by unfold loS; rw [if_neg h1]))
    · refine nt (lne (c := 61) rfl (by omega) (by omega) (by omega)) ⟨hin, nf (leqI (c := 62) rfl h) ⟨_, y1, _, y2, ?_⟩⟩
      rw [nI_1]
      by_cases h1 : qf q i = ky
      · have hu := ()
        refine bz_y h1 ?_
        rw [nI_le' (by omega) (by omega)]
        by_cases h2 : c < qwt q A B i + 1
        · have hu := ()
          exact bf (by omega) (z' _ (by unfold loS; rw [if_pos h1, if_neg (by omega), if_pos h, if_pos h2]))
        · have hu := ()
          exact bt (by omega) (z92 _ (by unfold loS; rw [if_pos h1, if_neg (by omega), if_pos h, if_neg h2]))
      · exact bz_n h1 (z92 _ (by unfold loS; rw [if_neg h1]))
theorem c12_leastOf (hK : StK K) (hR : AkRunM p nT q fl A B V) (hs : sn < 10) (hky : ky < 4) (h71 : V 71 sn = nI ky) : Ev G (d + 1) mX12_leastOf 0 [(0, .ref 57), (1, .int (nI p)), (2, .int (nI sn))] (K, n, V, J, O) (some (.int (nI (loE q A B ky)))) (K, n, V, J, O) := wX12_leastOf_0 hK (by rw [ix16']; exact c12_least8 hK hR hs hky h71 (qm q) 0 0 (by omega) (by omega))
theorem c12_most9 (hK : StK K) (hR : AkRunM p nT q fl A B V) (hs : sn < 10) (hky : ky < 4) (h71 : V 71 sn = nI ky) : ∀ (k i c : Nat), i + k = qm q → c ≤ 100 → Ev G (d + 1) mX12_mostOf 9 [(0, .ref 57), (1, .int (nI p)), (2, .int (nI sn)), (3, .int (nI c - 1)), (4, .int (nI (16 * p + i)))] (K, n, V, J, O) (some (.int (nI (itr (hiS q A B ky) k i c) - 1))) (K, n, V, J, O) := by
  have hR' := hR
  obtain ⟨hq, hC, h3, h4, h5, h6, h7⟩ := hR
  have hm := hq.1.1
  intro k
  induction k with
  | zero =>
    intro i c e _
    refine wX12_mostOf_9 hK ⟨nI_v h7 (by omega), ?_⟩
    rw [nI_c (by omega), hC.1, ix16, nI_le' (by omega) (by omega)]
    exact bt (by omega) rfl
  | succ k ih =>
    intro i c e hc
    have hi : i < qm q := by omega
    obtain ⟨e1, e2, -⟩ := hC.2.2.2 i hi
    obtain ⟨g1, g2, -⟩ := hq.1.2 i hi
    have hw := qwt_le hq h5 h6 hi
    have y1 := c12_valueOf (G := G) (d := d) (n := n) (J := J) (O := O) hK hR' hi
    have y2 := c12_isAbout (G := G) (d := d) (n := n) (J := J) (O := O) hK hq hC h7 hs hky h71 hi
    have hin : vp_in (nI (16 * p + i)) 160 := nI_v (by omega) (by omega)
    have z := ih (i + 1) (hiS q A B ky i c) (by omega) (hiS_le hc)
    have z' : ∀ c', hiS q A B ky i c = c' → Ev G (d + 1) mX12_mostOf 9 [(0, .ref 57), (1, .int (nI p)), (2, .int (nI sn)), (3, .int (nI c' - 1)), (4, .int (nI (16 * p + i + 1)))] (K, n, V, J, O) (some (.int (nI (itr (hiS q A B ky) k (i + 1) (hiS q A B ky i c)) - 1))) (K, n, V, J, O) := fun c' e => by rw [← e]; exact z
    have z94 : ∀ x5, hiS q A B ky i c = c → Ev G (d + 1) mX12_mostOf 94 [(0, .ref 57), (1, .int (nI p)), (2, .int (nI sn)), (3, .int (nI c - 1)), (4, .int (nI (16 * p + i))), (5, .int x5)] (K, n, V, J, O) (some (.int (nI (itr (hiS q A B ky) k (i + 1) (hiS q A B ky i c)) - 1))) (K, n, V, J, O) := fun x5 e => wX12_mostOf_94 hK (by rw [nI_1]; exact z' c e)
    refine wX12_mostOf_9 hK ⟨nI_v h7 (by omega), ?_⟩
    rw [nI_c (show p < 100000 by omega), hC.1, ix16, nI_le' (by omega) (by omega), nI_c (show 16 * p + i < 100000 by omega), e2, nI_1]
    refine bf (by omega) ⟨hin, ?_⟩
    show _ ∧ _
    rcases g2 with h | h | h
    · refine nt (lne (c := 61) rfl (by omega) (by omega) (by omega)) ⟨hin, nf (leqI (c := 60) rfl h) ⟨_, y1, _, y2, ?_⟩⟩
      by_cases h1 : qf q i = ky
      · have hu := ()
        refine bz_y h1 ?_
        rw [pr_le (by omega) (by omega)]
        by_cases h2 : qwt q A B i < c
        · have hu := ()
          exact bf (by omega) (z' _ (by unfold hiS; rw [if_pos h1, if_neg (by omega), if_pos h, if_pos h2]))
        · have hu := ()
          exact bt (by omega) (z94 _ (by unfold hiS; rw [if_pos h1, if_neg (by omega), if_pos h, if_neg h2]))
      · exact bz_n h1 (z94 _ (by unfold hiS; rw [if_neg h1]))
    · refine nf (leqI (c := 61) rfl h) ⟨_, y1, _, y2, ?_⟩
      rw [← nI_pred (qwt q A B i)]
      by_cases h1 : qf q i = ky
      · have hu := ()
        refine bz_y h1 ?_
        rw [pr_le (by omega) (by omega)]
        by_cases h2 : qwt q A B i + 1 < c
        · have hu := ()
          exact bf (by omega) (z' _ (by unfold hiS; rw [if_pos h1, if_neg (by omega), if_neg (by omega), if_pos h2]))
        · have hu := ()
          exact bt (by omega) (z94 _ (by unfold hiS; rw [if_pos h1, if_neg (by omega), if_neg (by omega), if_neg h2]))
      · exact bz_n h1 (z94 _ (by unfold hiS; rw [if_neg h1]))
    · refine nt (lne (c := 61) rfl (by omega) (by omega) (by omega)) ⟨hin, nt (lne (c := 60) rfl (by omega) (by omega) (by omega)) ⟨_, y2, ?_⟩⟩
      by_cases h1 : qf q i = ky
      · refine bz_y h1 (bt ?_ (z94 _ ?_))
        · show nI c - 1 ≤ nI 100 - 1
          rw [pr_le (by omega) (by omega)]
          exact hc
        · unfold hiS
          rw [if_pos h1, if_pos h]
      · exact bz_n h1 (z94 _ (by unfold hiS; rw [if_neg h1]))
theorem c12_mostOf (hK : StK K) (hR : AkRunM p nT q fl A B V) (hs : sn < 10) (hky : ky < 4) (h71 : V 71 sn = nI ky) : Ev G (d + 1) mX12_mostOf 0 [(0, .ref 57), (1, .int (nI p)), (2, .int (nI sn))] (K, n, V, J, O) (some (.int (nI (hiE q A B ky) - 1))) (K, n, V, J, O) := wX12_mostOf_0 hK (by rw [ix16']; exact c12_most9 hK hR hs hky h71 (qm q) 0 100 (by omega) (by omega))
theorem c12_all8 (hK : StK K) (hq : Qok q) (hC : QM p q V) (hp : p < 10) (hs : sn < 10) (hky : ky < 4) (h71 : V 71 sn = nI ky) : ∀ (k i : Nat) (b : Bool), i + k = qm q → (b && !anyF (fun i => !decide (qf q i = ky)) k i) = (!naI q ky) → Ev G (d + 1) mX12_allAbout 8 [(0, .ref 57), (1, .int (nI p)), (2, .int (nI sn)), (3, .int (bI (b = true))), (4, .int (nI (16 * p + i)))] (K, n, V, J, O) (some (.int (bI (naI q ky = false)))) (K, n, V, J, O) := by
  have hm := hq.1.1
  intro k
  induction k with
  | zero =>
    intro i b e hz
    refine wX12_allAbout_8 hK ⟨nI_v hp (by omega), ?_⟩
    rw [nI_c (by omega), hC.1, ix16, nI_le' (by omega) (by omega)]
    refine bt (by omega) ⟨bI_z, ?_⟩
    rw [anyF_0, Bool.not_false, Bool.and_true] at hz
    rw [bI_c (p := b = true) (q := naI q ky = false) (by rw [hz]; simp)]
  | succ k ih =>
    intro i b e hz
    have hi : i < qm q := by omega
    have y2 := c12_isAbout (G := G) (d := d) (n := n) (J := J) (O := O) hK hq hC hp hs hky h71 hi
    refine wX12_allAbout_8 hK ⟨nI_v hp (by omega), ?_⟩
    rw [nI_c (by omega), hC.1, ix16, nI_le' (by omega) (by omega), nI_1]
    rw [anyF_s] at hz
    refine bf (by omega) ?_
    cases b with
    | false =>
      refine bz_n (by decide) ?_
      have := ih (i + 1) false (by omega) (by rw [← hz]; rfl)
      rw [bI_f (by decide)] at this
      exact this
    | true =>
      refine bz_y rfl ⟨_, y2, ?_⟩
      by_cases h1 : qf q i = ky
      · refine bz_y h1 ?_
        have := ih (i + 1) true (by omega) (by rw [← hz, decide_eq_true h1]; rfl)
        rw [bI_t rfl] at this
        exact this
      · refine bz_n h1 ?_
        have := ih (i + 1) false (by omega) (by rw [← hz, decide_eq_false h1]; rfl)
        rw [bI_f (by decide)] at this
        exact this
theorem c12_allAbout (hK : StK K) (hq : Qok q) (hC : QM p q V) (hp : p < 10) (hs : sn < 10) (hky : ky < 4) (h71 : V 71 sn = nI ky) : Ev G (d + 1) mX12_allAbout 0 [(0, .ref 57), (1, .int (nI p)), (2, .int (nI sn))] (K, n, V, J, O) (some (.int (bI (naI q ky = false)))) (K, n, V, J, O) := by
  have z := c12_all8 (G := G) (d := d) (n := n) (J := J) (O := O) hK hq hC hp hs hky h71 (qm q) 0 true (by omega) (by unfold naI; simp)
  rw [bI_t rfl] at z
  refine wX12_allAbout_0 hK ?_
  rw [ix16']
  exact z
theorem c12_bySums (hK : StK K) (hq : Qok q) (hC : QM p q V) (hp : p < 10) (hs : sn < 10) (hky : ky < 4) (hkd : kd ≤ 7) (h70 : V 70 sn = nI kd) (h71 : V 71 sn = nI ky) : Ev G (d + 2) mX12_bySums 0 [(0, .ref 57), (1, .int (nI p)), (2, .int (nI sn))] (K, n, V, J, O) (some (.int (bI (kd = 7 ∧ fsB q (qr q) ky = true)))) (K, n, V, J, O) := by
  have hw := hq.2.1
  have hr := hq.2.2.2.1
  have hv : vp_in (nI p) 10 := nI_v hp (by omega)
  have hvs : vp_in (nI sn) 10 := nI_v hs (by omega)
  refine wX12_bySums_0 hK ⟨hvs, ?_⟩
  rw [nI_c (show sn < 100000 by omega), nI_c (show p < 100000 by omega), h70, h71, hC.2.1, hC.2.2.1]
  by_cases h0 : kd = 7
  · refine nf (leqI (c := 7) rfl h0) ⟨_, c12_allAbout hK hq hC hp hs hky h71, ?_⟩
    by_cases h9 : naI q ky = false
    · refine bz_y h9 ⟨hv, ?_⟩
      by_cases h1 : qw q = 110
      · exact bt (leqI (c := 110) rfl h1) (si_t ⟨h0, by rw [fsB_P]; exact ⟨h9, Or.inl h1⟩⟩)
      · refine bf (lne (c := 110) rfl (by omega) (by omega) h1) ⟨hv, ?_⟩
        by_cases h2 : qw q = 115
        · refine nf (leqI (c := 115) rfl h2) ⟨hv, hvs, ?_⟩
          by_cases h3 : qr q = ky
          · exact nf (leqI rfl h3) (si_t ⟨h0, by rw [fsB_P]; exact ⟨h9, Or.inr ⟨h2, h3⟩⟩⟩)
          · exact nt (lne rfl (by omega) (by omega) h3) (si_f (fun z => by
              have := z.2
              rw [fsB_P] at this
              exact this.2.elim h1 (fun y => h3 y.2)))
        · exact nt (lne (c := 115) rfl (by omega) (by omega) h2) (si_f (fun z => by
            have := z.2
            rw [fsB_P] at this
            exact this.2.elim h1 (fun y => h2 y.1)))
    · exact bz_n h9 (si_f (fun z => by
        have := z.2
        rw [fsB_P] at this
        exact h9 this.1))
  · exact nt (lne (c := 7) rfl (by omega) (by omega) h0) (si_f (fun z => h0 z.1))
theorem c12_bucket5 (hK : StK K) (hR : AkRunM p nT q fl A B V) (hs : sn < 10) (hky : ky < 4) (h71 : V 71 sn = nI ky) : ∀ (k i : Nat), i + k = qm q → Ev G (d + 1) mX12_bucketOf 5 [(0, .ref 57), (1, .int (nI p)), (2, .int (nI sn)), (3, .int (nI (16 * p + i)))] (K, n, V, J, O) (some (.int (bkI q A B (ffst (eqp q ky) k i)))) (K, n, V, J, O) := by
  have hR' := hR
  obtain ⟨hq, hC, h3, h4, h5, h6, h7⟩ := hR
  have hm := hq.1.1
  intro k
  induction k with
  | zero =>
    intro i e
    refine wX12_bucketOf_5 hK ⟨nI_v h7 (by omega), ?_⟩
    rw [nI_c (by omega), hC.1, ix16, nI_le' (by omega) (by omega)]
    refine bt (by omega) ?_
    unfold ffst bkI
    rw [if_neg (by omega)]
  | succ k ih =>
    intro i e
    have hi : i < qm q := by omega
    obtain ⟨e1, e2, -⟩ := hC.2.2.2 i hi
    obtain ⟨g1, g2, -⟩ := hq.1.2 i hi
    have hw := qwt_le hq h5 h6 hi
    have y1 := c12_valueOf (G := G) (d := d) (n := n) (J := J) (O := O) hK hR' hi
    have y2 := c12_isAbout (G := G) (d := d) (n := n) (J := J) (O := O) hK hq hC h7 hs hky h71 hi
    have hin : vp_in (nI (16 * p + i)) 160 := nI_v (by omega) (by omega)
    have z := ih (i + 1) (by omega)
    refine wX12_bucketOf_5 hK ⟨nI_v h7 (by omega), ?_⟩
    rw [nI_c (show p < 100000 by omega), hC.1, ix16, nI_le' (by omega) (by omega), nI_c (show 16 * p + i < 100000 by omega), e2, nI_1, ffst_s]
    refine bf (by omega) ⟨_, y2, ?_⟩
    by_cases h1 : qf q i = ky
    · refine bz_y h1 ⟨hin, ?_⟩
      by_cases h2 : qs q i = 61
      · refine nf (leqI (c := 61) rfl h2) ⟨_, y1, ?_⟩
        rw [if_pos (show eqp q ky i = true by unfold eqp; rw [decide_eq_true h1, decide_eq_true h2]; rfl), rem8 (by omega)]
        unfold bkI
        rw [if_pos hi]
      · refine nt (lne (c := 61) rfl (by omega) (by omega) h2) ?_
        rw [if_neg (show ¬ eqp q ky i = true by unfold eqp; rw [decide_eq_false h2, Bool.and_false]; decide)]
        exact z
    · refine bz_n h1 ?_
      rw [if_neg (show ¬ eqp q ky i = true by unfold eqp; rw [decide_eq_false h1, Bool.false_and]; decide)]
      exact z
theorem c12_bucketOf (hK : StK K) (hR : AkRunM p nT q fl A B V) (hs : sn < 10) (hky : ky < 4) (h71 : V 71 sn = nI ky) : Ev G (d + 1) mX12_bucketOf 0 [(0, .ref 57), (1, .int (nI p)), (2, .int (nI sn))] (K, n, V, J, O) (some (.int (bkI q A B (eqI q ky)))) (K, n, V, J, O) := wX12_bucketOf_0 hK (by rw [ix16']; exact c12_bucket5 hK hR hs hky h71 (qm q) 0 (by omega))
theorem eqI_1 (h : qm q = 1) : (eqI q ky < qm q) = (qf q 0 = ky ∧ qs q 0 = 61) := by
  unfold eqI
  rw [h]
  unfold ffst
  by_cases c : eqp q ky 0 = true
  · rw [if_pos c]
    unfold eqp at c
    simp only [Bool.and_eq_true, decide_eq_true_eq] at c
    simp [c]
  · rw [if_neg c]
    unfold ffst
    unfold eqp at c
    simp only [Bool.and_eq_true, decide_eq_true_eq] at c
    simp [c]
def oneP (q : QD) (ky : Nat) : Prop := qw q = 110 ∧ qm q = 1 ∧ eqI q ky < qm q
theorem c12_bitsCan (hK : StK K) (hq : Qok q) (hC : QM p q V) (hp : p < 10) (hs : sn < 10) (hky : ky < 4) (h71 : V 71 sn = nI ky) : Ev G (d + 1) mX12_bitsCan 0 [(0, .ref 57), (1, .int (nI p)), (2, .int (nI sn))] (K, n, V, J, O) (some (.int (bI (qw q = 110 ∧ qm q = 1 ∧ eqI q ky < qm q)))) (K, n, V, J, O) := by
  have hm := hq.1.1
  have hw := hq.2.1
  have hv : vp_in (nI p) 10 := nI_v hp (by omega)
  refine wX12_bitsCan_0 hK ⟨hv, ?_⟩
  rw [nI_c (show p < 100000 by omega), hC.2.1, hC.1]
  by_cases h1 : qw q = 110
  · refine nf (leqI (c := 110) rfl h1) ⟨hv, ?_⟩
    by_cases h2 : qm q = 1
    · have y2 := c12_isAbout (G := G) (d := d) (n := n) (J := J) (O := O) hK hq hC hp hs hky h71 (i := 0) (by omega)
      have e2 := (hC.2.2.2 0 (by omega)).2.1
      have g2 := (hq.1.2 0 (by omega)).2.1
      rw [Nat.add_zero] at y2 e2
      refine nf (leqI (c := 1) rfl h2) ⟨_, by rw [ix16']; exact y2, ?_⟩
      rw [ix16', nI_c (show 16 * p < 100000 by omega), e2]
      by_cases h3 : qf q 0 = ky
      · refine bz_y h3 ⟨nI_v (by omega) (by omega), ?_⟩
        by_cases h4 : qs q 0 = 61
        · exact nf (leqI (c := 61) rfl h4) (si_t ⟨h1, h2, by rw [eqI_1 h2]; exact ⟨h3, h4⟩⟩)
        · exact nt (lne (c := 61) rfl (by omega) (by omega) h4) (si_f (fun z => by
            have := z.2.2
            rw [eqI_1 h2] at this
            exact h4 this.2))
      · exact bz_n h3 (si_f (fun z => by
          have := z.2.2
          rw [eqI_1 h2] at this
          exact h3 this.1))
    · exact nt (lne (c := 1) rfl (by omega) (by omega) h2) (si_f (fun z => h2 z.2.1))
  · exact nt (lne (c := 110) rfl (by omega) (by omega) h1) (si_f (fun z => h1 z.1))
/-- what a stone of a kind can do -/
def canB (q : QD) (kd ky : Nat) : Bool := if kd = 6 then decide (qw q = 110) && (decide (qm q = 1) && decide (eqI q ky < qm q)) else decide (kd ≠ 0)
theorem c12_can (hK : StK K) (hq : Qok q) (hC : QM p q V) (hp : p < 10) (hs : sn < 10) (hky : ky < 4) (hkd : kd ≤ 7) (h70 : V 70 sn = nI kd) (h71 : V 71 sn = nI ky) : Ev G (d + 2) mX12_can 0 [(0, .ref 57), (1, .int (nI p)), (2, .int (nI sn))] (K, n, V, J, O) (some (.int (bI (canB q kd ky = true)))) (K, n, V, J, O) := by
  have hvs : vp_in (nI sn) 10 := nI_v hs (by omega)
  refine wX12_can_0 hK ⟨hvs, ?_⟩
  rw [nI_c (show sn < 100000 by omega), h70]
  unfold canB
  by_cases h6 : kd = 6
  · refine nf (leqI (c := 6) rfl h6) ⟨_, c12_bitsCan hK hq hC hp hs hky h71, bI_z, ?_⟩
    rw [bI_c (p := (if kd = 6 then decide (qw q = 110) && (decide (qm q = 1) && decide (eqI q ky < qm q)) else decide (kd ≠ 0)) = true) (q := qw q = 110 ∧ qm q = 1 ∧ eqI q ky < qm q) (by rw [if_pos h6]; simp)]
  · refine nt (lne (c := 6) rfl (by omega) (by omega) h6) ⟨hvs, ?_⟩
    by_cases h0 : kd = 0
    · exact bt (leqI (c := 0) rfl h0) (si_f (by rw [if_neg h6]; simpa using h0))
    · exact bf (lne (c := 0) rfl (by omega) (by omega) h0) (si_t (by rw [if_neg h6]; simpa using h0))
end
