/-! ===== asks: ends, what they are about; the class ===== -/
theorem pr_ti {a : Nat} (h : a < 100000) : (nI a - 1).toInt = (a : Int) - 1 := by
  cases a with
  | zero => decide
  | succ a =>
    rw [nI_pred, nI_ti (by omega)]
    omega
theorem pr_lt {a b : Nat} (ha : a < 100000) (hb : b < 100000) : (nI a - 1 < nI b - 1) = (a < b) := by
  rw [Int32.lt_iff_toInt_lt, pr_ti ha, pr_ti hb]
  apply propext
  omega
theorem pr_le {a b : Nat} (ha : a < 100000) (hb : b < 100000) : (nI a - 1 ≤ nI b - 1) = (a ≤ b) := by
  rw [Int32.le_iff_toInt_le, pr_ti ha, pr_ti hb]
  apply propext
  omega
theorem le_pr {a b : Nat} (ha : a < 100000) (hb : b < 100000) : (nI a ≤ nI b - 1) = (a < b) := by
  rw [Int32.le_iff_toInt_le, nI_ti ha, pr_ti hb]
  apply propext
  omega
theorem pr_ltx {a b : Nat} (ha : a < 100000) (hb : b < 100000) : (nI b - 1 < nI a) = ¬ (a < b) := by
  rw [Int32.lt_iff_toInt_lt, nI_ti ha, pr_ti hb]
  apply propext
  omega
theorem mx_n {a b : Nat} (ha : a < 100000) (hb : b < 100000) : (if nI a < nI b then nI b else nI a) = nI (if a < b then b else a) := by
  by_cases h : a < b
  · rw [if_pos h, if_pos ((nI_l' ha hb).mpr h)]
  · rw [if_neg h, if_neg (fun z => h ((nI_l' ha hb).mp z))]
theorem mn_p {a b : Nat} (ha : a < 100000) (hb : b < 100000) : (if nI a - 1 < nI b - 1 then nI a - 1 else nI b - 1) = nI (if a < b then a else b) - 1 := by
  by_cases h : a < b
  · rw [if_pos h, if_pos (by rw [pr_lt ha hb]; exact h)]
  · rw [if_neg h, if_neg (by rw [pr_lt ha hb]; exact h)]
def loS (q : QD) (A B ky i c : Nat) : Nat := if qf q i = ky then (if qs q i = 60 then c else if qs q i = 62 then (if c < qwt q A B i + 1 then qwt q A B i + 1 else c) else (if c < qwt q A B i then qwt q A B i else c)) else c
def hiS (q : QD) (A B ky i c : Nat) : Nat := if qf q i = ky then (if qs q i = 62 then c else if qs q i = 60 then (if qwt q A B i < c then qwt q A B i else c) else (if qwt q A B i + 1 < c then qwt q A B i + 1 else c)) else c
/-- LEAST -/
def loE (q : QD) (A B ky : Nat) : Nat := itr (loS q A B ky) (qm q) 0 0
/-- MOST, and 1 -/
def hiE (q : QD) (A B ky : Nat) : Nat := itr (hiS q A B ky) (qm q) 0 100
theorem itr_le {f : Nat → Nat → Nat} {M : Nat} : ∀ {k t a : Nat}, (∀ j b, t ≤ j → j < t + k → b ≤ M → f j b ≤ M) → a ≤ M → itr f k t a ≤ M
  | 0, _, _, _, h => h
  | k + 1, t, a, hf, h => itr_le (k := k) (t := t + 1) (a := f t a) (fun j b h1 h2 h3 => hf j b (by omega) (by omega) h3) (hf t a (Nat.le_refl _) (by omega) h)
theorem loS_le {q : QD} {A B ky i c : Nat} (hw : qwt q A B i ≤ 99) (hc : c ≤ 100) : loS q A B ky i c ≤ 100 := by
  unfold loS
  split
  · split
    · exact hc
    · split
      · split <;> omega
      · split <;> omega
  · exact hc
theorem hiS_le {q : QD} {A B ky i c : Nat} (hc : c ≤ 100) : hiS q A B ky i c ≤ 100 := by
  unfold hiS
  split
  · split
    · exact hc
    · split
      · split <;> omega
      · split <;> omega
  · exact hc
theorem qwt_le {q : QD} (hq : Qok q) {A B i : Nat} (hA : A ≤ 99) (hB : B ≤ 99) (hi : i < qm q) : qwt q A B i ≤ 99 := wv_le (hq.1.2 i hi).2.2 hA hB
theorem loE_le {q : QD} (hq : Qok q) {A B ky : Nat} (hA : A ≤ 99) (hB : B ≤ 99) : loE q A B ky ≤ 100 := itr_le (fun j b _ h2 h3 => loS_le (qwt_le hq hA hB (by omega)) h3) (by omega)
theorem hiE_le {q : QD} {A B ky : Nat} : hiE q A B ky ≤ 100 := itr_le (fun j b _ h2 h3 => hiS_le h3) (by omega)
def abI (q : QD) (ky : Nat) : Bool := anyF (fun i => decide (qf q i = ky)) (qm q) 0
def eqp (q : QD) (ky i : Nat) : Bool := decide (qf q i = ky) && decide (qs q i = 61)
def eqI (q : QD) (ky : Nat) : Nat := ffst (eqp q ky) (qm q) 0
/-- not all conditions are about the key -/
def naI (q : QD) (ky : Nat) : Bool := anyF (fun i => !decide (qf q i = ky)) (qm q) 0
section
variable {G : Gp} {d : Nat} {K : SK} {n : Nat × Nat} {V V' : SV} {J : SJV} {O : SO} {r : Option Value}
variable {a nT A B t ky : Nat} {q : QD} {fl : Nat → Nat → Nat} {s : RuS}
theorem c0_low4 (hK : StK K) (ha : IsAk K a) (hq : Qok q) (hC : QC a q V) (hL : LC a A B V) (hA : A ≤ 99) (hB : B ≤ 99) (hky : ky < 4) : ∀ (k i c : Nat), i + k = qm q → c ≤ 100 → Ev G (d + 1) mX0_lowEnd 4 [(0, .ref a), (1, .int (nI ky)), (2, .int (nI c)), (3, .int (nI i))] (K, n, V, J, O) (some (.int (nI (itr (loS q A B ky) k i c)))) (K, n, V, J, O) := by
  have hm := hq.1.1
  intro k
  induction k with
  | zero =>
    intro i c e _
    exact wX0_lowEnd_4 hK ha (bt (lp_out hC.1 (by omega) (by omega)) rfl)
  | succ k ih =>
    intro i c e hc
    have hi : i < qm q := by omega
    obtain ⟨e1, e2, -⟩ := hC.2.2.2 i hi
    obtain ⟨g1, g2, -⟩ := hq.1.2 i hi
    have hw := qwt_le hq hA hB hi
    have hwn := c0_wanted (G := G) (d := d) (n := n) (J := J) (O := O) hK ha hq hC hL hi
    have hin : vp_in (nI i) 15 := nI_v (by omega) (by omega)
    have z := ih (i + 1) (loS q A B ky i c) (by omega) (loS_le hw hc)
    refine wX0_lowEnd_4 hK ha (bf (lp_in hC.1 (by omega) (by omega)) ⟨hin, ?_⟩)
    rw [nI_c (by omega), e1, e2, nI_1, nI_ne (by omega) (by omega), nI_eq' (by omega) (by omega)]
    show _ ∧ _
    by_cases h1 : qf q i = ky
    · refine nf h1 ⟨hin, ?_⟩
      by_cases h2 : qs q i = 60
      · refine bt (leqI (c := 60) rfl h2) ?_
        have : loS q A B ky i c = c := by unfold loS; rw [if_pos h1, if_pos h2]
        rw [this] at z
        show Ev G (d + 1) mX0_lowEnd 4 _ _ (some (.int (nI (itr (loS q A B ky) k (i + 1) (loS q A B ky i c))))) _
        rw [this]
        exact z
      · refine bf (lne (c := 60) rfl (by omega) (by omega) h2) ⟨hin, ?_⟩
        by_cases h3 : qs q i = 62
        · refine nf (leqI (c := 62) rfl h3) ⟨_, hwn, ?_⟩
          have : loS q A B ky i c = if c < qwt q A B i + 1 then qwt q A B i + 1 else c := by unfold loS; rw [if_pos h1, if_neg h2, if_pos h3]
          rw [nI_1, mx_n (by omega) (by omega), ← this]
          exact z
        · refine nt (lne (c := 62) rfl (by omega) (by omega) h3) ⟨_, hwn, ?_⟩
          have : loS q A B ky i c = if c < qwt q A B i then qwt q A B i else c := by unfold loS; rw [if_pos h1, if_neg h2, if_neg h3]
          rw [mx_n (by omega) (by omega), ← this]
          exact z
    · refine nt h1 ?_
      have : loS q A B ky i c = c := by unfold loS; rw [if_neg h1]
      rw [this] at z
      show Ev G (d + 1) mX0_lowEnd 4 _ _ (some (.int (nI (itr (loS q A B ky) k (i + 1) (loS q A B ky i c))))) _
      rw [this]
      exact z
theorem c0_lowEnd (hK : StK K) (ha : IsAk K a) (hq : Qok q) (hC : QC a q V) (hL : LC a A B V) (hA : A ≤ 99) (hB : B ≤ 99) (hky : ky < 4) : Ev G (d + 1) mX0_lowEnd 0 [(0, .ref a), (1, .int (nI ky))] (K, n, V, J, O) (some (.int (nI (loE q A B ky)))) (K, n, V, J, O) := wX0_lowEnd_0 hK ha (c0_low4 hK ha hq hC hL hA hB hky (qm q) 0 0 (by omega) (by omega))
theorem c0_high5 (hK : StK K) (ha : IsAk K a) (hq : Qok q) (hC : QC a q V) (hL : LC a A B V) (hA : A ≤ 99) (hB : B ≤ 99) (hky : ky < 4) : ∀ (k i c : Nat), i + k = qm q → c ≤ 100 → Ev G (d + 1) mX0_highEnd 5 [(0, .ref a), (1, .int (nI ky)), (2, .int (nI c - 1)), (3, .int (nI i))] (K, n, V, J, O) (some (.int (nI (itr (hiS q A B ky) k i c) - 1))) (K, n, V, J, O) := by
  have hm := hq.1.1
  intro k
  induction k with
  | zero =>
    intro i c e _
    exact wX0_highEnd_5 hK ha (bt (lp_out hC.1 (by omega) (by omega)) rfl)
  | succ k ih =>
    intro i c e hc
    have hi : i < qm q := by omega
    obtain ⟨e1, e2, -⟩ := hC.2.2.2 i hi
    obtain ⟨g1, g2, -⟩ := hq.1.2 i hi
    have hw := qwt_le hq hA hB hi
    have hwn := c0_wanted (G := G) (d := d) (n := n) (J := J) (O := O) hK ha hq hC hL hi
    have hin : vp_in (nI i) 15 := nI_v (by omega) (by omega)
    have z := ih (i + 1) (hiS q A B ky i c) (by omega) (hiS_le hc)
    refine wX0_highEnd_5 hK ha (bf (lp_in hC.1 (by omega) (by omega)) ⟨hin, ?_⟩)
    rw [nI_c (by omega), e1, e2, nI_1, nI_ne (by omega) (by omega), nI_eq' (by omega) (by omega)]
    show _ ∧ _
    by_cases h1 : qf q i = ky
    · refine nf h1 ⟨hin, ?_⟩
      by_cases h2 : qs q i = 62
      · refine bt (leqI (c := 62) rfl h2) ?_
        have : hiS q A B ky i c = c := by unfold hiS; rw [if_pos h1, if_pos h2]
        rw [this] at z
        show Ev G (d + 1) mX0_highEnd 5 _ _ (some (.int (nI (itr (hiS q A B ky) k (i + 1) (hiS q A B ky i c)) - 1))) _
        rw [this]
        exact z
      · refine bf (lne (c := 62) rfl (by omega) (by omega) h2) ⟨hin, ?_⟩
        by_cases h3 : qs q i = 60
        · refine nf (leqI (c := 60) rfl h3) ⟨_, hwn, ?_⟩
          have : hiS q A B ky i c = if qwt q A B i < c then qwt q A B i else c := by unfold hiS; rw [if_pos h1, if_neg h2, if_pos h3]
          rw [mn_p (by omega) (by omega), ← this]
          exact z
        · refine nt (lne (c := 60) rfl (by omega) (by omega) h3) ⟨_, hwn, ?_⟩
          have : hiS q A B ky i c = if qwt q A B i + 1 < c then qwt q A B i + 1 else c := by unfold hiS; rw [if_pos h1, if_neg h2, if_neg h3]
          rw [← nI_pred (qwt q A B i), mn_p (by omega) (by omega), ← this]
          exact z
    · refine nt h1 ?_
      have : hiS q A B ky i c = c := by unfold hiS; rw [if_neg h1]
      rw [this] at z
      show Ev G (d + 1) mX0_highEnd 5 _ _ (some (.int (nI (itr (hiS q A B ky) k (i + 1) (hiS q A B ky i c)) - 1))) _
      rw [this]
      exact z
theorem c0_highEnd (hK : StK K) (ha : IsAk K a) (hq : Qok q) (hC : QC a q V) (hL : LC a A B V) (hA : A ≤ 99) (hB : B ≤ 99) (hky : ky < 4) : Ev G (d + 1) mX0_highEnd 0 [(0, .ref a), (1, .int (nI ky))] (K, n, V, J, O) (some (.int (nI (hiE q A B ky) - 1))) (K, n, V, J, O) := wX0_highEnd_0 hK ha (c0_high5 hK ha hq hC hL hA hB hky (qm q) 0 100 (by omega) (by omega))
theorem c0_isAbout2 (hK : StK K) (ha : IsAk K a) (hq : Qok q) (hC : QC a q V) (hky : ky < 4) : ∀ (k i : Nat), i + k = qm q → Ev G d mX0_isAbout 2 [(0, .ref a), (1, .int (nI ky)), (2, .int (nI i))] (K, n, V, J, O) (some (.int (bI (anyF (fun i => decide (qf q i = ky)) k i = true)))) (K, n, V, J, O) := by
  have hm := hq.1.1
  intro k
  induction k with
  | zero =>
    intro i e
    exact wX0_isAbout_2 hK ha (bt (lp_out hC.1 (by omega) (by omega)) (si_f (by rw [anyF_0]; decide)))
  | succ k ih =>
    intro i e
    have hi : i < qm q := by omega
    obtain ⟨e1, e2, -⟩ := hC.2.2.2 i hi
    obtain ⟨g1, -⟩ := hq.1.2 i hi
    have z := ih (i + 1) (by omega)
    refine wX0_isAbout_2 hK ha (bf (lp_in hC.1 (by omega) (by omega)) ⟨nI_v (by omega) (by omega), ?_⟩)
    rw [nI_c (by omega), e1, nI_1, nI_ne (by omega) (by omega), nI_eq' (by omega) (by omega), anyF_s]
    by_cases h1 : qf q i = ky
    · refine nf h1 (si_t ?_)
      rw [decide_eq_true h1]
      rfl
    · refine nt h1 ?_
      rw [decide_eq_false h1, Bool.false_or]
      exact z
theorem c0_isAbout (hK : StK K) (ha : IsAk K a) (hq : Qok q) (hC : QC a q V) (hky : ky < 4) : Ev G d mX0_isAbout 0 [(0, .ref a), (1, .int (nI ky))] (K, n, V, J, O) (some (.int (bI (abI q ky = true)))) (K, n, V, J, O) := wX0_isAbout_0 hK ha (c0_isAbout2 hK ha hq hC hky (qm q) 0 (by omega))
def eqX (q : QD) (i : Nat) : Int32 := if i < qm q then nI i else -1
theorem c0_equalAt2 (hK : StK K) (ha : IsAk K a) (hq : Qok q) (hC : QC a q V) (hky : ky < 4) : ∀ (k i : Nat), i + k = qm q → Ev G d mX0_equalAt 2 [(0, .ref a), (1, .int (nI ky)), (2, .int (nI i))] (K, n, V, J, O) (some (.int (eqX q (ffst (eqp q ky) k i)))) (K, n, V, J, O) := by
  have hm := hq.1.1
  intro k
  induction k with
  | zero =>
    intro i e
    refine wX0_equalAt_2 hK ha (bt (lp_out hC.1 (by omega) (by omega)) ?_)
    unfold ffst eqX
    rw [if_neg (by omega)]
  | succ k ih =>
    intro i e
    have hi : i < qm q := by omega
    obtain ⟨e1, e2, -⟩ := hC.2.2.2 i hi
    obtain ⟨g1, g2, -⟩ := hq.1.2 i hi
    have z := ih (i + 1) (by omega)
    have hin : vp_in (nI i) 15 := nI_v (by omega) (by omega)
    refine wX0_equalAt_2 hK ha (bf (lp_in hC.1 (by omega) (by omega)) ⟨hin, ?_⟩)
    rw [nI_c (by omega), e1, e2, nI_1, nI_ne (by omega) (by omega), nI_eq' (by omega) (by omega), ffst_s]
    by_cases h1 : qf q i = ky
    · refine nf h1 ⟨hin, ?_⟩
      by_cases h2 : qs q i = 61
      · refine nf (leqI (c := 61) rfl h2) ?_
        rw [if_pos (show eqp q ky i = true by unfold eqp; rw [decide_eq_true h1, decide_eq_true h2]; rfl)]
        unfold eqX
        rw [if_pos hi]
      · refine nt (lne (c := 61) rfl (by omega) (by omega) h2) ?_
        rw [if_neg (show ¬ eqp q ky i = true by unfold eqp; rw [decide_eq_false h2, Bool.and_false]; decide)]
        exact z
    · refine nt h1 ?_
      rw [if_neg (show ¬ eqp q ky i = true by unfold eqp; rw [decide_eq_false h1, Bool.false_and]; decide)]
      exact z
theorem c0_equalAt (hK : StK K) (ha : IsAk K a) (hq : Qok q) (hC : QC a q V) (hky : ky < 4) : Ev G d mX0_equalAt 0 [(0, .ref a), (1, .int (nI ky))] (K, n, V, J, O) (some (.int (eqX q (eqI q ky)))) (K, n, V, J, O) := wX0_equalAt_0 hK ha (c0_equalAt2 hK ha hq hC hky (qm q) 0 (by omega))
theorem nI_nm1 {i : Nat} (h : i < 100000) : ¬ nI i = -1 := by
  intro z
  have := congrArg Int32.toInt z
  rw [nI_ti h] at this
  have e1 : (-1 : Int32).toInt = -1 := by decide
  omega
theorem c0_hasEqual (hK : StK K) (ha : IsAk K a) (hq : Qok q) (hC : QC a q V) (hky : ky < 4) : Ev G (d + 1) mX0_hasEqual 0 [(0, .ref a), (1, .int (nI ky))] (K, n, V, J, O) (some (.int (bI (eqI q ky < qm q)))) (K, n, V, J, O) := by
  have hm := hq.1.1
  refine wX0_hasEqual_0 hK ha ⟨_, c0_equalAt hK ha hq hC hky, ?_⟩
  unfold eqX
  by_cases h : eqI q ky < qm q
  · rw [if_pos h]
    exact bf (nI_nm1 (by omega)) (si_t h)
  · rw [if_neg h]
    exact bt rfl (si_f h)
def feq (q : QD) (A B ky : Nat) : Nat := if eqI q ky < qm q then qwt q A B (eqI q ky) else 0
theorem c0_firstEqual (hK : StK K) (ha : IsAk K a) (hq : Qok q) (hC : QC a q V) (hL : LC a A B V) (hky : ky < 4) : Ev G (d + 1) mX0_firstEqual 0 [(0, .ref a), (1, .int (nI ky))] (K, n, V, J, O) (some (.int (nI (feq q A B ky)))) (K, n, V, J, O) := by
  have hm := hq.1.1
  refine wX0_firstEqual_0 hK ha ⟨_, c0_equalAt hK ha hq hC hky, ?_⟩
  unfold eqX feq
  by_cases h : eqI q ky < qm q
  · rw [if_pos h, if_pos h]
    exact nt (nI_nm1 (by omega)) ⟨_, c0_wanted hK ha hq hC hL h, rfl⟩
  · rw [if_neg h, if_neg h]
    exact nf rfl rfl
theorem c0_isLeast (hK : StK K) (ha : IsAk K a) (hq : Qok q) (hC : QC a q V) (hky : ky < 4) : Ev G d mX0_isLeastOfAll 0 [(0, .ref a), (1, .int (nI ky))] (K, n, V, J, O) (some (.int (bI (qm q = 0 ∧ qw q = 109 ∧ qc q = ky)))) (K, n, V, J, O) := by
  have hm := hq.1.1
  have hw := hq.2.1
  have hc := hq.2.2.1
  refine wX0_isLeastOfAll_0 hK ha ?_
  rw [hC.1, hC.2.1, hC.2.2.1]
  by_cases h1 : qm q = 0
  · refine nf (leqI (c := 0) rfl h1) ?_
    by_cases h2 : qw q = 109
    · refine nf (leqI (c := 109) rfl h2) ?_
      by_cases h3 : qc q = ky
      · exact nf (leqI rfl h3) (si_t ⟨h1, h2, h3⟩)
      · exact nt (lne rfl (by omega) (by omega) h3) (si_f (fun z => h3 z.2.2))
    · exact nt (lne (c := 109) rfl (by omega) (by omega) h2) (si_f (fun z => h2 z.2.1))
  · exact nt (lne (c := 0) rfl (by omega) (by omega) h1) (si_f (fun z => h1 z.1))
theorem c0_isCount (hK : StK K) (ha : IsAk K a) (hq : Qok q) (hC : QC a q V) : Ev G d mX0_isCount 0 [(0, .ref a)] (K, n, V, J, O) (some (.int (bI (qw q = 110)))) (K, n, V, J, O) := by
  have hw := hq.2.1
  refine wX0_isCount_0 hK ha ?_
  rw [hC.2.1]
  by_cases h2 : qw q = 110
  · exact nf (leqI (c := 110) rfl h2) (si_t h2)
  · exact nt (lne (c := 110) rfl (by omega) (by omega) h2) (si_f h2)
theorem c0_isOne (hK : StK K) (ha : IsAk K a) (hq : Qok q) (hC : QC a q V) (hky : ky < 4) : Ev G (d + 2) mX0_isCountOfOneValue 0 [(0, .ref a), (1, .int (nI ky))] (K, n, V, J, O) (some (.int (bI (qw q = 110 ∧ qm q = 1 ∧ eqI q ky < qm q)))) (K, n, V, J, O) := by
  have hm := hq.1.1
  refine wX0_isCountOfOneValue_0 hK ha ⟨_, c0_isCount hK ha hq hC, ?_⟩
  rw [hC.1]
  by_cases h1 : qw q = 110
  · refine bz_y h1 ?_
    by_cases h2 : qm q = 1
    · refine nf (leqI (c := 1) rfl h2) ⟨_, c0_hasEqual hK ha hq hC hky, ?_⟩
      by_cases h3 : eqI q ky < qm q
      · exact bz_y h3 (si_t ⟨h1, h2, h3⟩)
      · exact bz_n h3 (si_f (fun z => h3 z.2.2))
    · exact nt (lne (c := 1) rfl (by omega) (by omega) h2) (si_f (fun z => h2 z.2.1))
  · exact bz_n h1 (si_f (fun z => h1 z.1))
theorem c0_sums2 (hK : StK K) (ha : IsAk K a) (hq : Qok q) (hC : QC a q V) (hky : ky < 4) : ∀ (k i : Nat), i + k = qm q → Ev G (d + 1) mX0_isFromSums 2 [(0, .ref a), (1, .int (nI ky)), (2, .int (nI i))] (K, n, V, J, O) (some (.int (bI (anyF (fun i => !decide (qf q i = ky)) k i = false ∧ (qw q = 110 ∨ (qw q = 115 ∧ qc q = ky)))))) (K, n, V, J, O) := by
  have hm := hq.1.1
  have hw := hq.2.1
  have hc := hq.2.2.1
  intro k
  induction k with
  | zero =>
    intro i e
    refine wX0_isFromSums_2 hK ha (bt (lp_out hC.1 (by omega) (by omega)) ⟨_, c0_isCount hK ha hq hC, ?_⟩)
    rw [hC.2.1, hC.2.2.1]
    by_cases h1 : qw q = 110
    · exact bn_y h1 (si_t ⟨rfl, Or.inl h1⟩)
    · refine bn_n h1 ?_
      by_cases h2 : qw q = 115
      · refine nf (leqI (c := 115) rfl h2) ?_
        by_cases h3 : qc q = ky
        · exact nf (leqI rfl h3) (si_t ⟨rfl, Or.inr ⟨h2, h3⟩⟩)
        · exact nt (lne rfl (by omega) (by omega) h3) (si_f (fun z => z.2.elim h1 (fun y => h3 y.2)))
      · exact nt (lne (c := 115) rfl (by omega) (by omega) h2) (si_f (fun z => z.2.elim h1 (fun y => h2 y.1)))
  | succ k ih =>
    intro i e
    have hi : i < qm q := by omega
    obtain ⟨e1, e2, -⟩ := hC.2.2.2 i hi
    obtain ⟨g1, -⟩ := hq.1.2 i hi
    have z := ih (i + 1) (by omega)
    refine wX0_isFromSums_2 hK ha (bf (lp_in hC.1 (by omega) (by omega)) ⟨nI_v (by omega) (by omega), ?_⟩)
    rw [nI_c (by omega), e1, nI_1, nI_eq' (by omega) (by omega), anyF_s]
    by_cases h1 : qf q i = ky
    · refine bt h1 ?_
      rw [decide_eq_true h1, Bool.not_true, Bool.false_or]
      exact z
    · refine bf h1 (si_f (fun y => ?_))
      rw [decide_eq_false h1] at y
      exact absurd y.1 (by simp)
def fsP (q : QD) (f ky : Nat) : Prop := naI q ky = false ∧ (qw q = 110 ∨ (qw q = 115 ∧ f = ky))
def fsB (q : QD) (f ky : Nat) : Bool := !naI q ky && (decide (qw q = 110) || (decide (qw q = 115) && decide (f = ky)))
theorem fsB_P {f : Nat} : (fsB q f ky = true) = fsP q f ky := by
  unfold fsB fsP
  simp
theorem c0_fromSums (hK : StK K) (ha : IsAk K a) (hq : Qok q) (hC : QC a q V) (hky : ky < 4) : Ev G (d + 1) mX0_isFromSums 0 [(0, .ref a), (1, .int (nI ky))] (K, n, V, J, O) (some (.int (bI (fsB q (qc q) ky = true)))) (K, n, V, J, O) := by
  have z := c0_sums2 (G := G) (d := d) (n := n) (J := J) (O := O) hK ha hq hC hky (qm q) 0 (by omega)
  rw [bI_c (q := fsB q (qc q) ky = true) (by rw [fsB_P]; rfl)] at z
  exact wX0_isFromSums_0 hK ha z
end
