/-! ===== rows of names: the class's and the reference's small methods ===== -/
def insF (nm : Nat → Nat) (place t : Nat) : Nat → Nat := fun i => if i < place then nm i else if i = place then t else nm (i - 1)
def remF (nm : Nat → Nat) (place : Nat) : Nat → Nat := fun i => if i < place then nm i else nm (i + 1)
/-- a thing comes ahead of (v, o); o: a number, or none at all -/
def ah (ke : Nat → Nat) (v : Nat) (o : Option Nat) (t : Nat) : Bool := decide (ke t < v) || (decide (ke t = v) && (match o with
  | none => false
  | some u => decide (t < u)))
/-- by halves: the place and the looks -/
def bs (p : Nat → Bool) : Nat → Nat → Nat → Nat → Nat × Nat
  | 0, lo, _, c => (lo, c)
  | f + 1, lo, hi, c => if lo < hi then (if p ((lo + hi) / 2) = true then bs p f ((lo + hi) / 2 + 1) hi (c + 1) else bs p f lo ((lo + hi) / 2) (c + 1)) else (lo, c)
theorem bs_le {p : Nat → Bool} : ∀ {f lo hi c : Nat}, lo ≤ hi → lo ≤ (bs p f lo hi c).1 ∧ (bs p f lo hi c).1 ≤ hi
  | 0, lo, hi, c, h => ⟨Nat.le_refl _, h⟩
  | f + 1, lo, hi, c, h => by
    unfold bs
    split
    · split
      · have := bs_le (p := p) (f := f) (lo := (lo + hi) / 2 + 1) (hi := hi) (c := c + 1) (by omega)
        omega
      · have := bs_le (p := p) (f := f) (lo := lo) (hi := (lo + hi) / 2) (c := c + 1) (by omega)
        omega
    · exact ⟨Nat.le_refl _, h⟩
theorem bs_eq {p q : Nat → Bool} : ∀ {f lo hi c : Nat}, (∀ j, j < hi → p j = q j) → bs p f lo hi c = bs q f lo hi c
  | 0, _, _, _, _ => rfl
  | f + 1, lo, hi, c, h => by
    unfold bs
    by_cases hl : lo < hi
    · rw [if_pos hl, if_pos hl, h ((lo + hi) / 2) (by omega), bs_eq (lo := (lo + hi) / 2 + 1) (c := c + 1) h, bs_eq (hi := (lo + hi) / 2) (c := c + 1) (fun j hj => h j (by omega))]
    · rw [if_neg hl, if_neg hl]
/-- the fields of things by which a stone goes, as the class and the reference have them -/
def cKe (ky nT : Nat) (ke : Nat → Nat) (V : SV) : Prop := ky < 4 ∧ nT ≤ 80 ∧ ∀ t, t < nT → V (4 + 1 + ky) t = nI (ke t) ∧ ke t < 100
def mKe (s ky nT : Nat) (ke : Nat → Nat) (V : SV) : Prop := s < 10 ∧ ky < 4 ∧ nT ≤ 80 ∧ V 71 s = nI ky ∧ ∀ t, t < nT → V 58 (4 * t + ky) = nI (ke t) ∧ ke t < 100
theorem ahI {ke : Nat → Nat} {v t : Nat} {o : Option Nat} (ht : t < 100) (ho : ∀ u, o = some u → u < 100) : (moI o ≤ nI t) = (match o with | none => true | some u => decide (u ≤ t)) := by
  cases o with
  | none =>
    have : moI none ≤ nI t := Int32.le_trans (show (-1 : Int32) ≤ 0 by decide) (nI_pos' (by omega))
    simp [this]
  | some u =>
    have := ho u rfl
    simp only [moI, nI_le' (show u < 100000 by omega) (show t < 100000 by omega), decide_eq_true_eq]
section
variable {G : Gp} {d : Nat} {K : SK} {n : Nat × Nat} {V V' : SV} {J J' : SJV} {O O' : SO} {r : Option Value}
variable {b ci ky s nT m : Nat} {ke nm : Nat → Nat}
theorem c5_comes (hK : StK K) (ha : IsSt K b ci ky) (hc : ci ∈ [1, 2, 3, 4, 5, 6, 7, 10]) (hk : cKe ky nT ke V) {t v : Nat} {o : Option Nat} (ht : t < nT) (hv : v < 1000) (ho : ∀ u, o = some u → u < 100) : Ev G d mX5_comesAhead 0 [(0, .ref b), (1, .int (nI t)), (2, .int (nI v)), (3, .int (moI o))] (K, n, V, J, O) (some (.int (bI (ah ke v o t = true)))) (K, n, V, J, O) := by
  obtain ⟨h1, h2, h3⟩ := hk
  obtain ⟨e1, e2⟩ := h3 t ht
  have hi := nI_v (a := t) (N := 80) (by omega) (by omega)
  refine wX5_comesAhead_0 hK ha hc ⟨hi, ?_⟩
  rw [nI_c (by omega), e1, nI_lt' (by omega) (by omega), nI_ne (by omega) (by omega), nI_eq' (by omega) (by omega), ahI (ke := ke) (v := v) (by omega) ho]
  unfold ah
  by_cases c1 : ke t < v
  · exact bt c1 (by rw [bI_t]; simp [c1])
  · refine bf c1 ⟨hi, ?_⟩
    by_cases c2 : ke t = v
    · refine nf c2 ?_
      cases o with
      | none => exact bt rfl (by rw [bI_f]; simp [c1])
      | some u =>
        by_cases c3 : u ≤ t
        · exact bt (by simp [c3]) (by rw [bI_f]; simp [c1]; omega)
        · exact bf (by simp [c3]) (by rw [bI_t]; simp [c2]; omega)
    · exact nt c2 (by rw [bI_f]; simp [c1, c2])
theorem c12_keyIn (hK : StK K) (hk : mKe s ky nT ke V) {t : Nat} (ht : t < nT) : Ev G d mX12_keyIn 0 [(0, .ref 57), (1, .int (nI s)), (2, .int (nI t))] (K, n, V, J, O) (some (.int (nI (ke t)))) (K, n, V, J, O) := by
  obtain ⟨h0, h1, h2, h4, h3⟩ := hk
  obtain ⟨e1, e2⟩ := h3 t ht
  refine wX12_keyIn_0 hK ⟨nI_v h0 (by omega), ?_⟩
  rw [nI_c (show s < 100000 by omega), h4, ix4, nI_c (by omega), e1]
  exact ⟨nI_v (by omega) (by omega), rfl⟩
theorem c12_isAhead (hK : StK K) (hk : mKe s ky nT ke V) {t v : Nat} {o : Option Nat} (ht : t < nT) (hv : v < 1000) (ho : ∀ u, o = some u → u < 100) : Ev G (d + 1) mX12_isAhead 0 [(0, .ref 57), (1, .int (nI s)), (2, .int (nI t)), (3, .int (nI v)), (4, .int (moI o))] (K, n, V, J, O) (some (.int (bI (ah ke v o t = true)))) (K, n, V, J, O) := by
  have h2 := hk.2.2.1
  obtain ⟨e1, e2⟩ := hk.2.2.2.2 t ht
  refine wX12_isAhead_0 hK ⟨_, c12_keyIn hK hk ht, ?_⟩
  rw [nI_lt' (by omega) (by omega)]
  unfold ah
  by_cases c1 : ke t < v
  · exact bt c1 (by rw [bI_t]; simp [c1])
  · refine bf c1 ⟨_, c12_keyIn hK hk ht, ?_⟩
    rw [nI_ne (by omega) (by omega), nI_eq' (by omega) (by omega), ahI (ke := ke) (v := v) (by omega) ho]
    by_cases c2 : ke t = v
    · refine nf c2 ?_
      cases o with
      | none => exact bt rfl (by rw [bI_f]; simp [c1])
      | some u =>
        by_cases c3 : u ≤ t
        · exact bt (by simp [c3]) (by rw [bI_f]; simp [c1]; omega)
        · exact bf (by simp [c3]) (by rw [bI_t]; simp [c2]; omega)
    · exact nt c2 (by rw [bI_f]; simp [c1, c2])
theorem c12_isLess (hK : StK K) (hk : mKe s ky nT ke V) {t u : Nat} (ht : t < nT) (hu : u < nT) : Ev G (d + 2) mX12_isLess 0 [(0, .ref 57), (1, .int (nI s)), (2, .int (nI t)), (3, .int (nI u))] (K, n, V, J, O) (some (.int (bI (ah ke (ke u) (some u) t = true)))) (K, n, V, J, O) := by
  have h2 := hk.2.2.1
  obtain ⟨e1, e2⟩ := hk.2.2.2.2 u hu
  exact wX12_isLess_0 hK ⟨_, c12_keyIn hK hk hu, _, c12_isAhead (o := some u) hK hk ht (by omega) (fun w hw => by cases hw; omega), bI_z, rfl⟩
/-! names in the order of their places -/
def RowC (b m : Nat) (nm : Nat → Nat) (V : SV) : Prop := m ≤ 80 ∧ V b 10 = nI m ∧ ∀ i, i < m → V (b + 2) i = nI (nm i) ∧ nm i < 80
def RowM (s m : Nat) (nm : Nat → Nat) (V : SV) : Prop := m ≤ 80 ∧ V 73 s = nI m ∧ ∀ i, i < m → V 72 (80 * s + i) = nI (nm i) ∧ nm i < 80
theorem c3_placeOf2 (hK : StK K) (ha : IsSt K b ci ky) (hc : ci ∈ [2, 3, 4, 6]) (hR : RowC b m nm V) {t : Nat} (ht : t < 80) : ∀ (k i : Nat), i + k = m → Ev G d mX3_placeOf 2 [(0, .ref b), (1, .int (nI t)), (2, .int (nI i))] (K, n, V, J, O) (some (.int (nI (ffst (fun q => nm q == t) k i)))) (K, n, V, J, O)
  | 0, i, e => wX3_placeOf_2 hK ha hc (bt (lp_out hR.2.1 (by omega) (by have := hR.1; omega)) rfl)
  | k + 1, i, e => by
    have h80 := hR.1
    obtain ⟨e1, e2⟩ := hR.2.2 i (by omega)
    refine wX3_placeOf_2 hK ha hc (bf (lp_in hR.2.1 (by omega) (by omega)) ⟨nI_v (by omega) (by omega), ?_⟩)
    rw [nI_c (by omega), e1, nI_eq' (by omega) (by omega), nI_1, ffst_s]
    by_cases q : nm i = t
    · exact bt q (by simp [q])
    · exact bf q (by simpa [q] using c3_placeOf2 hK ha hc hR ht k (i + 1) (by omega))
theorem c3_placeOf (hK : StK K) (ha : IsSt K b ci ky) (hc : ci ∈ [2, 3, 4, 6]) (hR : RowC b m nm V) {t : Nat} (ht : t < 80) : Ev G d mX3_placeOf 0 [(0, .ref b), (1, .int (nI t))] (K, n, V, J, O) (some (.int (nI (ffst (fun q => nm q == t) m 0)))) (K, n, V, J, O) := wX3_placeOf_0 hK ha hc (c3_placeOf2 hK ha hc hR ht m 0 (by omega))
theorem c3_insertAt (hK : StK K) (ha : IsSt K b ci ky) (hc : ci ∈ [2, 3, 4, 6]) (hR : RowC b m nm V) {p t : Nat} (hp : p ≤ m) (hm : m < 80) (ht : t < 80) : ∃ V', Ev G d mX3_insertAt 0 [(0, .ref b), (1, .int (nI p)), (2, .int (nI t))] (K, n, V, J, O) none (K, n, V', J, O) ∧ RowC b (m + 1) (insF nm p t) V' ∧ fr (fun a k => a = b + 2 ∨ (a = b ∧ k = 10)) V V' := by
  obtain ⟨h1, h2, h3⟩ := hR
  have e1 : nI m - nI p = nI (m - p) := nI_s hp
  have e2 : ∀ X : Nat → Int32, up2 (upA V (b + 2) X) (b + 2) p (nI t) b 10 = nI m := fun X => by
    rw [up2_a (by omega), upA_o (by omega), h2]
  refine ⟨up2 (up2 (upA V (b + 2) (va_cpy (V (b + 2)) (V (b + 2)) p (p + 1) (m - p))) (b + 2) p (nI t)) b 10 (nI (m + 1)), wX3_insertAt_0 hK ha hc (bf ?_ (bt ?_ ?_)), ⟨by omega, up2_s, fun i hi => ?_⟩, fr_up (fr_up (fr_upA fr_rfl (fun _ => Or.inl rfl)) (Or.inl rfl)) (Or.inr ⟨rfl, rfl⟩)⟩
  · rw [h2, show (80 : Int32) = nI 80 from rfl, nI_le' (by omega) (by omega)]
    omega
  · rw [h2, nI_le' (by omega) (by omega)]
    exact hp
  · rw [h2, e1, nI_1, nI_c (show p < 100000 by omega), nI_c (show p + 1 < 100000 by omega), nI_c (show m - p < 100000 by omega), e2, nI_1]
    exact ⟨⟨nI_pos (by omega), nI_pos (by omega), nI_pos (by omega), by omega, by omega⟩, nI_v (by omega) (by omega), rfl, rfl⟩
  · rw [up2_a (by omega)]
    unfold insF
    by_cases ei : i = p
    · subst ei
      rw [up2_s]
      simp [ht]
    · rw [up2_k ei, upA_s]
      by_cases ei2 : i < p
      · rw [pk_cpy_out (by omega), if_pos ei2]
        exact h3 i (by omega)
      · rw [pk_cpy_in (by omega) (by omega), if_neg ei2, if_neg ei, show p + (i - (p + 1)) = i - 1 by omega]
        exact h3 (i - 1) (by omega)
theorem c3_removeAt (hK : StK K) (ha : IsSt K b ci ky) (hc : ci ∈ [2, 3, 4, 6]) (hR : RowC b m nm V) {p : Nat} (hp : p < m) : ∃ V', Ev G d mX3_removeAt 0 [(0, .ref b), (1, .int (nI p))] (K, n, V, J, O) none (K, n, V', J, O) ∧ RowC b (m - 1) (remF nm p) V' ∧ fr (fun a k => a = b + 2 ∨ (a = b ∧ k = 10)) V V' := by
  obtain ⟨h1, h2, h3⟩ := hR
  have e1 : nI m - 1 = nI (m - 1) := by rw [show (1 : Int32) = nI 1 from rfl, nI_s (by omega)]
  have e2 : nI (m - 1) - nI p = nI (m - 1 - p) := nI_s (by omega)
  refine ⟨upA (up2 V b 10 (nI (m - 1))) (b + 2) (va_cpy (up2 V b 10 (nI (m - 1)) (b + 2)) (up2 V b 10 (nI (m - 1)) (b + 2)) (p + 1) p (m - 1 - p)), wX3_removeAt_0 hK ha hc (bt ?_ ?_), ⟨by omega, ?_, fun i hi => ?_⟩, fr_upA (fr_up fr_rfl (Or.inr ⟨rfl, rfl⟩)) (fun _ => Or.inl rfl)⟩
  · rw [h2, nI_lt' (by omega) (by omega)]
    exact hp
  · rw [h2, e1, e2, nI_1, nI_c (show p < 100000 by omega), nI_c (show p + 1 < 100000 by omega), nI_c (show m - 1 - p < 100000 by omega)]
    exact ⟨⟨nI_pos (by omega), nI_pos (by omega), nI_pos (by omega), by omega, by omega⟩, rfl, rfl⟩
  · rw [upA_o (by omega), up2_s]
  · rw [upA_s]
    unfold remF
    by_cases ei : i < p
    · rw [pk_cpy_out (by omega), up2_a (by omega), if_pos ei]
      exact h3 i (by omega)
    · rw [pk_cpy_in (by omega) (by omega), up2_a (by omega), if_neg ei, show p + 1 + (i - p) = i + 1 by omega]
      exact h3 (i + 1) (by omega)
theorem up2_2 {α : Type} {V : Nat → Nat → α} {a k : Nat} {x y : α} : up2 (up2 V a k x) a k y = up2 V a k y := by
  funext c j
  unfold up2
  split <;> simp_all
theorem half_n {lo hi : Nat} (h : lo + hi < 100000) : (nI lo + nI hi) / 2 = nI ((lo + hi) / 2) := by
  rw [nI_add]
  exact pk_div (d := 2) (by omega) (by omega) (by omega)
theorem c4_pf8 (hK : StK K) (ha : IsSt K b ci ky) (hc : ci ∈ [4, 6]) {v : Nat} {o : Option Nat} (hv : v < 1000) (ho : ∀ u, o = some u → u < 100) : ∀ (f lo hi c : Nat) (V : SV), hi - lo ≤ f ∧ lo ≤ hi → hi ≤ m → RowC b m nm V → cKe ky nT ke V → (∀ i, i < m → nm i < nT) → 96 ≤ b → V b 8 = nI c → Ev G (d + 1) mX4_placeFor 8 [(0, .ref b), (1, .int (nI v)), (2, .int (moI o)), (3, .int (nI lo)), (4, .int (nI hi))] (K, n, V, J, O) (some (.int (nI (bs (fun i => ah ke v o (nm i)) f lo hi c).1))) (K, n, up2 V b 8 (nI (bs (fun i => ah ke v o (nm i)) f lo hi c).2), J, O) := by
  intro f
  induction f with
  | zero =>
    intro lo hi c V h1 h2 hR hk hn hb h8
    have h80 := hR.1
    refine wX4_placeFor_8 hK ha hc (bt ?_ ⟨rfl, ?_⟩)
    · rw [nI_le' (by omega) (by omega)]; omega
    · show up2 V b 8 (nI c) = V
      rw [← h8, up2_self]
  | succ f ih =>
    intro lo hi c V h1 h2 hR hk hn hb h8
    have h80 := hR.1
    unfold bs
    by_cases hl : lo < hi
    · rw [if_pos hl]
      have hmid : (lo + hi) / 2 < m := by omega
      have hR' : RowC b m nm (up2 V b 8 (nI (c + 1))) := ⟨hR.1, by rw [up2_k (by decide)]; exact hR.2.1, fun i hi => by rw [up2_a (by omega)]; exact hR.2.2 i hi⟩
      have hk' : cKe ky nT ke (up2 V b 8 (nI (c + 1))) := ⟨hk.1, hk.2.1, fun t ht => by have := hk.1; rw [up2_a (by omega)]; exact hk.2.2 t ht⟩
      refine wX4_placeFor_8 hK ha hc (bf ?_ ?_)
      · rw [nI_le' (by omega) (by omega)]; omega
      · rw [half_n (by omega), nI_c (show (lo + hi) / 2 < 100000 by omega), h8, nI_1, nI_1, up2_a (show b + 2 ≠ b by omega), (hR.2.2 _ hmid).1]
        refine ⟨nI_v (by omega) (by omega), _, c5_comes hK ha (sb_srt_all hc) hk' (hn _ hmid) hv ho, ?_⟩
        by_cases hp : ah ke v o (nm ((lo + hi) / 2)) = true
        · rw [if_pos hp]
          have := ih ((lo + hi) / 2 + 1) hi (c + 1) _ ⟨by omega, by omega⟩ h2 hR' hk' hn hb up2_s
          rw [up2_2] at this
          exact bz_y hp this
        · rw [if_neg hp]
          have := ih lo ((lo + hi) / 2) (c + 1) _ ⟨by omega, by omega⟩ (by omega) hR' hk' hn hb up2_s
          rw [up2_2] at this
          exact bz_n hp this
    · rw [if_neg hl]
      refine wX4_placeFor_8 hK ha hc (bt ?_ ⟨rfl, ?_⟩)
      · rw [nI_le' (by omega) (by omega)]; omega
      · show up2 V b 8 (nI c) = V
        rw [← h8, up2_self]
theorem c4_placeFor (hK : StK K) (ha : IsSt K b ci ky) (hc : ci ∈ [4, 6]) {v c : Nat} {o : Option Nat} (hv : v < 1000) (ho : ∀ u, o = some u → u < 100) (hR : RowC b m nm V) (hk : cKe ky nT ke V) (hn : ∀ i, i < m → nm i < nT) (hb : 96 ≤ b) (h8 : V b 8 = nI c) : Ev G (d + 1) mX4_placeFor 0 [(0, .ref b), (1, .int (nI v)), (2, .int (moI o))] (K, n, V, J, O) (some (.int (nI (bs (fun i => ah ke v o (nm i)) m 0 m c).1))) (K, n, up2 V b 8 (nI (bs (fun i => ah ke v o (nm i)) m 0 m c).2), J, O) := by
  refine wX4_placeFor_0 hK ha hc ?_
  rw [hR.2.1]
  exact c4_pf8 hK ha hc hv ho m 0 m c V ⟨by omega, by omega⟩ (Nat.le_refl _) hR hk hn hb h8
/-! the reference -/
theorem ix80 (a i : Nat) : (80 : Int32) * nI a + nI i = nI (80 * a + i) := by
  rw [show (80 : Int32) = nI 80 from rfl, nI_mul, nI_add]
theorem c12_po11 (hK : StK K) {v : Nat} {o : Option Nat} (hv : v < 1000) (ho : ∀ u, o = some u → u < 100) : ∀ (f lo hi c : Nat) (V : SV), hi - lo ≤ f ∧ lo ≤ hi → hi ≤ m → RowM s m nm V → mKe s ky nT ke V → (∀ i, i < m → nm i < nT) → V 57 32 = nI c → Ev G (d + 2) mX12_placeOf 11 [(0, .ref 57), (1, .int (nI s)), (2, .int (nI v)), (3, .int (moI o)), (4, .int (nI lo)), (5, .int (nI hi))] (K, n, V, J, O) (some (.int (nI (bs (fun i => ah ke v o (nm i)) f lo hi c).1))) (K, n, up2 V 57 32 (nI (bs (fun i => ah ke v o (nm i)) f lo hi c).2), J, O) := by
  intro f
  induction f with
  | zero =>
    intro lo hi c V h1 h2 hR hk hn h8
    have h80 := hR.1
    refine wX12_placeOf_11 hK (bt ?_ ⟨rfl, ?_⟩)
    · rw [nI_le' (by omega) (by omega)]; omega
    · show up2 V 57 32 (nI c) = V
      rw [← h8, up2_self]
  | succ f ih =>
    intro lo hi c V h1 h2 hR hk hn h8
    have h80 := hR.1
    have hs := hk.1
    unfold bs
    by_cases hl : lo < hi
    · rw [if_pos hl]
      have hmid : (lo + hi) / 2 < m := by omega
      have hR' : RowM s m nm (up2 V 57 32 (nI (c + 1))) := ⟨hR.1, by rw [up2_a (by decide)]; exact hR.2.1, fun i hi => by rw [up2_a (by decide)]; exact hR.2.2 i hi⟩
      have hk' : mKe s ky nT ke (up2 V 57 32 (nI (c + 1))) := ⟨hk.1, hk.2.1, hk.2.2.1, by rw [up2_a (by decide)]; exact hk.2.2.2.1, fun t ht => by rw [up2_a (by decide)]; exact hk.2.2.2.2 t ht⟩
      refine wX12_placeOf_11 hK (bf ?_ ?_)
      · rw [nI_le' (by omega) (by omega)]; omega
      · rw [half_n (by omega), ix80, nI_c (show 80 * s + (lo + hi) / 2 < 100000 by omega), h8, nI_1, nI_1, (hR.2.2 _ hmid).1]
        refine ⟨nI_v (by omega) (by omega), _, c12_isAhead hK hk' (hn _ hmid) hv ho, ?_⟩
        by_cases hp : ah ke v o (nm ((lo + hi) / 2)) = true
        · rw [if_pos hp]
          have := ih ((lo + hi) / 2 + 1) hi (c + 1) _ ⟨by omega, by omega⟩ h2 hR' hk' hn up2_s
          rw [up2_2] at this
          exact bz_y hp this
        · rw [if_neg hp]
          have := ih lo ((lo + hi) / 2) (c + 1) _ ⟨by omega, by omega⟩ (by omega) hR' hk' hn up2_s
          rw [up2_2] at this
          exact bz_n hp this
    · rw [if_neg hl]
      refine wX12_placeOf_11 hK (bt ?_ ⟨rfl, ?_⟩)
      · rw [nI_le' (by omega) (by omega)]; omega
      · show up2 V 57 32 (nI c) = V
        rw [← h8, up2_self]
theorem c12_placeOf (hK : StK K) {v c : Nat} {o : Option Nat} (hv : v < 1000) (ho : ∀ u, o = some u → u < 100) (hR : RowM s m nm V) (hk : mKe s ky nT ke V) (hn : ∀ i, i < m → nm i < nT) (h8 : V 57 32 = nI c) : Ev G (d + 2) mX12_placeOf 0 [(0, .ref 57), (1, .int (nI s)), (2, .int (nI v)), (3, .int (moI o))] (K, n, V, J, O) (some (.int (nI (bs (fun i => ah ke v o (nm i)) m 0 m c).1))) (K, n, up2 V 57 32 (nI (bs (fun i => ah ke v o (nm i)) m 0 m c).2), J, O) := by
  have hs := hk.1
  refine wX12_placeOf_0 hK ⟨nI_v hs (by omega), ?_⟩
  rw [nI_c (show s < 100000 by omega), hR.2.1]
  exact c12_po11 hK hv ho m 0 m c V ⟨by omega, by omega⟩ (Nat.le_refl _) hR hk hn h8
theorem c12_ins8 (hK : StK K) (hs : s < 10) {p t : Nat} (ht : t < 80) (hm : m < 80) (hnm : ∀ i, i < m → nm i < 80) : ∀ (k : Nat) (V : SV), p + k ≤ m → V 73 s = nI m → (∀ i, i < p + k → V 72 (80 * s + i) = nI (nm i)) → (∀ i, p + k < i → i ≤ m → V 72 (80 * s + i) = nI (nm (i - 1))) → ∃ V', Ev G d mX12_insert 8 [(0, .ref 57), (1, .int (nI s)), (2, .int (nI p)), (3, .int (nI t)), (4, .int (nI (p + k)))] (K, n, V, J, O) none (K, n, V', J, O) ∧ RowM s (m + 1) (insF nm p t) V' ∧ fr (fun a k => (a = 72 ∧ 80 * s ≤ k ∧ k < 80 * s + 80) ∨ (a = 73 ∧ k = s)) V V' := by
  intro k
  induction k with
  | zero =>
    intro V hk h73 h1 h2
    refine ⟨up2 (up2 V 72 (80 * s + p) (nI t)) 73 s (nI (m + 1)), wX12_insert_8 hK (bt (by rw [nI_le' (by omega) (by omega)]; omega) ?_), ⟨by omega, up2_s, fun i hi => ?_⟩, fr_up (fr_up fr_rfl (Or.inl (by omega))) (Or.inr ⟨rfl, rfl⟩)⟩
    · rw [ix80, nI_c (show 80 * s + p < 100000 by omega), nI_c (show s < 100000 by omega), h73, nI_1]
      exact ⟨nI_v (by omega) (by omega), nI_v (by omega) (by omega), nI_v (by omega) (by omega), rfl, rfl⟩
    · rw [up2_a (by decide)]
      unfold insF
      by_cases e : i = p
      · subst e
        rw [up2_s]
        simp [ht]
      · rw [up2_k (by omega)]
        by_cases e2 : i < p
        · rw [if_pos e2]
          exact ⟨h1 i (by omega), hnm i (by omega)⟩
        · rw [if_neg e2, if_neg e]
          exact ⟨h2 i (by omega) (by omega), hnm (i - 1) (by omega)⟩
  | succ k ih =>
    intro V hk h73 h1 h2
    obtain ⟨V', z1, z2, z3⟩ := ih (up2 V 72 (80 * s + (p + (k + 1))) (nI (nm (p + k)))) (by omega) (by rw [up2_a (by decide)]; exact h73) (fun i hi => by rw [up2_k (by omega)]; exact h1 i (by omega)) (fun i hi hi2 => by
      by_cases e : i = p + (k + 1)
      · subst e
        rw [up2_s, show p + (k + 1) - 1 = p + k by omega]
      · rw [up2_k (by omega)]
        exact h2 i (by omega) hi2)
    refine ⟨V', wX12_insert_8 hK (bf (by rw [nI_le' (by omega) (by omega)]; omega) ?_), z2, fr_mo (fr_tr (fr_up (P := fun a k => (a = 72 ∧ 80 * s ≤ k ∧ k < 80 * s + 80) ∨ (a = 73 ∧ k = s)) fr_rfl (Or.inl (by omega))) z3) (fun a k q => by omega)⟩
    have e9 : nI (p + (k + 1)) + (-1) = nI (p + k) := pk_m1 (p + k)
    rw [ix80, e9, show nI (80 * s + (p + (k + 1))) - 1 = nI (80 * s + (p + k)) from by rw [show (1 : Int32) = nI 1 from rfl, nI_s (by omega)]; congr 1, nI_c (show 80 * s + (p + (k + 1)) < 100000 by omega), nI_c (show 80 * s + (p + k) < 100000 by omega), h1 (p + k) (by omega)]
    exact ⟨nI_v (by omega) (by omega), nI_v (by omega) (by omega), z1⟩
theorem c12_insert (hK : StK K) (hs : s < 10) (hR : RowM s m nm V) {p t : Nat} (hp : p ≤ m) (hm : m < 80) (ht : t < 80) : ∃ V', Ev G d mX12_insert 0 [(0, .ref 57), (1, .int (nI s)), (2, .int (nI p)), (3, .int (nI t))] (K, n, V, J, O) none (K, n, V', J, O) ∧ RowM s (m + 1) (insF nm p t) V' ∧ fr (fun a k => (a = 72 ∧ 80 * s ≤ k ∧ k < 80 * s + 80) ∨ (a = 73 ∧ k = s)) V V' := by
  obtain ⟨V', z1, z2, z3⟩ := c12_ins8 (G := G) (d := d) (n := n) (J := J) (O := O) (nm := nm) (p := p) hK hs ht hm (fun i hi => (hR.2.2 i hi).2) (m - p) V (by omega) hR.2.1 (fun i hi => (hR.2.2 i (by omega)).1) (fun i h1 h2 => by omega)
  refine ⟨V', wX12_insert_0 hK ⟨nI_v hs (by omega), ?_⟩, z2, z3⟩
  rw [nI_c (show s < 100000 by omega), hR.2.1]
  rw [show p + (m - p) = m by omega] at z1
  exact z1
theorem c12_rem12 (hK : StK K) (hs : s < 10) {p : Nat} (hm : m ≤ 80) (hnm : ∀ i, i < m → nm i < 80) {x2 : Int32} (hp : p < m) : ∀ (k i : Nat) (V : SV), i + k = m - 1 → p ≤ i → V 73 s = nI (m - 1) → (∀ j, j < i → V 72 (80 * s + j) = nI (remF nm p j)) → (∀ j, i ≤ j → j < m → V 72 (80 * s + j) = nI (nm j)) → ∃ V', Ev G d mX12_remove 12 [(0, .ref 57), (1, .int (nI s)), (2, .int x2), (3, .int (nI i))] (K, n, V, J, O) none (K, n, V', J, O) ∧ RowM s (m - 1) (remF nm p) V' ∧ fr (fun a k => (a = 72 ∧ 80 * s ≤ k ∧ k < 80 * s + 80) ∨ (a = 73 ∧ k = s)) V V' := by
  intro k
  have hrem : ∀ j, j < m - 1 → remF nm p j < 80 := fun j hj => by
    unfold remF
    split
    · exact hnm j (by omega)
    · exact hnm (j + 1) (by omega)
  induction k with
  | zero =>
    intro i V e hi h73 h1 h2
    refine ⟨V, wX12_remove_12 hK ⟨nI_v hs (by omega), bt ?_ ⟨rfl, rfl⟩⟩, ⟨by omega, h73, fun j hj => ⟨h1 j (by omega), hrem j hj⟩⟩, fr_rfl⟩
    rw [nI_c (show s < 100000 by omega), h73, nI_le' (by omega) (by omega)]
    omega
  | succ k ih =>
    intro i V e hi h73 h1 h2
    obtain ⟨V', z1, z2, z3⟩ := ih (i + 1) (up2 V 72 (80 * s + i) (nI (nm (i + 1)))) (by omega) (by omega) (by rw [up2_a (by decide)]; exact h73) (fun j hj => by
      by_cases e2 : j = i
      · subst e2
        rw [up2_s]
        unfold remF
        rw [if_neg (by omega)]
      · rw [up2_k (by omega)]
        exact h1 j (by omega)) (fun j hj hj2 => by rw [up2_k (by omega)]; exact h2 j (by omega) hj2)
    refine ⟨V', wX12_remove_12 hK ⟨nI_v hs (by omega), bf ?_ ?_⟩, z2, fr_mo (fr_tr (fr_up (P := fun a k => (a = 72 ∧ 80 * s ≤ k ∧ k < 80 * s + 80) ∨ (a = 73 ∧ k = s)) fr_rfl (Or.inl (by omega))) z3) (fun a k q => by omega)⟩
    · rw [nI_c (show s < 100000 by omega), h73, nI_le' (by omega) (by omega)]
      omega
    · rw [ix80, nI_1, nI_1, nI_c (show 80 * s + i < 100000 by omega), nI_c (show 80 * s + i + 1 < 100000 by omega), show 80 * s + i + 1 = 80 * s + (i + 1) by omega, h2 (i + 1) (by omega) (by omega)]
      exact ⟨nI_v (by omega) (by omega), nI_v (by omega) (by omega), z1⟩
theorem c12_remove (hK : StK K) (hs : s < 10) (hR : RowM s m nm V) {p : Nat} (hp : p < m) : ∃ V', Ev G d mX12_remove 0 [(0, .ref 57), (1, .int (nI s)), (2, .int (nI p))] (K, n, V, J, O) none (K, n, V', J, O) ∧ RowM s (m - 1) (remF nm p) V' ∧ fr (fun a k => (a = 72 ∧ 80 * s ≤ k ∧ k < 80 * s + 80) ∨ (a = 73 ∧ k = s)) V V' := by
  have h80 := hR.1
  obtain ⟨V', z1, z2, z3⟩ := c12_rem12 (G := G) (d := d) (n := n) (J := J) (O := O) (nm := nm) (x2 := nI p) hK hs h80 (fun i hi => (hR.2.2 i hi).2) hp (m - 1 - p) p (up2 V 73 s (nI (m - 1))) (by omega) (Nat.le_refl _) up2_s (fun j hj => by
    rw [up2_a (by decide), (hR.2.2 j (by omega)).1]
    unfold remF
    rw [if_pos hj]) (fun j h1 h2 => by rw [up2_a (by decide)]; exact (hR.2.2 j h2).1)
  refine ⟨V', wX12_remove_0 hK ⟨nI_v hs (by omega), nI_v hs (by omega), ?_⟩, z2, fr_mo (fr_tr (fr_up (P := fun a k => (a = 72 ∧ 80 * s ≤ k ∧ k < 80 * s + 80) ∨ (a = 73 ∧ k = s)) fr_rfl (Or.inr ⟨rfl, rfl⟩)) z3) (fun a k q => by omega)⟩
  rw [nI_c (show s < 100000 by omega), hR.2.1, show nI m - 1 = nI (m - 1) from by rw [show (1 : Int32) = nI 1 from rfl, nI_s (by omega)]]
  exact z1
theorem c12_placeIn2 (hK : StK K) (hs : s < 10) (hR : RowM s m nm V) {t q : Nat} (ht : t < 80) (hq : q < m) (hqt : nm q = t) : ∀ (k i : Nat), i + k = m → i ≤ q → Ev G d mX12_placeIn 2 [(0, .ref 57), (1, .int (nI s)), (2, .int (nI t)), (3, .int (nI i))] (K, n, V, J, O) (some (.int (nI (ffst (fun q => nm q == t) k i)))) (K, n, V, J, O)
  | 0, i, e, h => absurd hq (by omega)
  | k + 1, i, e, h => by
    have h80 := hR.1
    obtain ⟨e1, e2⟩ := hR.2.2 i (by omega)
    refine wX12_placeIn_2 hK ?_
    rw [ix80, nI_c (by omega), e1, nI_eq' (by omega) (by omega), nI_1, ffst_s]
    refine ⟨nI_v (by omega) (by omega), ?_⟩
    by_cases z : nm i = t
    · exact bt z (by simp [z])
    · have : i ≠ q := fun w => z (by rw [w]; exact hqt)
      exact bf z (by simpa [z] using c12_placeIn2 hK hs hR ht hq hqt k (i + 1) (by omega) (by omega))
theorem c12_placeIn (hK : StK K) (hs : s < 10) (hR : RowM s m nm V) {t q : Nat} (ht : t < 80) (hq : q < m) (hqt : nm q = t) : Ev G d mX12_placeIn 0 [(0, .ref 57), (1, .int (nI s)), (2, .int (nI t))] (K, n, V, J, O) (some (.int (nI (ffst (fun q => nm q == t) m 0)))) (K, n, V, J, O) := wX12_placeIn_0 hK (c12_placeIn2 hK hs hR ht hq hqt m 0 (by omega) (Nat.zero_le _))
end
