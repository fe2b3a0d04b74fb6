/-! ===== shelves ===== -/
/-- what a shelf holds: nothing; a stone; a row of a sort, its size -/
abbrev SHT : Type := Option (Nat ⊕ (Nat × Nat))
def shOK (nS : Nat) (ad : Nat → Nat) (i : Nat) (s : SHT) (V : SV) (O : SO) : Prop := match s with
  | none => O 47 i = none ∧ V 48 i = -1 ∧ V 92 i = -1
  | some (.inl a) => a < nS ∧ O 47 i = some (ad a) ∧ V 48 i = -1 ∧ V 92 i = nI a
  | some (.inr (so, m)) => (so < 5 ∧ m ≤ 60) ∧ O 47 i = none ∧ V 48 i = nI so ∧ V 49 i = nI m ∧ V 92 i = nI (10 + so) ∧ V 93 i = nI m
def JR (J : SJV) : Prop := ∀ i j, i < 6 → j < 60 → J (50 + 1 + i) j = J 94 (60 * i + j)
def ShR (nS : Nat) (ad : Nat → Nat) (sh : Nat → SHT) (V : SV) (J : SJV) (O : SO) : Prop := nS ≤ 10 ∧ JR J ∧ ∀ i, i < 6 → shOK nS ad i (sh i) V O
theorem ix60 (a i : Nat) : (60 : Int32) * nI a + nI i = nI (60 * a + i) := by
  rw [show (60 : Int32) = nI 60 from rfl, nI_mul, nI_add]
theorem ix60' (a : Nat) : (60 : Int32) * nI a = nI (60 * a) := by
  rw [show (60 : Int32) = nI 60 from rfl, nI_mul]
theorem nI_n1 {a : Nat} (h : a < 100000) : nI a ≠ -1 := nI_nm1 h
/-- why not: at place y of a shelf -/
def rfI (s : SHT) (y : Int32) : Int32 := match s with
  | none => -11
  | some (.inl _) => -12
  | some (.inr (_, m)) => if 0 ≤ y ∧ y < nI m then 0 else -13
section
variable {G : Gp} {d : Nat} {K : SK} {n : Nat × Nat} {V V' : SV} {J J' : SJV} {O O' : SO} {r : Option Value}
variable {nS nT i : Nat} {ad kd ky : Nat → Nat} {fl : Nat → Nat → Nat} {ins : Nat → Bool} {x : Nat → SX} {sh : Nat → SHT} {y : Int32}
theorem c11_holdsNothing (hK : StK K) (hS : StR nS nT ad kd ky fl ins K O x V) (h : ShR nS ad sh V J O) (hi : i < 6) : Ev G d mX11_holdsNothing 0 [(0, .ref 0), (1, .int (nI i))] (K, n, V, J, O) (some (.int (bI (sh i = none)))) (K, n, V, J, O) := by
  have hv : vp_in (nI i) 6 := nI_v hi (by omega)
  have ho := h.2.2 i hi
  refine wX11_holdsNothing_0 hK ⟨hv, ?_⟩
  rw [nI_c (by omega)]
  cases e : sh i with
  | none =>
    rw [e] at ho
    refine Or.inl ⟨ho.1, hv, ?_⟩
    rw [ho.2.1]
    exact nf rfl (si_t rfl)
  | some s =>
    rw [e] at ho
    cases s with
    | inl a =>
      obtain ⟨h1, h2, h3, h4⟩ := ho
      obtain ⟨⟨⟨h96, hkd, hky⟩, hO, hIs⟩, -⟩ := hS.2.1 a h1
      exact Or.inr ⟨ad a, kc (kd a), ky a, h2, hIs, kc_in hkd, si_f (by simp)⟩
    | inr p =>
      obtain ⟨h1, h2, h3, h4⟩ := ho
      refine Or.inl ⟨h2, hv, ?_⟩
      rw [h3]
      exact nt (nI_n1 (by omega)) (si_f (by simp))
theorem c11_hasPlaces (hK : StK K) {m l : Nat} (hi : i < 6) (h49 : V 49 i = nI m) (hm : m ≤ 60) (hl : l < 1000) : Ev G d mX11_hasPlaces 0 [(0, .ref 0), (1, .int (nI i)), (2, .int y), (3, .int (nI l))] (K, n, V, J, O) (some (.int (bI (l ≤ m ∧ 0 ≤ y ∧ y ≤ nI (m - l))))) (K, n, V, J, O) := by
  have hv : vp_in (nI i) 6 := nI_v hi (by omega)
  refine wX11_hasPlaces_0 hK ?_
  by_cases c1 : y < 0
  · exact bt c1 (si_f (fun z => Int32.not_le.mpr c1 z.2.1))
  · refine bf c1 (bf (nI_pos (by omega)) ⟨hv, ?_⟩)
    rw [nI_c (by omega), h49, nI_l' (by omega) (by omega)]
    by_cases c2 : m < l
    · exact bt c2 (si_f (fun z => by omega))
    · refine bf c2 ⟨hv, ?_⟩
      rw [nI_s (by omega)]
      by_cases c3 : nI (m - l) < y
      · exact bt c3 (si_f (fun z => Int32.not_le.mpr c3 z.2.2))
      · exact bf c3 (si_t ⟨by omega, Int32.not_lt.mp c1, Int32.not_lt.mp c3⟩)
theorem lt_le1 {m : Nat} (hm : 1 ≤ m) (h : m < 100000) : (y ≤ nI (m - 1)) = (y < nI m) := by
  rw [Int32.le_iff_toInt_le, Int32.lt_iff_toInt_lt, nI_ti (by omega), nI_ti h]
  apply propext
  omega
theorem c11_refusal (hK : StK K) (hS : StR nS nT ad kd ky fl ins K O x V) (h : ShR nS ad sh V J O) (hi : i < 6) : Ev G (d + 2) mX11_refusalAt 0 [(0, .ref 0), (1, .int (nI i)), (2, .int y)] (K, n, V, J, O) (some (.int (rfI (sh i) y))) (K, n, V, J, O) := by
  have hv : vp_in (nI i) 6 := nI_v hi (by omega)
  have ho := h.2.2 i hi
  have w1 : Ev G (d + 1) mX11_isShelf 0 [(0, .int (nI i))] (K, n, V, J, O) (some (.int 1)) (K, n, V, J, O) := ev_b (c11_isShelf hK) ((btw_iff (N := 5) (by decide)).mpr ⟨i, by omega, rfl⟩)
  have w2 := c11_holdsNothing (G := G) (d := d + 1) (n := n) (J := J) hK hS h hi
  refine wX11_refusalAt_0 hK ⟨_, w1, nt one0 ⟨_, w2, ?_⟩⟩
  rw [nI_c (by omega)]
  cases e : sh i with
  | none => exact bz_y rfl rfl
  | some s =>
    rw [e] at ho
    refine bz_n (by simp) ⟨hv, ?_⟩
    cases s with
    | inl a =>
      rw [ho.2.2.1]
      exact nf rfl rfl
    | inr p =>
      obtain ⟨⟨h1, h1'⟩, h2, h3, h4, h5⟩ := ho
      rw [h3]
      refine nt (nI_n1 (by omega)) ⟨_, c11_hasPlaces (l := 1) hK hi h4 h1' (by omega), ?_⟩
      show _ ∧ _
      unfold rfI
      dsimp only
      by_cases c : 1 ≤ p.2 ∧ 0 ≤ y ∧ y ≤ nI (p.2 - 1)
      · have c' : 0 ≤ y ∧ y < nI p.2 := ⟨c.2.1, by rw [← lt_le1 c.1 (by omega)]; exact c.2.2⟩
        rw [if_pos c']
        exact bz_y c rfl
      · have c' : ¬ (0 ≤ y ∧ y < nI p.2) := fun z => by
          apply c
          have hm1 : 1 ≤ p.2 := by
            apply Classical.byContradiction
            intro q
            have e0 : p.2 = 0 := by omega
            rw [e0] at z
            have := Int32.lt_of_le_of_lt z.1 z.2
            exact absurd this (by decide)
          exact ⟨hm1, z.1, by rw [lt_le1 hm1 (by omega)]; exact z.2⟩
        rw [if_neg c']
        exact bz_n c rfl
theorem c12_refusal (hK : StK K) (h : ShR nS ad sh V J O) (hi : i < 6) : Ev G (d + 2) mX12_refusal 0 [(0, .ref 57), (1, .int (nI i)), (2, .int y)] (K, n, V, J, O) (some (.int (rfI (sh i) y))) (K, n, V, J, O) := by
  have hv : vp_in (nI i) 6 := nI_v hi (by omega)
  have ho := h.2.2 i hi
  have h10 := h.1
  have w1 : Ev G (d + 1) mX12_isShelf 0 [(0, .int (nI i))] (K, n, V, J, O) (some (.int 1)) (K, n, V, J, O) := ev_b (c12_isShelf hK) ((btw_iff (N := 5) (by decide)).mpr ⟨i, by omega, rfl⟩)
  refine wX12_refusal_0 hK ⟨_, w1, nt one0 ⟨hv, ?_⟩⟩
  rw [nI_c (by omega)]
  cases e : sh i with
  | none =>
    rw [e] at ho
    rw [ho.2.2]
    exact bf (by decide) rfl
  | some s =>
    rw [e] at ho
    cases s with
    | inl a =>
      rw [ho.2.2.2]
      have ha := ho.1
      refine bt (nI_pos' (by omega)) ⟨hv, bf ?_ rfl⟩
      show ¬ nI 10 ≤ nI a
      rw [nI_le' (by omega) (by omega)]
      omega
    | inr p =>
      obtain ⟨⟨h1, h1'⟩, h2, h3, h4, h5, h6⟩ := ho
      rw [h5, h6]
      refine bt (nI_pos' (by omega)) ⟨hv, bt ?_ ?_⟩
      · show nI 10 ≤ nI (10 + p.1)
        rw [nI_le' (by omega) (by omega)]
        omega
      · show _ ∧ _
        unfold rfI
        dsimp only
        by_cases c1 : y < 0
        · rw [if_neg (fun z => Int32.not_le.mpr c1 z.1)]
          exact bt c1 rfl
        · refine bf c1 ⟨hv, ?_⟩
          by_cases c2 : nI p.2 ≤ y
          · rw [if_neg (fun z => Int32.not_lt.mpr c2 z.2)]
            exact bt c2 rfl
          · rw [if_pos ⟨Int32.not_lt.mp c1, Int32.not_le.mp c2⟩]
            exact bf c2 rfl
theorem rf_0 {s : SHT} (h : rfI s y = 0) : ∃ so m j, s = some (.inr (so, m)) ∧ j < m ∧ y = nI j ∨ ∃ so m, s = some (.inr (so, m)) ∧ 100000 ≤ m := by
  cases s with
  | none => exact absurd (show (-11 : Int32) = 0 from h) (by decide)
  | some s =>
    cases s with
    | inl a => exact absurd (show (-12 : Int32) = 0 from h) (by decide)
    | inr p =>
      unfold rfI at h
      dsimp only at h
      by_cases c : 0 ≤ y ∧ y < nI p.2
      · by_cases hm : p.2 < 100000
        · obtain ⟨j, hj, e⟩ := (lt_iff hm).mp c
          exact ⟨p.1, p.2, j, Or.inl ⟨rfl, hj, e⟩⟩
        · exact ⟨p.1, p.2, 0, Or.inr ⟨p.1, p.2, rfl, by omega⟩⟩
      · rw [if_neg c] at h
        exact absurd (show (-13 : Int32) = 0 from h) (by decide)
theorem rf_row {s : SHT} (h : rfI s y = 0) (hs : shOK nS ad i s V O) : ∃ so m j, s = some (.inr (so, m)) ∧ j < m ∧ y = nI j := by
  obtain ⟨so, m, j, h1 | ⟨so', m', h1, h2⟩⟩ := rf_0 h
  · exact ⟨so, m, j, h1⟩
  · rw [h1] at hs
    have := hs.1.2
    omega
/-- shelves of another number -/
theorem noShelf {x1 : Int32} (hK : StK K) (h : ¬ ∃ k, k ≤ 5 ∧ x1 = nI k) : Ev G (d + 1) mX11_isShelf 0 [(0, .int x1)] (K, n, V, J, O) (some (.int 0)) (K, n, V, J, O) ∧ Ev G (d + 1) mX12_isShelf 0 [(0, .int x1)] (K, n, V, J, O) (some (.int 0)) (K, n, V, J, O) := ⟨ev_n (c11_isShelf hK) (fun q => h ((btw_iff (N := 5) (by decide)).mp q)), ev_n (c12_isShelf hK) (fun q => h ((btw_iff (N := 5) (by decide)).mp q))⟩
theorem yesShelf (hK : StK K) (h : i < 6) : Ev G (d + 1) mX11_isShelf 0 [(0, .int (nI i))] (K, n, V, J, O) (some (.int 1)) (K, n, V, J, O) ∧ Ev G (d + 1) mX12_isShelf 0 [(0, .int (nI i))] (K, n, V, J, O) (some (.int 1)) (K, n, V, J, O) := ⟨ev_b (c11_isShelf hK) ((btw_iff (N := 5) (by decide)).mpr ⟨i, by omega, rfl⟩), ev_b (c12_isShelf hK) ((btw_iff (N := 5) (by decide)).mpr ⟨i, by omega, rfl⟩)⟩
theorem p_element (hK : StK K) (hS : StR nS nT ad kd ky fl ins K O x V) (h : ShR nS ad sh V J O) {x1 x2 : Int32} : ∃ r : Int64, Ev G (d + 3) mX11_element 0 [(0, .ref 0), (1, .int x1), (2, .int x2)] (K, n, V, J, O) (some (.long r)) (K, n, V, J, O) ∧ Ev G (d + 3) mX12_element 0 [(0, .ref 57), (1, .int x1), (2, .int x2)] (K, n, V, J, O) (some (.long r)) (K, n, V, J, O) := by
  by_cases h1 : ∃ k, k ≤ 5 ∧ x1 = nI k
  · obtain ⟨i, hi, rfl⟩ := h1
    have hi6 : i < 6 := by omega
    have e1 := c11_refusal (G := G) (d := d) (n := n) (y := x2) hK hS h hi6
    have e2 := c12_refusal (G := G) (d := d) (n := n) (y := x2) hK h hi6
    by_cases c : rfI (sh i) x2 = 0
    · obtain ⟨so, m, j, es, hj, rfl⟩ := rf_row c (h.2.2 i hi6)
      have hm := h.2.2 i hi6
      rw [es] at hm
      have hm60 := hm.1.2
      refine ⟨J 94 (60 * i + j), wX11_element_0 hK ⟨_, e1, bt c ⟨nI_v hi6 (by omega), nI_v (by omega) (by omega), ?_⟩⟩, wX12_element_0 hK ⟨_, e2, bt c ⟨?_, ?_⟩⟩⟩
      · rw [nI_c (by omega), nI_c (by omega), h.2.1 i j hi6 (by omega)]
      · rw [ix60]
        exact nI_v (by omega) (by omega)
      · rw [ix60, nI_c (by omega)]
    · exact ⟨_, wX11_element_0 hK ⟨_, e1, bf c rfl⟩, wX12_element_0 hK ⟨_, e2, bf c rfl⟩⟩
  · obtain ⟨n1, n2⟩ := noShelf (G := G) (d := d) (n := n) (V := V) (J := J) (O := O) hK h1
    exact ⟨_, wX11_element_0 hK ⟨-1, wX11_refusalAt_0 hK ⟨_, n1, nf rfl rfl⟩, bf (by decide) rfl⟩, wX12_element_0 hK ⟨-1, wX12_refusal_0 hK ⟨_, n2, nf rfl rfl⟩, bf (by decide) rfl⟩⟩
def cutJ (so : Nat) (v : Int64) : Int64 := match so with
  | 0 => ((v.toInt32).toInt8.toInt32).toInt64
  | 1 => ((v.toInt32).toInt16.toInt32).toInt64
  | 2 => (v.toInt32).toInt64
  | 3 => v
  | _ => if lg_cmp v (0 : Int64) = 0 then 0 else 1
theorem c11_cut (hK : StK K) {so : Nat} (hso : so < 5) {v : Int64} : Ev G d mX11_cut 0 [(0, .int (nI so)), (1, .long v)] (K, n, V, J, O) (some (.long (cutJ so v))) (K, n, V, J, O) := by
  refine wX11_cut_0 hK ?_
  rcases (show so = 0 ∨ so = 1 ∨ so = 2 ∨ so = 3 ∨ so = 4 by omega) with rfl | rfl | rfl | rfl | rfl
  · exact ⟨fun _ => rfl, fun e => absurd e (by decide), fun e => absurd e (by decide), fun e => absurd e (by decide), fun e => absurd rfl e.1⟩
  · exact ⟨fun e => absurd e (by decide), fun _ => rfl, fun e => absurd e (by decide), fun e => absurd e (by decide), fun e => absurd rfl e.2.1⟩
  · exact ⟨fun e => absurd e (by decide), fun e => absurd e (by decide), fun _ => rfl, fun e => absurd e (by decide), fun e => absurd rfl e.2.2.1⟩
  · exact ⟨fun e => absurd e (by decide), fun e => absurd e (by decide), fun e => absurd e (by decide), fun _ => rfl, fun e => absurd rfl e.2.2.2⟩
  · refine ⟨fun e => absurd e (by decide), fun e => absurd e (by decide), fun e => absurd e (by decide), fun e => absurd e (by decide), fun _ => ?_⟩
    show _ ∧ _
    by_cases c : lg_cmp v (0 : Int64) = 0
    · exact bt c (by rw [show cutJ 4 v = if lg_cmp v (0 : Int64) = 0 then 0 else 1 from rfl, if_pos c])
    · exact bf c (by rw [show cutJ 4 v = if lg_cmp v (0 : Int64) = 0 then 0 else 1 from rfl, if_neg c])
theorem c12_asSort (hK : StK K) {so : Nat} (hso : so < 5) {v : Int64} : Ev G d mX12_asSort 0 [(0, .int (nI so)), (1, .long v)] (K, n, V, J, O) (some (.long (cutJ so v))) (K, n, V, J, O) := by
  refine wX12_asSort_0 hK ?_
  rcases (show so = 0 ∨ so = 1 ∨ so = 2 ∨ so = 3 ∨ so = 4 by omega) with rfl | rfl | rfl | rfl | rfl
  · exact nf rfl rfl
  · exact nt (by decide) (nf rfl rfl)
  · exact nt (by decide) (nt (by decide) (nf rfl rfl))
  · exact nt (by decide) (nt (by decide) (nt (by decide) (nt (by decide) rfl)))
  · refine nt (by decide) (nt (by decide) (nt (by decide) (nf rfl ?_)))
    show _ ∧ _
    by_cases c : lg_cmp v (0 : Int64) = 0
    · exact bt c (by rw [show cutJ 4 v = if lg_cmp v (0 : Int64) = 0 then 0 else 1 from rfl, if_pos c])
    · exact bf c (by rw [show cutJ 4 v = if lg_cmp v (0 : Int64) = 0 then 0 else 1 from rfl, if_neg c])
theorem JR_set (h : JR J) {i j : Nat} (hi : i < 6) (hj : j < 60) {v : Int64} : JR (up2 (up2 J (50 + 1 + i) j v) 94 (60 * i + j) v) := by
  intro a b ha hb
  rw [up2_a (by omega)]
  by_cases ea : a = i
  · by_cases eb : b = j
    · rw [ea, eb, up2_s, up2_s]
    · rw [up2_k eb, up2_k (by omega), up2_a (by omega)]
      exact h a b ha hb
  · rw [up2_a (by omega), up2_k (by omega), up2_a (by omega)]
    exact h a b ha hb
theorem ShR_J (h : ShR nS ad sh V J O) (hJ : JR J') : ShR nS ad sh V J' O := ⟨h.1, hJ, h.2.2⟩
theorem p_set (hK : StK K) (hS : StR nS nT ad kd ky fl ins K O x V) (h : ShR nS ad sh V J O) {x1 x2 : Int32} {l3 : Int64} : ∃ (r : Int32) (J1 J2 : SJV), Ev G (d + 3) mX11_set 0 [(0, .ref 0), (1, .int x1), (2, .int x2), (3, .long l3)] (K, n, V, J, O) (some (.int r)) (K, n, V, J1, O) ∧ Ev G (d + 3) mX12_set 0 [(0, .ref 57), (1, .int x1), (2, .int x2), (3, .long l3)] (K, n, V, J1, O) (some (.int r)) (K, n, V, J2, O) ∧ ShR nS ad sh V J2 O := by
  by_cases h1 : ∃ k, k ≤ 5 ∧ x1 = nI k
  · obtain ⟨i, hi, rfl⟩ := h1
    have hi6 : i < 6 := by omega
    have hv : vp_in (nI i) 6 := nI_v hi6 (by omega)
    have hci : (nI i).toNatClampNeg = i := nI_c (by omega)
    have e1 := c11_refusal (G := G) (d := d) (n := n) (y := x2) hK hS h hi6
    by_cases c : rfI (sh i) x2 = 0
    · obtain ⟨so, m, j, es, hj, rfl⟩ := rf_row c (h.2.2 i hi6)
      have hm := h.2.2 i hi6
      rw [es] at hm
      have hm60 := hm.1.2
      have hcj : (nI j).toNatClampNeg = j := nI_c (by omega)
      have hJ2 := JR_set (v := cutJ so l3) h.2.1 hi6 (show j < 60 by omega)
      have e2 : Ev G (d + 2) mX12_refusal 0 [(0, .ref 57), (1, .int (nI i)), (2, .int (nI j))] (K, n, V, up2 J (50 + 1 + i) j (cutJ so l3), O) (some (.int 0)) (K, n, V, up2 J (50 + 1 + i) j (cutJ so l3), O) := by
        obtain ⟨⟨q1, q1'⟩, q2, q3, q4, q5, q6⟩ := hm
        refine wX12_refusal_0 hK ⟨_, (yesShelf hK hi6).2, nt one0 ⟨hv, ?_⟩⟩
        rw [hci, q5, q6]
        refine bt (nI_pos' (by omega)) ⟨hv, bt ?_ (bf (nI_pos (by omega)) ⟨hv, bf ?_ rfl⟩)⟩
        · show nI 10 ≤ nI (10 + so)
          rw [nI_le' (by omega) (by omega)]
          omega
        · rw [nI_le' (by omega) (by omega)]
          omega
      refine ⟨1, _, _, wX11_set_0 hK ⟨_, e1, bt c ⟨hv, hv, cutJ so l3, ?_, nI_v (by omega) (by omega), rfl, by rw [hci, hcj]⟩⟩, wX12_set_0 hK ⟨_, e2, nf rfl ⟨hv, cutJ so l3, ?_, ?_, nf rfl ⟨rfl, rfl⟩⟩⟩, ?_⟩
      · rw [hci, hm.2.2.1]
        exact c11_cut hK hm.1.1
      · rw [hci, hm.2.2.2.2.1]
        rw [show nI (10 + so) - 10 = nI so from by rw [show (10 : Int32) = nI 10 from rfl, nI_s (by omega)]; congr 1; omega]
        exact c12_asSort hK hm.1.1
      · rw [ix60]
        exact nI_v (by omega) (by omega)
      · rw [ix60, nI_c (by omega)]
        exact ShR_J h hJ2
    · have e2 := c12_refusal (G := G) (d := d) (n := n) (y := x2) hK h hi6
      exact ⟨_, J, J, wX11_set_0 hK ⟨_, e1, bf c ⟨rfl, rfl⟩⟩, wX12_set_0 hK ⟨_, e2, nt c (nt c ⟨rfl, rfl⟩)⟩, h⟩
  · obtain ⟨n1, n2⟩ := noShelf (G := G) (d := d) (n := n) (V := V) (J := J) (O := O) hK h1
    exact ⟨-1, J, J, wX11_set_0 hK ⟨-1, wX11_refusalAt_0 hK ⟨_, n1, nf rfl rfl⟩, bf (by decide) ⟨rfl, rfl⟩⟩, wX12_set_0 hK ⟨-1, wX12_refusal_0 hK ⟨_, n2, nf rfl rfl⟩, nt (by decide) (nt (by decide) ⟨rfl, rfl⟩)⟩, h⟩
def shU (sh : Nat → SHT) (i : Nat) (s : SHT) : Nat → SHT := fun j => if j = i then s else sh j
theorem p_keep (hK : StK K) (hS : StR nS nT ad kd ky fl ins K O x V) (h : ShR nS ad sh V J O) {x1 x2 : Int32} : ∃ (r : Int32) (V1 V2 : SV) (O2 : SO) (sh' : Nat → SHT), Ev G (d + 3) mX11_keep 0 [(0, .ref 0), (1, .int x1), (2, .int x2)] (K, n, V, J, O) (some (.int r)) (K, n, V1, J, O2) ∧ Ev G (d + 3) mX12_keep 0 [(0, .ref 57), (1, .int x1), (2, .int x2)] (K, n, V1, J, O2) (some (.int r)) (K, n, V2, J, O2) ∧ fr (fun a _ => a = 48 ∨ a = 92 ∨ a = 93) V V2 ∧ (∀ a k, a ≠ 47 → O2 a k = O a k) ∧ ShR nS ad sh' V2 J O2 := by
  have hS10 := hS.1.1
  by_cases h1 : ∃ k, k ≤ 5 ∧ x1 = nI k
  · obtain ⟨i, hi, rfl⟩ := h1
    have hi6 : i < 6 := by omega
    have hv : vp_in (nI i) 6 := nI_v hi6 (by omega)
    have hci : (nI i).toNatClampNeg = i := nI_c (by omega)
    obtain ⟨w1, -⟩ := yesShelf (G := G) (d := d + 1) (n := n) (V := V) (J := J) (O := O) hK hi6
    have fin : ∀ (s : SHT) (o : Option Nat) (y : Int32), shOK nS ad i s (up2 (up2 (up2 V 48 i (-1)) 92 i y) 93 i 0) (up2 O 47 i o) → fr (fun a _ => a = 48 ∨ a = 92 ∨ a = 93) V (up2 (up2 (up2 V 48 i (-1)) 92 i y) 93 i 0) ∧ (∀ a k, a ≠ 47 → up2 O 47 i o a k = O a k) ∧ ShR nS ad (shU sh i s) (up2 (up2 (up2 V 48 i (-1)) 92 i y) 93 i 0) J (up2 O 47 i o) := fun s o y hs => by
      refine ⟨fr_up (fr_up (fr_up fr_rfl (Or.inl rfl)) (Or.inr (Or.inl rfl))) (Or.inr (Or.inr rfl)), fun a k ha => up2_a ha, h.1, h.2.1, fun j hj => ?_⟩
      unfold shU
      by_cases e : j = i
      · rw [if_pos e, e]
        exact hs
      · rw [if_neg e]
        have := h.2.2 j hj
        have g48 : up2 (up2 (up2 V 48 i (-1)) 92 i y) 93 i 0 48 j = V 48 j := by rw [up2_a (by decide), up2_a (by decide), up2_k e]
        have g49 : up2 (up2 (up2 V 48 i (-1)) 92 i y) 93 i 0 49 j = V 49 j := by rw [up2_a (by decide), up2_a (by decide), up2_a (by decide)]
        have g92 : up2 (up2 (up2 V 48 i (-1)) 92 i y) 93 i 0 92 j = V 92 j := by rw [up2_a (by decide), up2_k e, up2_a (by decide)]
        have g93 : up2 (up2 (up2 V 48 i (-1)) 92 i y) 93 i 0 93 j = V 93 j := by rw [up2_k e, up2_a (by decide), up2_a (by decide)]
        have gO : up2 O 47 i o 47 j = O 47 j := up2_k e
        unfold shOK at *
        rw [g48, g49, g92, g93, gO]
        exact this
    by_cases c : x2 = -1
    · subst c
      have hn : ¬ ∃ i, i < nS ∧ (-1 : Int32) = nI i := by
        rintro ⟨j, hj, e⟩
        exact nI_nm1 (by omega) e.symm
      obtain ⟨f1, f2, f3⟩ := fin none none (-1) ⟨up2_s, by rw [up2_a (by decide), up2_a (by decide), up2_s], by rw [up2_a (by decide), up2_s]⟩
      refine ⟨1, up2 V 48 i (-1), _, up2 O 47 i none, _, wX11_keep_0 hK ⟨_, w1, bf one0 (bt rfl ⟨_, c11_stoneNo hK hS hn, Or.inl ⟨rfl, hv, hv, rfl, by rw [hci], by rw [hci]⟩⟩)⟩, wX12_keep_0 hK ⟨_, (yesShelf hK hi6).2, bf one0 (bt rfl ⟨hv, hv, rfl, by rw [hci]⟩)⟩, f1, f2, f3⟩
    · by_cases h2 : ∃ a, a < nS ∧ x2 = nI a
      · obtain ⟨a, ha, rfl⟩ := h2
        obtain ⟨⟨⟨h96, hkd, hky⟩, hO, hIs⟩, -⟩ := hS.2.1 a ha
        have a1 := c11_stoneAt (G := G) (d := d + 1) (n := n) (J := J) hK hS ha
        have hs25 : Ev G (d + 2) mX12_isStone 0 [(0, .ref 57), (1, .int (nI a))] (K, n, up2 V 48 i (-1), J, up2 O 47 i (some (ad a))) (some (.int 1)) (K, n, up2 V 48 i (-1), J, up2 O 47 i (some (ad a))) := wX12_isStone_0 hK (bf (nI_pos (by omega)) (bf (by rw [up2_a (by decide), hS.1.2.2.2, nI_le' (by omega) (by omega)]; omega) rfl))
        obtain ⟨f1, f2, f3⟩ := fin (some (.inl a)) (some (ad a)) (nI a) ⟨ha, up2_s, by rw [up2_a (by decide), up2_a (by decide), up2_s], by rw [up2_a (by decide), up2_s]⟩
        exact ⟨1, up2 V 48 i (-1), _, up2 O 47 i (some (ad a)), _, wX11_keep_0 hK ⟨_, w1, bf one0 (bf c ⟨_, a1, Or.inr ⟨ad a, kc (kd a), ky a, rfl, hIs, kc_in hkd, _, a1, Or.inr ⟨ad a, kc (kd a), ky a, rfl, hIs, kc_in hkd, hv, hv, rfl, by rw [hci], by rw [hci]⟩⟩⟩)⟩, wX12_keep_0 hK ⟨_, (yesShelf hK hi6).2, bf one0 (bf c ⟨_, hs25, nt one0 ⟨hv, hv, rfl, by rw [hci]⟩⟩)⟩, f1, f2, f3⟩
      · exact ⟨-1, V, V, O, sh, wX11_keep_0 hK ⟨_, w1, bf one0 (bf c ⟨_, c11_stoneNo hK hS h2, Or.inl ⟨rfl, rfl, rfl, rfl⟩⟩)⟩, wX12_keep_0 hK ⟨_, (yesShelf hK hi6).2, bf one0 (bf c ⟨_, c12_isStoneNo hK hS h2, nf rfl ⟨rfl, rfl⟩⟩)⟩, fr_rfl, fun _ _ _ => rfl, h⟩
  · obtain ⟨n1, n2⟩ := noShelf (G := G) (d := d + 1) (n := n) (V := V) (J := J) (O := O) hK h1
    exact ⟨-1, V, V, O, sh, wX11_keep_0 hK ⟨_, n1, bt rfl ⟨rfl, rfl, rfl⟩⟩, wX12_keep_0 hK ⟨_, n2, bt rfl ⟨rfl, rfl⟩⟩, fr_rfl, fun _ _ _ => rfl, h⟩
end
