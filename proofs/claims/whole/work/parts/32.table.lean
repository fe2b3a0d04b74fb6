/-! ===== tables: the class's row by buckets, the reference's by coming; sums, bits ===== -/
def nmL (L : List Nat) : Nat → Nat := fun i => L.getD i 0
theorem nmL_l {A B : List Nat} {i : Nat} (h : i < A.length) : nmL (A ++ B) i = nmL A i := by
  simp [nmL, List.getD_eq_getElem?_getD, List.getElem?_append_left h]
theorem nmL_r {A B : List Nat} {i : Nat} (h : A.length ≤ i) : nmL (A ++ B) i = nmL B (i - A.length) := by
  simp [nmL, List.getD_eq_getElem?_getD, List.getElem?_append_right h]
theorem nmL_mem {L : List Nat} {i : Nat} (h : i < L.length) : nmL L i ∈ L := by
  have : nmL L i = L[i] := by simp [nmL, List.getD_eq_getElem?_getD, List.getElem?_eq_getElem h]
  rw [this]
  exact List.getElem_mem h
theorem nmL_ex {L : List Nat} {t : Nat} (h : t ∈ L) : ∃ i, i < L.length ∧ nmL L i = t := by
  obtain ⟨i, hi, e⟩ := List.getElem_of_mem h
  exact ⟨i, hi, by simp [nmL, List.getD_eq_getElem?_getD, List.getElem?_eq_getElem hi, e]⟩
theorem nmL_at {A B : List Nat} {t : Nat} : nmL (A ++ t :: B) A.length = t := by
  rw [nmL_r (Nat.le_refl _), Nat.sub_self]
  rfl
theorem insF_L {A B : List Nat} {t i : Nat} : insF (nmL (A ++ B)) A.length t i = nmL (A ++ t :: B) i := by
  unfold insF
  by_cases h1 : i < A.length
  · rw [if_pos h1, nmL_l h1, nmL_l h1]
  · rw [if_neg h1]
    by_cases h2 : i = A.length
    · rw [if_pos h2, h2, nmL_at]
    · rw [if_neg h2, nmL_r (by omega), nmL_r (by omega)]
      obtain ⟨k, hk⟩ : ∃ k, i - A.length = k + 1 := ⟨i - A.length - 1, by omega⟩
      rw [hk, show i - 1 - A.length = k by omega]
      simp [nmL]
theorem remF_L {A B : List Nat} {t i : Nat} : remF (nmL (A ++ t :: B)) A.length i = nmL (A ++ B) i := by
  unfold remF
  by_cases h1 : i < A.length
  · rw [if_pos h1, nmL_l h1, nmL_l h1]
  · rw [if_neg h1, nmL_r (by omega), nmL_r (by omega), show i + 1 - A.length = (i - A.length) + 1 by omega]
    simp [nmL]
def bk (ke : Nat → Nat) (t : Nat) : Nat := ke t % 8
def seg (ke : Nat → Nat) (L : List Nat) : Nat → Nat → List Nat
  | _, 0 => []
  | b, k + 1 => L.filter (fun t => bk ke t == b) ++ seg ke L (b + 1) k
/-- the class's row of a table with the names L -/
def CL (ke : Nat → Nat) (L : List Nat) : List Nat := seg ke L 0 8
theorem seg_app {ke : Nat → Nat} {L : List Nat} : ∀ {k l b : Nat}, seg ke L b (k + l) = seg ke L b k ++ seg ke L (b + k) l
  | 0, l, b => by simp [seg]
  | k + 1, l, b => by
    rw [show k + 1 + l = (k + l) + 1 by omega]
    show _ ++ seg ke L (b + 1) (k + l) = (_ ++ seg ke L (b + 1) k) ++ _
    rw [seg_app, List.append_assoc, show b + 1 + k = b + (k + 1) by omega]
theorem seg_mem {ke : Nat → Nat} {L : List Nat} {t : Nat} : ∀ {k b : Nat}, t ∈ seg ke L b k ↔ t ∈ L ∧ b ≤ bk ke t ∧ bk ke t < b + k
  | 0, b => by simp [seg]
  | k + 1, b => by
    show t ∈ _ ++ seg ke L (b + 1) k ↔ _
    rw [List.mem_append, seg_mem, List.mem_filter]
    simp only [beq_iff_eq]
    constructor
    · rintro (⟨h1, h2⟩ | ⟨h1, h2, h3⟩)
      · exact ⟨h1, by omega, by omega⟩
      · exact ⟨h1, by omega, by omega⟩
    · rintro ⟨h1, h2, h3⟩
      by_cases e : bk ke t = b
      · exact Or.inl ⟨h1, e⟩
      · exact Or.inr ⟨h1, by omega, by omega⟩
theorem seg_out {ke : Nat → Nat} {L1 L2 : List Nat} {t : Nat} : ∀ {k b : Nat}, (bk ke t < b ∨ b + k ≤ bk ke t) → seg ke (L1 ++ t :: L2) b k = seg ke (L1 ++ L2) b k
  | 0, b, h => rfl
  | k + 1, b, h => by
    show _ ++ seg ke (L1 ++ t :: L2) (b + 1) k = _ ++ seg ke (L1 ++ L2) (b + 1) k
    rw [seg_out (k := k) (b := b + 1) (by omega)]
    congr 1
    rw [List.filter_append, List.filter_append, List.filter_cons, if_neg (by simp; omega)]
theorem CL_split {ke : Nat → Nat} {L1 L2 : List Nat} {t : Nat} : CL ke (L1 ++ t :: L2) = (seg ke (L1 ++ L2) 0 (bk ke t) ++ L1.filter (fun u => bk ke u == bk ke t)) ++ t :: (L2.filter (fun u => bk ke u == bk ke t) ++ seg ke (L1 ++ L2) (bk ke t + 1) (7 - bk ke t)) ∧ CL ke (L1 ++ L2) = (seg ke (L1 ++ L2) 0 (bk ke t) ++ L1.filter (fun u => bk ke u == bk ke t)) ++ (L2.filter (fun u => bk ke u == bk ke t) ++ seg ke (L1 ++ L2) (bk ke t + 1) (7 - bk ke t)) := by
  have hb : bk ke t < 8 := Nat.mod_lt _ (by decide)
  constructor
  · unfold CL
    rw [show (8 : Nat) = bk ke t + (1 + (7 - bk ke t)) by omega, seg_app, Nat.zero_add, seg_out (by omega), show 1 + (7 - bk ke t) = (7 - bk ke t) + 1 by omega]
    show _ ++ (List.filter _ (L1 ++ t :: L2) ++ seg ke (L1 ++ t :: L2) (bk ke t + 1) (7 - bk ke t)) = _
    rw [seg_out (by omega), List.filter_append, List.filter_cons, if_pos (by simp)]
    simp
  · unfold CL
    rw [show (8 : Nat) = bk ke t + (1 + (7 - bk ke t)) by omega, seg_app, Nat.zero_add, show 1 + (7 - bk ke t) = (7 - bk ke t) + 1 by omega]
    show _ ++ (List.filter _ (L1 ++ L2) ++ seg ke (L1 ++ L2) (bk ke t + 1) (7 - bk ke t)) = _
    rw [List.filter_append]
    simp
theorem CL_len {ke : Nat → Nat} : ∀ {L : List Nat}, (CL ke L).length = L.length
  | [] => by simp [CL, seg]
  | t :: L => by
    have h := CL_split (ke := ke) (L1 := []) (L2 := L) (t := t)
    have e1 := congrArg List.length h.1
    have e2 := congrArg List.length h.2
    simp only [List.nil_append] at e1 e2
    have ih := CL_len (ke := ke) (L := L)
    rw [e1]
    rw [e2] at ih
    simp only [List.length_append, List.length_cons] at ih ⊢
    omega
theorem CL_mem {ke : Nat → Nat} {L : List Nat} {t : Nat} : t ∈ CL ke L ↔ t ∈ L := by
  have hb : bk ke t < 8 := Nat.mod_lt _ (by decide)
  unfold CL
  rw [seg_mem]
  constructor
  · exact fun h => h.1
  · exact fun h => ⟨h, Nat.zero_le _, by omega⟩
section
variable {G : Gp} {d : Nat} {K : SK} {n : Nat × Nat} {V V' : SV} {J J' : SJV} {O O' : SO} {r : Option Value}
variable {b ci ky s nT m : Nat} {ke nm : Nat → Nat}
theorem rem8 {x : Nat} (h : x < 1000) : nI x - nI x / 8 * 8 = nI (x % 8) := pk_rem (d := 8) (by omega) (by omega) (by omega)
theorem c7_bucketOf (hK : StK K) (ha : IsSt K b 7 ky) (hk : cKe ky nT ke V) {t : Nat} (ht : t < nT) : Ev G d mX7_bucketOf 0 [(0, .ref b), (1, .int (nI t))] (K, n, V, J, O) (some (.int (nI (bk ke t)))) (K, n, V, J, O) := by
  have h80 := hk.2.1
  obtain ⟨e1, e2⟩ := hk.2.2 t ht
  refine wX7_bucketOf_0 hK ha (by decide) ⟨nI_v (by omega) (by omega), ?_⟩
  rw [nI_c (by omega), e1, rem8 (by omega)]
  rfl
theorem c7_startOf2 (hK : StK K) (ha : IsSt K b 7 ky) (hk : cKe ky nT ke V) (hR : RowC b m nm V) (hn : ∀ i, i < m → nm i < nT) {v : Nat} (hv : v ≤ 8) : ∀ (k i : Nat), i + k = m → Ev G (d + 1) mX7_startOf 2 [(0, .ref b), (1, .int (nI v)), (2, .int (nI i))] (K, n, V, J, O) (some (.int (nI (ffst (fun i => decide (v ≤ bk ke (nm i))) k i)))) (K, n, V, J, O)
  | 0, i, e => wX7_startOf_2 hK ha (bt (lp_out hR.2.1 (by omega) (by have := hR.1; omega)) rfl)
  | k + 1, i, e => by
    have h80 := hR.1
    obtain ⟨e1, e2⟩ := hR.2.2 i (by omega)
    have hb : bk ke (nm i) < 8 := Nat.mod_lt _ (by decide)
    refine wX7_startOf_2 hK ha (bf (lp_in hR.2.1 (by omega) (by omega)) ⟨nI_v (by omega) (by omega), ?_⟩)
    rw [nI_c (by omega), e1, nI_1]
    refine ⟨_, c7_bucketOf hK ha hk (hn i (by omega)), ?_⟩
    rw [nI_le' (by omega) (by omega), ffst_s]
    by_cases q : v ≤ bk ke (nm i)
    · exact bt q (by simp [q])
    · exact bf q (by simpa [q] using c7_startOf2 hK ha hk hR hn hv k (i + 1) (by omega))
theorem c7_startOf (hK : StK K) (ha : IsSt K b 7 ky) (hk : cKe ky nT ke V) {A B : List Nat} (hR : RowC b (A ++ B).length (nmL (A ++ B)) V) (hn : ∀ t, t ∈ A ++ B → t < nT) {v : Nat} (hv : v ≤ 8) (hA : ∀ t, t ∈ A → bk ke t < v) (hB : ∀ t, t ∈ B → v ≤ bk ke t) : Ev G (d + 1) mX7_startOf 0 [(0, .ref b), (1, .int (nI v))] (K, n, V, J, O) (some (.int (nI A.length))) (K, n, V, J, O) := by
  have := c7_startOf2 (G := G) (d := d) (n := n) (J := J) (O := O) hK ha hk hR (fun i hi => hn _ (nmL_mem hi)) hv (A ++ B).length 0 (by omega)
  rw [ffst_un (f := A.length) (Nat.zero_le _) (by simp) (fun j _ hj => by
    rw [nmL_l hj]
    have := hA _ (nmL_mem hj)
    simpa using this) (fun h => by
    rw [nmL_r (Nat.le_refl _), Nat.sub_self]
    have h2 : 0 < B.length := by simp at h; omega
    simpa using hB _ (nmL_mem h2))] at this
  exact wX7_startOf_0 hK ha this
/-- putting into a table -/
theorem c7_putName (hK : StK K) (ha : IsSt K b 7 ky) (hb : 96 ≤ b) (hk : cKe ky nT ke V) {L : List Nat} (hR : RowC b (CL ke L).length (nmL (CL ke L)) V) (hn : ∀ t, t ∈ L → t < nT) {t : Nat} (ht : t < nT) (hm : L.length < 80) {c : Nat} (h8 : V b 8 = nI c) : ∃ V', Ev G (d + 2) mX7_putName 0 [(0, .ref b), (1, .int (nI t))] (K, n, V, J, O) none (K, n, V', J, O) ∧ RowC b (CL ke (L ++ [t])).length (nmL (CL ke (L ++ [t]))) V' ∧ V' b 8 = nI (c + 1) ∧ fr (fun a k => a = b + 2 ∨ (a = b ∧ (k = 8 ∨ k = 10))) V V' := by
  have h80 := hk.2.1
  obtain ⟨s1, s2⟩ := CL_split (ke := ke) (L1 := L) (L2 := []) (t := t)
  rw [List.append_nil] at s1 s2
  have hlen : (CL ke L).length = L.length := CL_len
  have hb8 : bk ke t < 8 := Nat.mod_lt _ (by decide)
  have g1 : fr (fun a k => a = b ∧ k = 8) V (up2 V b 8 (nI (c + 1))) := fr_up fr_rfl ⟨rfl, rfl⟩
  have hR1 := hR.fr g1
  have hk1 := hk.fr hb (fr_mo g1 (fun a k q => by omega))
  have hnC : ∀ u, u ∈ CL ke L → u < nT := fun u hu => hn u (CL_mem.mp hu)
  generalize hA : seg ke L 0 (bk ke t) ++ L.filter (fun u => bk ke u == bk ke t) = A at s1 s2
  generalize hB : List.filter (fun u => bk ke u == bk ke t) [] ++ seg ke L (bk ke t + 1) (7 - bk ke t) = B at s1 s2
  have hAm : ∀ u, u ∈ A → bk ke u < bk ke t + 1 := by
    intro u hu
    rw [← hA, List.mem_append, seg_mem, List.mem_filter] at hu
    rcases hu with ⟨_, _, h⟩ | ⟨_, h⟩
    · omega
    · simp at h; omega
  have hBm : ∀ u, u ∈ B → bk ke t + 1 ≤ bk ke u := by
    intro u hu
    rw [← hB, List.filter_nil, List.nil_append, seg_mem] at hu
    exact hu.2.1
  rw [s2] at hR hR1 hnC
  have hst := c7_startOf (G := G) (d := d) (n := n) (J := J) (O := O) hK ha hk1 hR1 hnC (v := bk ke t + 1) (by omega) hAm hBm
  have hm2 : (A ++ B).length < 80 := by rw [← s2, hlen]; exact hm
  have hle : A.length ≤ (A ++ B).length := by simp
  refine ⟨up2 (up2 (upA (up2 V b 8 (nI (c + 1))) (b + 2) (va_cpy (V (b + 2)) (V (b + 2)) A.length (A.length + 1) ((A ++ B).length - A.length))) (b + 2) A.length (nI t)) b 10 (nI ((A ++ B).length + 1)), wX7_putName_0 hK ha (bt ?_ ?_), ?_, ?_, ?_⟩
  · rw [hR.2.1]
    exact nI_lt hm2 (by omega)
  · have e9 : up2 V b 8 (nI (c + 1)) (b + 2) = V (b + 2) := funext fun j => up2_a (by omega)
    have e10 : ∀ X : Nat → Int32, up2 (upA (up2 V b 8 (nI (c + 1))) (b + 2) X) (b + 2) A.length (nI t) b 10 = nI (A ++ B).length := fun X => by
      rw [up2_a (by omega), upA_o (by omega), up2_k (by decide), hR.2.1]
    rw [h8, nI_1, hR.2.1]
    refine ⟨_, c7_bucketOf hK ha hk1 ht, _, by rw [nI_1]; exact hst, ?_⟩
    rw [nI_s hle, nI_1, nI_c (show A.length < 100000 by omega), nI_c (show A.length + 1 < 100000 by omega), nI_c (show (A ++ B).length - A.length < 100000 by omega), e9, e10, nI_1]
    exact ⟨⟨nI_pos (by omega), nI_pos (by omega), nI_pos (by omega), by omega, by omega⟩, nI_v (by omega) (by omega), rfl, rfl⟩
  · rw [s1]
    refine ⟨by simp at hm2 ⊢; omega, ?_, fun i hi => ?_⟩
    · rw [up2_s]; congr 1; simp; omega
    · have hi2 : i < (A ++ B).length + 1 := by simp at hi ⊢; omega
      rw [up2_a (by omega), ← insF_L]
      unfold insF
      by_cases ei : i = A.length
      · subst ei
        rw [up2_s]
        simp
        omega
      · rw [up2_k ei, upA_s]
        by_cases ei2 : i < A.length
        · rw [pk_cpy_out (by omega), if_pos ei2]
          exact hR.2.2 i (by omega)
        · rw [pk_cpy_in (by omega) (by omega), if_neg ei2, if_neg ei, show A.length + (i - (A.length + 1)) = i - 1 by omega]
          exact hR.2.2 (i - 1) (by omega)
  · rw [up2_k (by decide), up2_a (by omega), upA_o (by omega), up2_s]
  · exact fr_up (fr_up (fr_upA (fr_mo g1 (fun a k q => by omega)) (fun _ => Or.inl rfl)) (Or.inl rfl)) (Or.inr ⟨rfl, Or.inr rfl⟩)
theorem c7_take10 (hK : StK K) (ha : IsSt K b 7 ky) (hb : 96 ≤ b) {A F1 B : List Nat} {t : Nat} (ht : t < 80) (h1 : ∀ u, u ∈ F1 → u ≠ t) : ∀ (k i c : Nat) (V : SV), i + k = A.length + F1.length → A.length ≤ i → RowC b ((A ++ F1) ++ t :: B).length (nmL ((A ++ F1) ++ t :: B)) V → V b 8 = nI c → ∃ V', Ev G (d + 1) mX7_takeName 10 [(0, .ref b), (1, .int (nI t)), (2, .int (nI i))] (K, n, V, J, O) none (K, n, V', J, O) ∧ RowC b ((A ++ F1) ++ B).length (nmL ((A ++ F1) ++ B)) V' ∧ V' b 8 = nI (c + k + 1) ∧ fr (fun a k => a = b + 2 ∨ (a = b ∧ (k = 8 ∨ k = 10))) V V' := by
  intro k
  induction k with
  | zero =>
    intro i c V e hi hR h8
    have hiA : i = (A ++ F1).length := by simp; omega
    have h80 := hR.1
    have hil : i < ((A ++ F1) ++ t :: B).length := by simp; omega
    obtain ⟨e1, e2⟩ := hR.2.2 i hil
    have e3 : nmL ((A ++ F1) ++ t :: B) i = t := by rw [hiA]; exact nmL_at
    rw [e3] at e1
    generalize hM : ((A ++ F1) ++ t :: B).length = M at *
    have hM2 : ((A ++ F1) ++ B).length = M - 1 := by rw [← hM]; simp; omega
    have e4 : nI M - 1 = nI (M - 1) := by rw [show (1 : Int32) = nI 1 from rfl, nI_s (by omega)]
    have e9 : up2 (up2 V b 8 (nI (c + 1))) b 10 (nI (M - 1)) (b + 2) = V (b + 2) := funext fun j => by rw [up2_a (by omega), up2_a (by omega)]
    refine ⟨upA (up2 (up2 V b 8 (nI (c + 1))) b 10 (nI (M - 1))) (b + 2) (va_cpy (V (b + 2)) (V (b + 2)) (i + 1) i (M - 1 - i)), wX7_takeName_10 hK ha (bf ?_ ⟨nI_v (by omega) (by omega), bt ?_ (bt ?_ ?_)⟩), ?_, ?_, ?_⟩
    · rw [hR.2.1, nI_le' (by omega) (by omega)]; omega
    · rw [nI_c (by omega)]; exact e1
    · rw [hR.2.1]; exact nI_lt hil (by omega)
    · rw [hR.2.1, h8, e4, nI_1, nI_1, nI_s (show i ≤ M - 1 by omega), nI_c (show i < 100000 by omega), nI_c (show i + 1 < 100000 by omega), nI_c (show M - 1 - i < 100000 by omega), e9]
      exact ⟨⟨nI_pos (by omega), nI_pos (by omega), nI_pos (by omega), by omega, by omega⟩, rfl, rfl⟩
    · refine ⟨by omega, ?_, fun j hj => ?_⟩
      · rw [upA_o (by omega), up2_s, hM2]
      · rw [hM2] at hj
        rw [upA_s, ← remF_L (t := t), ← hiA]
        unfold remF
        by_cases ei : j < i
        · rw [pk_cpy_out (by omega), if_pos ei]
          exact hR.2.2 j (by omega)
        · rw [pk_cpy_in (by omega) (by omega), if_neg ei, show i + 1 + (j - i) = j + 1 by omega]
          exact hR.2.2 (j + 1) (by omega)
    · rw [upA_o (by omega), up2_k (by decide), up2_s]
    · exact fr_upA (fr_up (fr_up fr_rfl (Or.inr ⟨rfl, Or.inl rfl⟩)) (Or.inr ⟨rfl, Or.inr rfl⟩)) (fun _ => Or.inl rfl)
  | succ k ih =>
    intro i c V e hi hR h8
    have h80 := hR.1
    have hil : i < ((A ++ F1) ++ t :: B).length := by simp; omega
    obtain ⟨e1, e2⟩ := hR.2.2 i hil
    have hin : i < (A ++ F1).length := by simp; omega
    have e3 : nmL ((A ++ F1) ++ t :: B) i = nmL F1 (i - A.length) := by rw [nmL_l hin, nmL_r hi]
    have hne : nmL ((A ++ F1) ++ t :: B) i ≠ t := by rw [e3]; exact h1 _ (nmL_mem (by omega))
    have g1 : fr (fun a k => a = b ∧ k = 8) V (up2 V b 8 (nI (c + 1))) := fr_up fr_rfl ⟨rfl, rfl⟩
    obtain ⟨V', z1, z2, z3, z4⟩ := ih (i + 1) (c + 1) _ (by omega) (by omega) (hR.fr g1) up2_s
    refine ⟨V', wX7_takeName_10 hK ha (bf ?_ ⟨nI_v (by omega) (by omega), bf ?_ ?_⟩), z2, by rw [z3]; congr 1; omega, fr_mo (fr_tr g1 z4) (fun a k q => by omega)⟩
    · rw [hR.2.1, nI_le' (by omega) (by omega)]; omega
    · rw [nI_c (by omega), e1, nI_eq' (by omega) (by omega)]; exact hne
    · rw [h8, nI_1, nI_1]
      exact z1
/-- taking from a table: L1 came before, L2 behind -/
theorem c7_takeName (hK : StK K) (ha : IsSt K b 7 ky) (hb : 96 ≤ b) (hk : cKe ky nT ke V) {L1 L2 : List Nat} {t : Nat} (hR : RowC b (CL ke (L1 ++ t :: L2)).length (nmL (CL ke (L1 ++ t :: L2))) V) (hn : ∀ u, u ∈ L1 ++ t :: L2 → u < nT) (hd : t ∉ L1) {c : Nat} (h8 : V b 8 = nI c) : ∃ V', Ev G (d + 2) mX7_takeName 0 [(0, .ref b), (1, .int (nI t))] (K, n, V, J, O) none (K, n, V', J, O) ∧ RowC b (CL ke (L1 ++ L2)).length (nmL (CL ke (L1 ++ L2))) V' ∧ V' b 8 = nI (c + (L1.filter (fun u => bk ke u == bk ke t)).length + 1) ∧ fr (fun a k => a = b + 2 ∨ (a = b ∧ (k = 8 ∨ k = 10))) V V' := by
  have h80 := hk.2.1
  have ht : t < nT := hn t (by simp)
  obtain ⟨s1, s2⟩ := CL_split (ke := ke) (L1 := L1) (L2 := L2) (t := t)
  have hb8 : bk ke t < 8 := Nat.mod_lt _ (by decide)
  have hnC : ∀ u, u ∈ CL ke (L1 ++ t :: L2) → u < nT := fun u hu => hn u (CL_mem.mp hu)
  have hAm : ∀ u, u ∈ seg ke (L1 ++ L2) 0 (bk ke t) → bk ke u < bk ke t := fun u hu => by have := (seg_mem.mp hu).2.2; omega
  have hF : ∀ u, u ∈ L1.filter (fun u => bk ke u == bk ke t) → u ≠ t ∧ bk ke u = bk ke t := fun u hu => by
    rw [List.mem_filter] at hu
    exact ⟨fun e => hd (e ▸ hu.1), by simpa using hu.2⟩
  have hBm : ∀ u, u ∈ L2.filter (fun u => bk ke u == bk ke t) ++ seg ke (L1 ++ L2) (bk ke t + 1) (7 - bk ke t) → bk ke t ≤ bk ke u := fun u hu => by
    rw [List.mem_append, List.mem_filter, seg_mem] at hu
    rcases hu with ⟨_, h⟩ | ⟨_, h, _⟩
    · simp at h; omega
    · omega
  generalize seg ke (L1 ++ L2) 0 (bk ke t) = A at *
  generalize L1.filter (fun u => bk ke u == bk ke t) = F1 at *
  generalize L2.filter (fun u => bk ke u == bk ke t) ++ seg ke (L1 ++ L2) (bk ke t + 1) (7 - bk ke t) = B at *
  rw [s1] at hR hnC
  rw [s2]
  have e5 : A ++ (F1 ++ t :: B) = (A ++ F1) ++ t :: B := by simp
  have hst := c7_startOf (G := G) (d := d) (n := n) (J := J) (O := O) (A := A) (B := F1 ++ t :: B) hK ha hk (by rw [e5]; exact hR) (by rw [e5]; exact hnC) (v := bk ke t) (by omega) hAm (fun u hu => by
    rw [List.mem_append, List.mem_cons] at hu
    rcases hu with h | rfl | h
    · rw [(hF u h).2]; exact Nat.le_refl _
    · exact Nat.le_refl _
    · exact hBm u h)
  obtain ⟨V', z1, z2, z3, z4⟩ := c7_take10 (G := G) (d := d + 1) (n := n) (J := J) (O := O) hK ha hb (A := A) (F1 := F1) (B := B) (t := t) (by omega) (fun u hu => (hF u hu).1) F1.length A.length c V (by omega) (Nat.le_refl _) hR h8
  exact ⟨V', wX7_takeName_0 hK ha ⟨_, c7_bucketOf hK ha hk ht, _, hst, z1⟩, z2, z3, z4⟩
/-- the reference counts those of the same bucket up to the thing -/
theorem c12_inB (hK : StK K) (hk : mKe s ky nT ke V) {L1 L2 : List Nat} {t : Nat} (hR : RowM s (L1 ++ t :: L2).length (nmL (L1 ++ t :: L2)) V) (hn : ∀ u, u ∈ L1 ++ t :: L2 → u < nT) (hd : t ∉ L1) : ∀ (k i a : Nat), i + k = L1.length → a = ((L1.take i).filter (fun u => bk ke u == bk ke t)).length → Ev G (d + 1) mX12_inBucket 5 [(0, .ref 57), (1, .int (nI s)), (2, .int (nI t)), (3, .int (nI a)), (4, .int (nI i))] (K, n, V, J, O) (some (.int (nI ((L1.filter (fun u => bk ke u == bk ke t)).length + 1)))) (K, n, V, J, O) := by
  have hs := hk.1
  have h80 := hR.1
  have h8T := hk.2.2.1
  have ht : t < nT := hn t (by simp)
  have hl : L1.length < (L1 ++ t :: L2).length := by simp
  have hq : nmL (L1 ++ t :: L2) L1.length = t := nmL_at
  have hpl := c12_placeIn (G := G) (d := d) (n := n) (J := J) (O := O) hK hs hR (show t < 80 by omega) hl hq
  rw [ffst_un (f := L1.length) (Nat.zero_le _) (by omega) (fun j _ hj => by
    rw [nmL_l hj]
    have : nmL L1 j ≠ t := fun e => hd (e ▸ nmL_mem hj)
    simpa using this) (fun _ => by rw [hq]; simp)] at hpl
  obtain ⟨kt1, kt2⟩ := hk.2.2.2.2 t ht
  intro k
  induction k with
  | zero =>
    intro i a e hae
    have hi : i = L1.length := by omega
    subst hi
    rw [List.take_length] at hae
    obtain ⟨e1, e2⟩ := hR.2.2 _ hl
    rw [hq] at e1
    refine wX12_inBucket_5 hK ⟨_, hpl, bf (by rw [nI_lt' (by omega) (by omega)]; omega) ?_⟩
    rw [ix80, nI_c (by omega), e1]
    refine ⟨nI_v (by omega) (by omega), _, c12_keyIn hK hk ht, _, c12_keyIn hK hk ht, nf rfl ?_⟩
    rw [nI_1, nI_1]
    refine wX12_inBucket_5 hK ⟨_, hpl, bt (by rw [nI_lt' (by omega) (by omega)]; omega) ?_⟩
    rw [hae]
  | succ k ih =>
    intro i a e hae
    have hi : i < L1.length := by omega
    obtain ⟨e1, e2⟩ := hR.2.2 i (by omega)
    have hut : nmL (L1 ++ t :: L2) i < nT := hn _ (nmL_mem (by omega))
    obtain ⟨ku1, ku2⟩ := hk.2.2.2.2 _ hut
    have e3 : nmL (L1 ++ t :: L2) i = L1[i] := by rw [nmL_l hi]; simp [nmL, List.getD_eq_getElem?_getD, List.getElem?_eq_getElem hi]
    refine wX12_inBucket_5 hK ⟨_, hpl, bf (by rw [nI_lt' (by omega) (by omega)]; omega) ?_⟩
    rw [ix80, nI_c (by omega), e1]
    refine ⟨nI_v (by omega) (by omega), _, c12_keyIn hK hk hut, _, c12_keyIn hK hk ht, ?_⟩
    rw [rem8 (by omega), rem8 (by omega), nI_ne (by omega) (by omega), nI_eq' (by omega) (by omega), nI_1, nI_a0, nI_1]
    have htk : L1.take (i + 1) = L1.take i ++ [L1[i]] := by rw [List.take_succ_eq_append_getElem hi]
    by_cases q : ke (nmL (L1 ++ t :: L2) i) % 8 = ke t % 8
    · refine nf q (ih (i + 1) (a + 1) (by omega) ?_)
      rw [htk, List.filter_append, List.length_append, ← hae, List.filter_cons, if_pos (by rw [← e3]; simpa [bk] using q)]
      rfl
    · refine nt q (ih (i + 1) a (by omega) ?_)
      rw [htk, List.filter_append, List.length_append, ← hae, List.filter_cons, if_neg (by rw [← e3]; simpa [bk] using q)]
      rfl
theorem c12_inBucket (hK : StK K) (hk : mKe s ky nT ke V) {L1 L2 : List Nat} {t : Nat} (hR : RowM s (L1 ++ t :: L2).length (nmL (L1 ++ t :: L2)) V) (hn : ∀ u, u ∈ L1 ++ t :: L2 → u < nT) (hd : t ∉ L1) : Ev G (d + 1) mX12_inBucket 0 [(0, .ref 57), (1, .int (nI s)), (2, .int (nI t))] (K, n, V, J, O) (some (.int (nI ((L1.filter (fun u => bk ke u == bk ke t)).length + 1)))) (K, n, V, J, O) := wX12_inBucket_0 hK (c12_inB hK hk hR hn hd L1.length 0 0 (by omega) (by simp))
/-! sums -/
def psum (ke nm : Nat → Nat) : Nat → Nat
  | 0 => 0
  | i + 1 => psum ke nm i + ke (nm i)
theorem c6_sumUp2 (hK : StK K) (ha : IsSt K b 6 ky) (hb : 96 ≤ b) (hn : ∀ i, i < m → nm i < nT) : ∀ (k i : Nat) (V : SV), i + k = m → RowC b m nm V → cKe ky nT ke V → (∀ j, j ≤ i → V (b + 3) j = nI (psum ke nm j)) → ∃ V', Ev G d mX6_sumUp 2 [(0, .ref b), (1, .int (nI i))] (K, n, V, J, O) none (K, n, V', J, O) ∧ (∀ j, j ≤ m → V' (b + 3) j = nI (psum ke nm j)) ∧ fr (fun a _ => a = b + 3) V V' := by
  intro k
  induction k with
  | zero =>
    intro i V e hR hk hs
    have h80 := hR.1
    exact ⟨V, wX6_sumUp_2 hK ha (bt (lp_out hR.2.1 (by omega) (by omega)) ⟨rfl, rfl⟩), fun j hj => hs j (by omega), fr_rfl⟩
  | succ k ih =>
    intro i V e hR hk hs
    have h80 := hR.1
    obtain ⟨e1, e2⟩ := hR.2.2 i (by omega)
    obtain ⟨e3, e4⟩ := hk.2.2 _ (hn i (by omega))
    have g1 : fr (fun a _ => a = b + 3) V (up2 V (b + 3) (i + 1) (nI (psum ke nm (i + 1)))) := fr_up (P := fun a _ => a = b + 3) fr_rfl rfl
    obtain ⟨V', z1, z2, z3⟩ := ih (i + 1) _ (by omega) ⟨hR.1, by rw [g1 b 10 (by omega)]; exact hR.2.1, fun j hj => by rw [g1 (b + 2) j (by omega)]; exact hR.2.2 j hj⟩ (hk.fr hb (fr_mo g1 (fun a k q => by omega))) (fun j hj => by
      by_cases ej : j = i + 1
      · rw [ej, up2_s]
      · rw [up2_k ej]; exact hs j (by omega))
    refine ⟨V', wX6_sumUp_2 hK ha (bf (lp_in hR.2.1 (by omega) (by omega)) ?_), z2, fr_mo (fr_tr g1 z3) (fun a k q => by omega)⟩
    rw [nI_1, nI_c (show i < 100000 by omega), nI_c (show i + 1 < 100000 by omega), e1, nI_c (show nm i < 100000 by omega), e3, hs i (Nat.le_refl _), nI_add]
    exact ⟨nI_v (by omega) (by omega), nI_v (by omega) (by omega), nI_v (by omega) (by omega), nI_v (by omega) (by omega), z1⟩
theorem c6_sumUp (hK : StK K) (ha : IsSt K b 6 ky) (hb : 96 ≤ b) (hn : ∀ i, i < m → nm i < nT) (hR : RowC b m nm V) (hk : cKe ky nT ke V) (h0 : V (b + 3) 0 = 0) : ∃ V', Ev G d mX6_sumUp 0 [(0, .ref b)] (K, n, V, J, O) none (K, n, V', J, O) ∧ (∀ j, j ≤ m → V' (b + 3) j = nI (psum ke nm j)) ∧ fr (fun a _ => a = b + 3) V V' := by
  obtain ⟨V', z1, z2⟩ := c6_sumUp2 (G := G) (d := d) (n := n) (J := J) (O := O) hK ha hb hn m 0 V (by omega) hR hk (fun j hj => by rw [show j = 0 by omega, h0]; rfl)
  exact ⟨V', wX6_sumUp_0 hK ha z1, z2⟩
end
