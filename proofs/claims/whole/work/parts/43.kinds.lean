/-! ===== sorted, sums, heaps, trees: the steps ===== -/
def lst (m : Nat) (nm : Nat → Nat) : List Nat := (List.range m).map nm
theorem lst_len {m : Nat} {nm : Nat → Nat} : (lst m nm).length = m := by simp [lst]
theorem nmL_lst {m i : Nat} {nm : Nat → Nat} (h : i < m) : nmL (lst m nm) i = nm i := by
  simp [nmL, lst, List.getD_eq_getElem?_getD, List.getElem?_map, List.getElem?_range h]
theorem NM_hld {m : Nat} {nm : Nat → Nat} {S : Nat → Prop} (h : NM m nm S) : hld S (lst m nm) := by
  obtain ⟨h1, h2, h3⟩ := h
  constructor
  · show List.Pairwise (· ≠ ·) (lst m nm)
    unfold lst
    rw [List.pairwise_map, List.pairwise_iff_getElem]
    intro i j hi hj hij e
    rw [List.length_range] at hi hj
    rw [List.getElem_range, List.getElem_range] at e
    have := h3 i j hi hj e
    omega
  · intro t
    unfold lst
    rw [List.mem_map]
    constructor
    · rintro ⟨i, hi, rfl⟩
      exact h1 i (List.mem_range.mp hi)
    · intro ht
      obtain ⟨i, hi, e⟩ := h2 t ht
      exact ⟨i, List.mem_range.mpr hi, e⟩
theorem nmL_get {L : List Nat} {i : Nat} (h : i < L.length) : nmL L i = L[i] := by simp [nmL, List.getD_eq_getElem?_getD, List.getElem?_eq_getElem h]
theorem hld_NM {L : List Nat} {S : Nat → Prop} (h : hld S L) : NM L.length (nmL L) S := by
  obtain ⟨h1, h2⟩ := h
  refine ⟨fun i hi => (h2 _).mp (nmL_mem hi), fun t ht => nmL_ex ((h2 t).mpr ht), fun i j hi hj e => ?_⟩
  have hp := List.pairwise_iff_getElem.mp (show List.Pairwise (· ≠ ·) L from h1)
  rw [nmL_get hi, nmL_get hj] at e
  rcases Nat.lt_trichotomy i j with q | q | q
  · exact absurd e (hp i j hi hj q)
  · exact q
  · exact absurd e.symm (hp j i hj hi q)
theorem NM_c {m : Nat} {nm nm' : Nat → Nat} {S : Nat → Prop} (h : NM m nm S) (e : ∀ i, i < m → nm' i = nm i) : NM m nm' S := ⟨fun i hi => by rw [e i hi]; exact h.1 i hi, fun t ht => by obtain ⟨i, hi, q⟩ := h.2.1 t ht; exact ⟨i, hi, by rw [e i hi]; exact q⟩, fun i j hi hj q => h.2.2 i j hi hj (by rw [← e i hi, ← e j hj]; exact q)⟩
/-- the last name goes to place p, and the row is one shorter -/
def lastTo (L : List Nat) (p : Nat) : Nat → Nat := fun i => if i = p then nmL L (L.length - 1) else nmL L i
theorem NM_lastTo {L : List Nat} {S : Nat → Prop} {p : Nat} (h : hld S L) (hp : p < L.length) : NM (L.length - 1) (lastTo L p) (fun u => u ≠ nmL L p ∧ S u) := by
  obtain ⟨h1, h2, h3⟩ := hld_NM h
  refine ⟨fun i hi => ?_, fun u hu => ?_, fun i j hi hj e => ?_⟩
  · unfold lastTo
    split
    · exact ⟨fun e => by have := h3 _ _ (by omega) hp e; omega, h1 _ (by omega)⟩
    · rename_i q
      exact ⟨fun e => by have := h3 _ _ (by omega) hp e; omega, h1 _ (by omega)⟩
  · obtain ⟨i, hi, e⟩ := h2 u hu.2
    have hip : i ≠ p := fun q => hu.1 (by rw [← e, q])
    by_cases q : i = L.length - 1
    · refine ⟨p, by omega, ?_⟩
      unfold lastTo
      rw [if_pos rfl, ← q, e]
    · refine ⟨i, by omega, ?_⟩
      unfold lastTo
      rw [if_neg hip, e]
  · unfold lastTo at e
    by_cases a : i = p <;> by_cases c : j = p
    · omega
    · rw [if_pos a, if_neg c] at e
      have := h3 _ _ (by omega) (by omega) e
      omega
    · rw [if_neg a, if_pos c] at e
      have := h3 _ _ (by omega) (by omega) e
      omega
    · rw [if_neg a, if_neg c] at e
      exact h3 _ _ (by omega) (by omega) e
/-- putting at the end of a heap -/
def hpP (ke : Nat → Nat) (L : List Nat) (t : Nat) : List Nat × Nat := (lst (L.length + 1) (hup ke L.length (nmL (L ++ [t])) L.length 0).1, (hup ke L.length (nmL (L ++ [t])) L.length 0).2.2)
/-- taking at place p from a heap -/
def hpK (ke : Nat → Nat) (L : List Nat) (p : Nat) : List Nat × Nat := if p = L.length - 1 then (lst (L.length - 1) (lastTo L p), p + 1) else if (hup ke p (lastTo L p) p (p + 1)).2.1 = p then (lst (L.length - 1) (hdn ke (L.length - 1) (L.length - 1 - p) (hup ke p (lastTo L p) p (p + 1)).1 p (hup ke p (lastTo L p) p (p + 1)).2.2).1, (hdn ke (L.length - 1) (L.length - 1 - p) (hup ke p (lastTo L p) p (p + 1)).1 p (hup ke p (lastTo L p) p (p + 1)).2.2).2) else (lst (L.length - 1) (hup ke p (lastTo L p) p (p + 1)).1, (hup ke p (lastTo L p) p (p + 1)).2.2)
theorem hpP_len {ke : Nat → Nat} {L : List Nat} {t : Nat} : (hpP ke L t).1.length = L.length + 1 := lst_len
theorem hpK_len {ke : Nat → Nat} {L : List Nat} {p : Nat} : (hpK ke L p).1.length = L.length - 1 := by
  unfold hpK
  split
  · exact lst_len
  · split <;> exact lst_len
theorem hpP_hld {ke : Nat → Nat} {L : List Nat} {S : Nat → Prop} {t : Nat} (h : hld S L) (ht : ¬ S t) : hld (fun u => u = t ∨ S u) (hpP ke L t).1 := by
  have h2 := hld_NM (hld_put (A := L) (B := []) (by rw [List.append_nil]; exact h) ht)
  have e : (L ++ [t]).length = L.length + 1 := by simp
  rw [e] at h2
  exact NM_hld (hup_NM L.length _ L.length 0 (by omega) h2).1
theorem hpK_hld {ke : Nat → Nat} {L : List Nat} {S : Nat → Prop} {p : Nat} (h : hld S L) (hp : p < L.length) : hld (fun u => u ≠ nmL L p ∧ S u) (hpK ke L p).1 := by
  have h2 := NM_lastTo h hp
  unfold hpK
  by_cases q : p = L.length - 1
  · rw [if_pos q]
    exact NM_hld h2
  · have h3 := (hup_NM (ke := ke) p _ p (p + 1) (by omega) h2).1
    rw [if_neg q]
    split
    · exact NM_hld (hdn_NM _ _ p _ (by omega) h3)
    · exact NM_hld h3
section
variable {G : Gp} {d : Nat} {K : SK} {V V' : SV}
variable {b ci ky s nT t : Nat} {ke : Nat → Nat} {S : Nat → Prop} {g2 : (Nat → Option Nat) × (Nat → Option Nat) × Option Nat × Int32} {A B L : List Nat}
theorem put2 (hK : StK K) (ha : IsSt K b 4 ky) (hb : 96 ≤ b) (ht : t < nT) (hl : (A ++ B).length < 80) (hS : ∀ u, u ∈ A ++ B → u < nT) (hA : ∀ u, u ∈ A → lts ke u t) (hB : ∀ u, u ∈ B → lts ke t u) : stC 3 G (d + 5) K mX4_putName b ky nT ke t (CR 2 b ke (A ++ B, g2)) (CR 2 b ke (A ++ t :: B, g2)) (bsc ke (A ++ B) t + ((A ++ B).length - A.length)) ∧ stM G (d + 5) K mX12_putIn 2 s ky nT ke t (MR 2 s (A ++ B, g2)) (MR 2 s (A ++ t :: B, g2)) (bsc ke (A ++ B) t + ((A ++ B).length - A.length)) := by
  refine ⟨fun n J O V hk hR h8 => ?_, m2_put hK (Or.inl rfl) ht hl hS hA hB⟩
  obtain ⟨V3, z1, z2, z3, z4⟩ := c4_put (G := G) (d := d + 1) hK ha (by decide) hb ht hl hS hA hB n J O V hk hR h8
  exact ⟨V3, z1, z2, z3, fr_mo z4 (fun a k q => by unfold frB; omega)⟩
theorem take2 (hK : StK K) (ha : IsSt K b 4 ky) (hb : 96 ≤ b) (ht : t < nT) (hS : ∀ u, u ∈ A ++ t :: B → u < nT) (hsr : srt ke (A ++ t :: B)) : stC 3 G (d + 5) K mX4_takeName b ky nT ke t (CR 2 b ke (A ++ t :: B, g2)) (CR 2 b ke (A ++ B, g2)) (bsc ke (A ++ t :: B) t + ((A ++ t :: B).length - 1 - A.length)) ∧ stM G (d + 5) K mX12_takeFrom 2 s ky nT ke t (MR 2 s (A ++ t :: B, g2)) (MR 2 s (A ++ B, g2)) (bsc ke (A ++ t :: B) t + ((A ++ t :: B).length - 1 - A.length)) := by
  refine ⟨fun n J O V hk hR h8 => ?_, m2_take hK (Or.inl rfl) ht hS hsr⟩
  obtain ⟨V3, z1, z2, z3, z4⟩ := c4_take (G := G) (d := d + 1) hK ha (by decide) hb ht hS hsr n J O V hk hR h8
  exact ⟨V3, z1, z2, z3, fr_mo z4 (fun a k q => by unfold frB; omega)⟩
theorem put7 (hK : StK K) (ha : IsSt K b 6 ky) (hb : 96 ≤ b) (ht : t < nT) (hl : (A ++ B).length < 80) (hS : ∀ u, u ∈ A ++ B → u < nT) (hA : ∀ u, u ∈ A → lts ke u t) (hB : ∀ u, u ∈ B → lts ke t u) : stC 4 G (d + 5) K mX6_putName b ky nT ke t (CR 7 b ke (A ++ B, g2)) (CR 7 b ke (A ++ t :: B, g2)) (bsc ke (A ++ B) t + ((A ++ B).length - A.length)) ∧ stM G (d + 5) K mX12_putIn 7 s ky nT ke t (MR 7 s (A ++ B, g2)) (MR 7 s (A ++ t :: B, g2)) (bsc ke (A ++ B) t + ((A ++ B).length - A.length)) := by
  refine ⟨fun n J O V hk hR h8 => ?_, m2_put hK (Or.inr rfl) ht hl hS hA hB⟩
  obtain ⟨V3, z1, z2, z3, z4⟩ := c4_put (G := G) (d := d) hK ha (by decide) hb ht hl hS hA hB n J O V hk hR.1 h8
  have k3 : cKe ky nT ke V3 := hk.fr hb (fr_mo z4 (fun a k q => by omega))
  have hS' : ∀ i, i < (A ++ t :: B).length → nmL (A ++ t :: B) i < nT := fun i hi => by
    have := nmL_mem hi
    rw [List.mem_append, List.mem_cons] at this
    rcases this with z | z | z
    · exact hS _ (by simp [z])
    · rw [z]; exact ht
    · exact hS _ (by simp [z])
  obtain ⟨V4, y1, y2, y3⟩ := c6_sumUp (G := G) (d := d + 4) (n := n) (J := J) (O := O) hK ha hb hS' z2 k3 (by rw [z4 (b + 3) 0 (by omega)]; exact hR.2 0 (Nat.zero_le _))
  refine ⟨V4, wX6_putName_0 hK ha ⟨V3, z1, V4, y1, rfl, rfl⟩, ⟨⟨z2.1, ?_, fun i hi => ?_⟩, y2⟩, ?_, ?_⟩
  · rw [y3 b 10 (by omega)]; exact z2.2.1
  · rw [y3 (b + 2) i (by omega)]; exact z2.2.2 i hi
  · rw [y3 b 8 (by omega)]; exact z3
  · exact fr_mo (fr_tr z4 y3) (fun a k q => by unfold frB; omega)
theorem take7 (hK : StK K) (ha : IsSt K b 6 ky) (hb : 96 ≤ b) (ht : t < nT) (hS : ∀ u, u ∈ A ++ t :: B → u < nT) (hsr : srt ke (A ++ t :: B)) : stC 4 G (d + 5) K mX6_takeName b ky nT ke t (CR 7 b ke (A ++ t :: B, g2)) (CR 7 b ke (A ++ B, g2)) (bsc ke (A ++ t :: B) t + ((A ++ t :: B).length - 1 - A.length)) ∧ stM G (d + 5) K mX12_takeFrom 7 s ky nT ke t (MR 7 s (A ++ t :: B, g2)) (MR 7 s (A ++ B, g2)) (bsc ke (A ++ t :: B) t + ((A ++ t :: B).length - 1 - A.length)) := by
  refine ⟨fun n J O V hk hR h8 => ?_, m2_take hK (Or.inr rfl) ht hS hsr⟩
  obtain ⟨V3, z1, z2, z3, z4⟩ := c4_take (G := G) (d := d) hK ha (by decide) hb ht hS hsr n J O V hk hR.1 h8
  have k3 : cKe ky nT ke V3 := hk.fr hb (fr_mo z4 (fun a k q => by omega))
  have hS' : ∀ i, i < (A ++ B).length → nmL (A ++ B) i < nT := fun i hi => by
    have := nmL_mem hi
    rw [List.mem_append] at this
    rcases this with z | z
    · exact hS _ (by simp [z])
    · exact hS _ (by simp [z])
  obtain ⟨V4, y1, y2, y3⟩ := c6_sumUp (G := G) (d := d + 4) (n := n) (J := J) (O := O) hK ha hb hS' z2 k3 (by rw [z4 (b + 3) 0 (by omega)]; exact hR.2 0 (Nat.zero_le _))
  refine ⟨V4, wX6_takeName_0 hK ha ⟨V3, z1, V4, y1, rfl, rfl⟩, ⟨⟨z2.1, ?_, fun i hi => ?_⟩, y2⟩, ?_, ?_⟩
  · rw [y3 b 10 (by omega)]; exact z2.2.1
  · rw [y3 (b + 2) i (by omega)]; exact z2.2.2 i hi
  · rw [y3 b 8 (by omega)]; exact z3
  · exact fr_mo (fr_tr z4 y3) (fun a k q => by unfold frB; omega)
theorem put3 (hK : StK K) (ha : IsSt K b 2 ky) (hb : 96 ≤ b) (ht : t < nT) (hl : L.length < 80) (hS : ∀ u, u ∈ L → u < nT) : stC 3 G (d + 5) K mX2_putName b ky nT ke t (CR 3 b ke (L, g2)) (CR 3 b ke ((hpP ke L t).1, g2)) (hpP ke L t).2 ∧ stM G (d + 5) K mX12_putIn 3 s ky nT ke t (MR 3 s (L, g2)) (MR 3 s ((hpP ke L t).1, g2)) (hpP ke L t).2 := by
  have hn : ∀ i, i < L.length + 1 → nmL (L ++ [t]) i < nT := fun i hi => by
    have := nmL_mem (L := L ++ [t]) (i := i) (by simp; omega)
    rw [List.mem_append, List.mem_singleton] at this
    rcases this with z | z
    · exact hS _ z
    · rw [z]; exact ht
  constructor
  · intro n J O V hk hR h8
    have h80 := hk.2.1
    have hR : RowC b L.length (nmL L) V := hR
    obtain ⟨V3, z1, z2, z3⟩ := c3_insertAt (G := G) (d := d + 4) (n := n) (J := J) (O := O) hK ha (by decide) hR (Nat.le_refl _) hl (t := t) (by omega)
    have z2 : RowC b (L.length + 1) (nmL (L ++ [t])) V3 := RowC_c z2 (fun i hi => nmL_0.symm)
    obtain ⟨V4, y1, y2, y3, y4⟩ := c2_rise (G := G) (d := d + 2) (n := n) (J := J) (O := O) (i := L.length) (c := 0) hK ha hb (Nat.lt_succ_self _) z2 (hk.fr hb (fr_mo z3 (fun a k q => by omega))) hn (by rw [z3 b 8 (by omega)]; exact h8)
    refine ⟨V4, wX2_putName_0 hK ha ⟨V3, ?_, nI (hup ke L.length (nmL (L ++ [t])) L.length 0).2.1, V4, ?_, rfl, rfl⟩, ?_, y3, ?_⟩
    · rw [hR.2.1]
      exact z1
    · rw [z2.2.1, show nI (L.length + 1) - 1 = nI (L.length + 1 - 1) from nI_s (show 1 ≤ L.length + 1 by omega), Nat.add_sub_cancel]
      exact y1
    · show RowC b (hpP ke L t).1.length (nmL (hpP ke L t).1) V4
      rw [hpP_len]
      exact RowC_c y2 (fun i hi => nmL_lst hi)
    · exact fr_mo (fr_tr z3 y4) (fun a k q => by unfold frB; omega)
  · intro n J O V hk h70 hR
    have hs := hk.1
    have h80 := hk.2.2.1
    have hR : RowM s L.length (nmL L) V := hR
    have f0 : fr (fun a k => a = 57 ∧ k = 32) V (up2 V 57 32 0) := f57
    obtain ⟨V3, z1, z2, z3⟩ := c12_insert (G := G) (d := d + 4) (n := n) (J := J) (O := O) hK hs (hR.fr f0) (Nat.le_refl _) hl (t := t) (by omega)
    have z2 : RowM s (L.length + 1) (nmL (L ++ [t])) V3 := RowM_c z2 (fun i hi => nmL_0.symm)
    obtain ⟨V4, y1, y2, y3, y4⟩ := c12_goUp (G := G) (d := d + 1) (n := n) (J := J) (O := O) (i := L.length) (c := 0) hK (Nat.lt_succ_self _) z2 (mKe_o hk (fr_mo (fr_tr f0 z3) (fun a k q => by omega))) hn (by rw [z3 57 32 (by omega), up2_s]; rfl)
    have f2 : fr (fun a k => (a = 57 ∧ k = 32) ∨ (a = 72 ∧ 80 * s ≤ k ∧ k < 80 * s + 80) ∨ (a = 73 ∧ k = s)) V V4 := fr_mo (fr_tr (fr_tr f0 z3) y4) (fun a k q => by omega)
    obtain ⟨x1, x2, x3⟩ := fin7 (c := (hpP ke L t).2) (s := s) f2 (fun a k q => ⟨by unfold frP; omega, by omega, by omega⟩)
    refine ⟨up7 V4 s (hpP ke L t).2, wX12_putIn_0 hK ⟨nI_v hs (by omega), ?_⟩, ?_, x1, x2, x3⟩
    · rw [nI_c (show s < 100000 by omega), hR.2.1]
      refine sw_3 h70 ⟨nI_v hs (by omega), V3, z1, nI_v hs (by omega), nI (hup ke L.length (nmL (L ++ [t])) L.length 0).2.1, V4, ?_, m_197 hK hs y3⟩
      rw [z2.2.1, show nI (L.length + 1) - 1 = nI (L.length + 1 - 1) from nI_s (show 1 ≤ L.length + 1 by omega), Nat.add_sub_cancel]
      exact y1
    · show RowM s (hpP ke L t).1.length (nmL (hpP ke L t).1) _
      rw [hpP_len]
      exact RowM_c (RowM_o y2 (fr_mo up7_fr (fun a k q => by omega))) (fun i hi => nmL_lst hi)
end
