/-! ===== taking from rows and tables; sorted ones and sums ===== -/
theorem bs_at {p : Nat → Bool} {k : Nat} : ∀ {f lo hi c : Nat}, hi - lo ≤ f → lo ≤ k → k ≤ hi → (∀ j, j < k → p j = true) → (∀ j, k ≤ j → j < hi → p j = false) → (bs p f lo hi c).1 = k
  | 0, lo, hi, c, h, h1, h2, _, _ => by
    show lo = k
    omega
  | f + 1, lo, hi, c, h, h1, h2, h3, h4 => by
    unfold bs
    by_cases hl : lo < hi
    · rw [if_pos hl]
      by_cases q : (lo + hi) / 2 < k
      · rw [if_pos (h3 _ q)]
        exact bs_at (by omega) (by omega) h2 h3 h4
      · have e := h4 ((lo + hi) / 2) (by omega) (by omega)
        rw [e, if_neg (by decide)]
        exact bs_at (by omega) h1 (by omega) h3 (fun j hj hj2 => h4 j hj (by omega))
    · rw [if_neg hl]
      show lo = k
      omega
/-- the looks by halves for t in L -/
def bsc (ke : Nat → Nat) (L : List Nat) (t : Nat) : Nat := (bs (fun i => ah ke (ke t) (some t) (nmL L i)) L.length 0 L.length 0).2
theorem bs_L {ke : Nat → Nat} {A B : List Nat} {t : Nat} (hA : ∀ u, u ∈ A → lts ke u t) (hB : ∀ u, u ∈ B → ¬ lts ke u t) : (bs (fun i => ah ke (ke t) (some t) (nmL (A ++ B) i)) (A ++ B).length 0 (A ++ B).length 0).1 = A.length := by
  refine bs_at (by omega) (Nat.zero_le _) (by simp) (fun j hj => ?_) (fun j h1 h2 => ?_)
  · rw [ah_lts, nmL_l hj]
    exact hA _ (nmL_mem hj)
  · rw [nmL_r h1]
    have h3 : j - A.length < B.length := by simp at h2; omega
    have := hB _ (nmL_mem h3)
    rw [← ah_lts] at this
    simpa using this
theorem srt_split {ke : Nat → Nat} {A B : List Nat} {t : Nat} (h : srt ke (A ++ t :: B)) : (∀ u, u ∈ A → lts ke u t) ∧ (∀ u, u ∈ B → lts ke t u) ∧ srt ke (A ++ B) := by
  obtain ⟨h1, h2, h3⟩ := List.pairwise_append.mp h
  have h4 := List.pairwise_cons.mp h2
  exact ⟨fun u hu => h3 u hu t (by simp), h4.1, List.pairwise_append.mpr ⟨h1, h4.2, fun a ha b hb => h3 a ha b (by simp [hb])⟩⟩
theorem lts_tr {ke : Nat → Nat} {a b c : Nat} (h1 : lts ke a b) (h2 : lts ke b c) : lts ke a c := by
  unfold lts at *
  omega
theorem srt_put {ke : Nat → Nat} {A B : List Nat} {t : Nat} (h : srt ke (A ++ B)) (hA : ∀ u, u ∈ A → lts ke u t) (hB : ∀ u, u ∈ B → lts ke t u) : srt ke (A ++ t :: B) := by
  obtain ⟨h1, h2, h3⟩ := List.pairwise_append.mp h
  refine List.pairwise_append.mpr ⟨h1, List.pairwise_cons.mpr ⟨hB, h2⟩, fun a ha b hb => ?_⟩
  rcases List.mem_cons.mp hb with z | z
  · rw [z]; exact hA a ha
  · exact h3 a ha b z
/-- where t goes in a sorted row -/
theorem srt_where {ke : Nat → Nat} {t : Nat} : ∀ {L : List Nat}, srt ke L → t ∉ L → ∃ A B, L = A ++ B ∧ (∀ u, u ∈ A → lts ke u t) ∧ (∀ u, u ∈ B → lts ke t u)
  | [], _, _ => ⟨[], [], rfl, by simp, by simp⟩
  | x :: L, h, hn => by
    have h2 := List.pairwise_cons.mp h
    by_cases q : lts ke x t
    · obtain ⟨A, B, e, hA, hB⟩ := srt_where (t := t) h2.2 (fun hx => hn (by simp [hx]))
      refine ⟨x :: A, B, by rw [e]; rfl, fun u hu => ?_, hB⟩
      rcases List.mem_cons.mp hu with z | z
      · rw [z]; exact q
      · exact hA u z
    · have q2 : lts ke t x := lts_to q (fun hx => hn (by rw [hx]; simp))
      refine ⟨[], x :: L, rfl, by simp, fun u hu => ?_⟩
      rcases List.mem_cons.mp hu with z | z
      · rw [z]; exact q2
      · exact lts_tr q2 (h2.1 u z)
section
variable {G : Gp} {d : Nat} {K : SK} {V V' : SV}
variable {b ci ky s nT t : Nat} {ke : Nat → Nat} {S : Nat → Prop} {g2 : (Nat → Option Nat) × (Nat → Option Nat) × Option Nat × Int32} {A B : List Nat}
theorem f57 {V : SV} {x : Int32} : fr (fun a k => a = 57 ∧ k = 32) V (up2 V 57 32 x) := fr_up fr_rfl ⟨rfl, rfl⟩
theorem take1 (hK : StK K) (ha : IsSt K b 3 ky) (hb : 96 ≤ b) (hd : t ∉ A) (ht : t < nT) : stC 3 G (d + 5) K mX3_takeName b ky nT ke t (CR 1 b ke (A ++ t :: B, g2)) (CR 1 b ke (A ++ B, g2)) (A.length + 1) ∧ stM G (d + 5) K mX12_takeFrom 1 s ky nT ke t (MR 1 s (A ++ t :: B, g2)) (MR 1 s (A ++ B, g2)) (A.length + 1) := by
  have hln : A.length < (A ++ t :: B).length := by simp
  have hl1 : (A ++ t :: B).length - 1 = (A ++ B).length := by simp only [List.length_append, List.length_cons]; omega
  constructor
  · intro n J O V hk hR h8
    have hR : RowC b (A ++ t :: B).length (nmL (A ++ t :: B)) V := hR
    have h80 := hk.2.1
    have f0 : fr (fun a k => a = b ∧ k = 8) V (up2 V b 8 (nI (A.length + 1))) := fr_up fr_rfl ⟨rfl, rfl⟩
    obtain ⟨V3, z1, z2, z3⟩ := c3_removeAt (G := G) (d := d + 4) (n := n) (J := J) (O := O) hK ha (by decide) (hR.fr f0) hln
    have hp := c3_placeOf (G := G) (d := d + 4) (n := n) (J := J) (O := O) hK ha (by decide) hR (t := t) (by omega)
    rw [ffst_at hd] at hp
    refine ⟨V3, wX3_takeName_0 hK ha (by decide) ⟨_, hp, V3, ?_, rfl, rfl⟩, ?_, ?_, ?_⟩
    · rw [h8, nI_1, nI_add, Nat.zero_add]
      exact z1
    · show RowC b (A ++ B).length (nmL (A ++ B)) V3
      rw [← hl1]
      exact RowC_c z2 (fun i hi => remF_L.symm)
    · rw [z3 b 8 (by omega), up2_s]
    · exact fr_mo (fr_tr f0 z3) (fun a k q => by unfold frB; omega)
  · intro n J O V hk h70 hR
    have hs := hk.1
    have h80 := hk.2.2.1
    have hR : RowM s (A ++ t :: B).length (nmL (A ++ t :: B)) V := hR
    have f0 : fr (fun a k => a = 57 ∧ k = 32) V (up2 (up2 V 57 32 0) 57 32 (nI (A.length + 1))) := fr_up f57 ⟨rfl, rfl⟩
    obtain ⟨V3, z1, z2, z3⟩ := c12_remove (G := G) (d := d + 4) (n := n) (J := J) (O := O) hK hs (hR.fr f0) hln
    have hp1 := c12_placeIn (G := G) (d := d + 4) (n := n) (J := J) (O := O) hK hs (hR.fr (f57 (x := 0))) (t := t) (q := A.length) (by omega) hln nmL_at
    have hp2 := c12_placeIn (G := G) (d := d + 4) (n := n) (J := J) (O := O) hK hs (hR.fr f0) (t := t) (q := A.length) (by omega) hln nmL_at
    rw [ffst_at hd] at hp1 hp2
    have f2 : fr (fun a k => (a = 57 ∧ k = 32) ∨ (a = 72 ∧ 80 * s ≤ k ∧ k < 80 * s + 80) ∨ (a = 73 ∧ k = s)) V V3 := fr_mo (fr_tr f0 z3) (fun a k q => q)
    obtain ⟨y1, y2, y3⟩ := fin7 (c := A.length + 1) (s := s) f2 (fun a k q => ⟨by unfold frP; omega, by omega, by omega⟩)
    refine ⟨up7 V3 s (A.length + 1), wX12_takeFrom_0 hK ⟨nI_v hs (by omega), ?_⟩, ?_, y1, y2, y3⟩
    · rw [nI_c (show s < 100000 by omega)]
      refine sw_1 h70 ⟨_, hp1, ?_⟩
      rw [nI_1]
      exact ⟨_, hp2, V3, z1, m_169 hK hs (by rw [z3 57 32 (by omega), up2_s])⟩
    · show RowM s (A ++ B).length (nmL (A ++ B)) _
      rw [← hl1]
      exact RowM_c (RowM_o z2 (fr_mo up7_fr (fun a k q => by omega))) (fun i hi => remF_L.symm)
theorem take4 (hK : StK K) (ha : IsSt K b 7 ky) (hb : 96 ≤ b) (hd : t ∉ A) (ht : t < nT) (hS : ∀ u, u ∈ A ++ t :: B → u < nT) : stC 3 G (d + 5) K mX7_takeName b ky nT ke t (CR 4 b ke (A ++ t :: B, g2)) (CR 4 b ke (A ++ B, g2)) ((A.filter (fun u => bk ke u == bk ke t)).length + 1) ∧ stM G (d + 5) K mX12_takeFrom 4 s ky nT ke t (MR 4 s (A ++ t :: B, g2)) (MR 4 s (A ++ B, g2)) ((A.filter (fun u => bk ke u == bk ke t)).length + 1) := by
  have hln : A.length < (A ++ t :: B).length := by simp
  have hl1 : (A ++ t :: B).length - 1 = (A ++ B).length := by simp only [List.length_append, List.length_cons]; omega
  constructor
  · intro n J O V hk hR h8
    obtain ⟨V3, z1, z2, z3, z4⟩ := c7_takeName (G := G) (d := d + 3) (n := n) (J := J) (O := O) hK ha hb hk (L1 := A) (L2 := B) (t := t) hR hS hd h8
    rw [Nat.zero_add] at z3
    exact ⟨V3, z1, z2, z3, fr_mo z4 (fun a k q => by unfold frB; omega)⟩
  · intro n J O V hk h70 hR
    have hs := hk.1
    have h80 := hk.2.2.1
    have hR : RowM s (A ++ t :: B).length (nmL (A ++ t :: B)) V := hR
    generalize hc : (A.filter (fun u => bk ke u == bk ke t)).length + 1 = c
    have f0 : fr (fun a k => a = 57 ∧ k = 32) V (up2 (up2 V 57 32 0) 57 32 (nI c)) := fr_up f57 ⟨rfl, rfl⟩
    obtain ⟨V3, z1, z2, z3⟩ := c12_remove (G := G) (d := d + 4) (n := n) (J := J) (O := O) hK hs (hR.fr f0) hln
    have hp1 := c12_inBucket (G := G) (d := d + 3) (n := n) (J := J) (O := O) hK (mKe_o hk (fr_mo (f57 (x := 0)) (fun a k q => by omega))) (hR.fr (f57 (x := 0))) hS hd
    have hp2 := c12_placeIn (G := G) (d := d + 4) (n := n) (J := J) (O := O) hK hs (hR.fr f0) (t := t) (q := A.length) (by omega) hln nmL_at
    rw [ffst_at hd] at hp2
    rw [hc] at hp1
    have f2 : fr (fun a k => (a = 57 ∧ k = 32) ∨ (a = 72 ∧ 80 * s ≤ k ∧ k < 80 * s + 80) ∨ (a = 73 ∧ k = s)) V V3 := fr_mo (fr_tr f0 z3) (fun a k q => q)
    obtain ⟨y1, y2, y3⟩ := fin7 (c := c) (s := s) f2 (fun a k q => ⟨by unfold frP; omega, by omega, by omega⟩)
    refine ⟨up7 V3 s c, wX12_takeFrom_0 hK ⟨nI_v hs (by omega), ?_⟩, ?_, y1, y2, y3⟩
    · rw [nI_c (show s < 100000 by omega)]
      exact sw_4 h70 ⟨_, hp1, _, hp2, V3, z1, m_169 hK hs (by rw [z3 57 32 (by omega), up2_s])⟩
    · show RowM s (A ++ B).length (nmL (A ++ B)) _
      rw [← hl1]
      exact RowM_c (RowM_o z2 (fr_mo up7_fr (fun a k q => by omega))) (fun i hi => remF_L.symm)
/-- sorted: the class's putting, also that of sums -/
theorem c4_put (hK : StK K) (ha : IsSt K b ci ky) (hc : ci ∈ [4, 6]) (hb : 96 ≤ b) (ht : t < nT) (hl : (A ++ B).length < 80) (hS : ∀ u, u ∈ A ++ B → u < nT) (hA : ∀ u, u ∈ A → lts ke u t) (hB : ∀ u, u ∈ B → lts ke t u) (n : Nat × Nat) (J : SJV) (O : SO) (V : SV) (hk : cKe ky nT ke V) (hR : RowC b (A ++ B).length (nmL (A ++ B)) V) (h8 : V b 8 = nI 0) : ∃ V', Ev G (d + 4) mX4_putName 0 [(0, .ref b), (1, .int (nI t))] (K, n, V, J, O) none (K, n, V', J, O) ∧ RowC b (A ++ t :: B).length (nmL (A ++ t :: B)) V' ∧ V' b 8 = nI (bsc ke (A ++ B) t + ((A ++ B).length - A.length)) ∧ fr (fun a k => a = b + 2 ∨ (a = b ∧ (k = 8 ∨ k = 10))) V V' := by
  have h80 := hk.2.1
  have h4 := hk.1
  obtain ⟨e1, e2⟩ := hk.2.2 t ht
  have hc2 : ci ∈ [2, 3, 4, 6] := by
    rcases List.mem_cons.mp hc with z | z
    · rw [z]; decide
    · rw [List.mem_singleton.mp z]; decide
  have hp := c4_placeFor (G := G) (d := d + 2) (n := n) (J := J) (O := O) (v := ke t) (o := some t) (c := 0) hK ha hc (by omega) (fun u e => by cases e; omega) hR hk (fun i hi => hS _ (nmL_mem hi)) hb h8
  rw [bs_L hA (fun u hu => lts_as (hB u hu))] at hp
  have hle : A.length ≤ (A ++ B).length := by simp
  have f0 : fr (fun a k => a = b ∧ k = 8) V (up2 V b 8 (nI (bsc ke (A ++ B) t + ((A ++ B).length - A.length)))) := fr_up fr_rfl ⟨rfl, rfl⟩
  obtain ⟨V3, z1, z2, z3⟩ := c3_insertAt (G := G) (d := d + 3) (n := n) (J := J) (O := O) hK ha hc2 (hR.fr f0) hle hl (t := t) (by omega)
  refine ⟨V3, wX4_putName_0 hK ha hc ⟨nI_v (by omega) (by omega), nI A.length, up2 V b 8 (nI (bsc ke (A ++ B) t)), ?_, V3, ?_, rfl, rfl⟩, ?_, ?_, ?_⟩
  · rw [nI_c (by omega), e1]
    exact hp
  · rw [up2_s, up2_k (by decide), hR.2.1, nI_s hle, nI_add, up2_2]
    exact z1
  · rw [show (A ++ t :: B).length = (A ++ B).length + 1 by simp; omega]
    exact RowC_c z2 (fun i hi => insF_L.symm)
  · rw [z3 b 8 (by omega), up2_s]
  · exact fr_mo (fr_tr f0 z3) (fun a k q => by omega)
theorem c4_take (hK : StK K) (ha : IsSt K b ci ky) (hc : ci ∈ [4, 6]) (hb : 96 ≤ b) (ht : t < nT) (hS : ∀ u, u ∈ A ++ t :: B → u < nT) (hsr : srt ke (A ++ t :: B)) (n : Nat × Nat) (J : SJV) (O : SO) (V : SV) (hk : cKe ky nT ke V) (hR : RowC b (A ++ t :: B).length (nmL (A ++ t :: B)) V) (h8 : V b 8 = nI 0) : ∃ V', Ev G (d + 4) mX4_takeName 0 [(0, .ref b), (1, .int (nI t))] (K, n, V, J, O) none (K, n, V', J, O) ∧ RowC b (A ++ B).length (nmL (A ++ B)) V' ∧ V' b 8 = nI (bsc ke (A ++ t :: B) t + ((A ++ t :: B).length - 1 - A.length)) ∧ fr (fun a k => a = b + 2 ∨ (a = b ∧ (k = 8 ∨ k = 10))) V V' := by
  have h80 := hk.2.1
  have h4 := hk.1
  obtain ⟨e1, e2⟩ := hk.2.2 t ht
  have hc2 : ci ∈ [2, 3, 4, 6] := by
    rcases List.mem_cons.mp hc with z | z
    · rw [z]; decide
    · rw [List.mem_singleton.mp z]; decide
  obtain ⟨hA, hB, -⟩ := srt_split hsr
  have hp := c4_placeFor (G := G) (d := d + 2) (n := n) (J := J) (O := O) (v := ke t) (o := some t) (c := 0) hK ha hc (by omega) (fun u e => by cases e; omega) hR hk (fun i hi => hS _ (nmL_mem hi)) hb h8
  rw [bs_L hA (fun u hu => (List.mem_cons.mp hu).elim (fun e => by rw [e]; exact lts_ir) (fun z => lts_as (hB u z)))] at hp
  have hln : A.length < (A ++ t :: B).length := by simp
  have hl1 : (A ++ t :: B).length - 1 = (A ++ B).length := by simp only [List.length_append, List.length_cons]; omega
  have f0 : fr (fun a k => a = b ∧ k = 8) V (up2 V b 8 (nI (bsc ke (A ++ t :: B) t + ((A ++ t :: B).length - 1 - A.length)))) := fr_up fr_rfl ⟨rfl, rfl⟩
  obtain ⟨V3, z1, z2, z3⟩ := c3_removeAt (G := G) (d := d + 3) (n := n) (J := J) (O := O) hK ha hc2 (hR.fr f0) hln
  refine ⟨V3, wX4_takeName_0 hK ha hc ⟨nI_v (by omega) (by omega), nI A.length, up2 V b 8 (nI (bsc ke (A ++ t :: B) t)), ?_, V3, ?_, rfl, rfl⟩, ?_, ?_, ?_⟩
  · rw [nI_c (by omega), e1]
    exact hp
  · rw [up2_s, up2_k (by decide), hR.2.1, show nI (A ++ t :: B).length - 1 = nI ((A ++ t :: B).length - 1) from nI_s (show 1 ≤ (A ++ t :: B).length by omega), nI_s (show A.length ≤ (A ++ t :: B).length - 1 by omega), nI_add, up2_2]
    exact z1
  · rw [← hl1]
    exact RowC_c z2 (fun i hi => remF_L.symm)
  · rw [z3 b 8 (by omega), up2_s]
  · exact fr_mo (fr_tr f0 z3) (fun a k q => by omega)
theorem m2_put (hK : StK K) {kd : Nat} (hkd : kd = 2 ∨ kd = 7) (ht : t < nT) (hl : (A ++ B).length < 80) (hS : ∀ u, u ∈ A ++ B → u < nT) (hA : ∀ u, u ∈ A → lts ke u t) (hB : ∀ u, u ∈ B → lts ke t u) : stM G (d + 5) K mX12_putIn kd s ky nT ke t (RowM s (A ++ B).length (nmL (A ++ B))) (RowM s (A ++ t :: B).length (nmL (A ++ t :: B))) (bsc ke (A ++ B) t + ((A ++ B).length - A.length)) := by
  intro n J O V hk h70 hR
  have hs := hk.1
  have h80 := hk.2.2.1
  obtain ⟨e1, e2⟩ := hk.2.2.2.2 t ht
  have f0 : fr (fun a k => a = 57 ∧ k = 32) V (up2 V 57 32 0) := f57
  have k0 : mKe s ky nT ke (up2 V 57 32 0) := mKe_o hk (fr_mo f0 (fun a k q => by omega))
  have hp := c12_placeOf (G := G) (d := d + 2) (n := n) (J := J) (O := O) (v := ke t) (o := some t) (c := 0) hK (by omega) (fun u e => by cases e; omega) (hR.fr f0) k0 (fun i hi => hS _ (nmL_mem hi)) (by rw [up2_s]; rfl)
  rw [bs_L hA (fun u hu => lts_as (hB u hu)), up2_2] at hp
  have hle : A.length ≤ (A ++ B).length := by simp
  generalize hc : bsc ke (A ++ B) t + ((A ++ B).length - A.length) = c
  have f1 : fr (fun a k => a = 57 ∧ k = 32) V (up2 V 57 32 (nI c)) := f57
  obtain ⟨V3, z1, z2, z3⟩ := c12_insert (G := G) (d := d + 4) (n := n) (J := J) (O := O) hK hs (hR.fr f1) hle hl (t := t) (by omega)
  have f2 : fr (fun a k => (a = 57 ∧ k = 32) ∨ (a = 72 ∧ 80 * s ≤ k ∧ k < 80 * s + 80) ∨ (a = 73 ∧ k = s)) V V3 := fr_mo (fr_tr f1 z3) (fun a k q => q)
  obtain ⟨y1, y2, y3⟩ := fin7 (c := c) (s := s) f2 (fun a k q => ⟨by unfold frP; omega, by omega, by omega⟩)
  have hE : Ev G (d + 5) mX12_putIn 72 [(0, .ref 57), (1, .int (nI s)), (2, .int (nI t))] (K, n, up2 V 57 32 0, J, O) none (K, n, up7 V3 s c, J, O) := by
    refine wX12_putIn_72 hK ⟨nI (ke t), c12_keyIn hK k0 ht, nI A.length, up2 V 57 32 (nI (bsc ke (A ++ B) t)), hp, nI_v hs (by omega), V3, ?_, m_197 hK hs (by rw [z3 57 32 (by omega), up2_s])⟩
    rw [nI_c (show s < 100000 by omega), up2_s, up2_a (by decide), hR.2.1, nI_s hle, nI_add, up2_2, hc]
    exact z1
  refine ⟨up7 V3 s c, wX12_putIn_0 hK ⟨nI_v hs (by omega), ?_⟩, ?_, y1, y2, y3⟩
  · rw [nI_c (show s < 100000 by omega)]
    rcases hkd with rfl | rfl
    · exact sw_2 h70 hE
    · exact sw_7 h70 hE
  · rw [show (A ++ t :: B).length = (A ++ B).length + 1 by simp; omega]
    exact RowM_c (RowM_o z2 (fr_mo up7_fr (fun a k q => by omega))) (fun i hi => insF_L.symm)
theorem m2_take (hK : StK K) {kd : Nat} (hkd : kd = 2 ∨ kd = 7) (ht : t < nT) (hS : ∀ u, u ∈ A ++ t :: B → u < nT) (hsr : srt ke (A ++ t :: B)) : stM G (d + 5) K mX12_takeFrom kd s ky nT ke t (RowM s (A ++ t :: B).length (nmL (A ++ t :: B))) (RowM s (A ++ B).length (nmL (A ++ B))) (bsc ke (A ++ t :: B) t + ((A ++ t :: B).length - 1 - A.length)) := by
  intro n J O V hk h70 hR
  have hs := hk.1
  have h80 := hk.2.2.1
  obtain ⟨e1, e2⟩ := hk.2.2.2.2 t ht
  obtain ⟨hA, hB, -⟩ := srt_split hsr
  have f0 : fr (fun a k => a = 57 ∧ k = 32) V (up2 V 57 32 0) := f57
  have k0 : mKe s ky nT ke (up2 V 57 32 0) := mKe_o hk (fr_mo f0 (fun a k q => by omega))
  have hp := c12_placeOf (G := G) (d := d + 2) (n := n) (J := J) (O := O) (v := ke t) (o := some t) (c := 0) hK (by omega) (fun u e => by cases e; omega) (hR.fr f0) k0 (fun i hi => hS _ (nmL_mem hi)) (by rw [up2_s]; rfl)
  rw [bs_L hA (fun u hu => (List.mem_cons.mp hu).elim (fun e => by rw [e]; exact lts_ir) (fun z => lts_as (hB u z))), up2_2] at hp
  have hln : A.length < (A ++ t :: B).length := by simp
  have hl1 : (A ++ t :: B).length - 1 = (A ++ B).length := by simp only [List.length_append, List.length_cons]; omega
  generalize hc : bsc ke (A ++ t :: B) t + ((A ++ t :: B).length - 1 - A.length) = c
  have f1 : fr (fun a k => a = 57 ∧ k = 32) V (up2 V 57 32 (nI c)) := f57
  obtain ⟨V3, z1, z2, z3⟩ := c12_remove (G := G) (d := d + 4) (n := n) (J := J) (O := O) hK hs (hR.fr f1) hln
  have f2 : fr (fun a k => (a = 57 ∧ k = 32) ∨ (a = 72 ∧ 80 * s ≤ k ∧ k < 80 * s + 80) ∨ (a = 73 ∧ k = s)) V V3 := fr_mo (fr_tr f1 z3) (fun a k q => q)
  obtain ⟨y1, y2, y3⟩ := fin7 (c := c) (s := s) f2 (fun a k q => ⟨by unfold frP; omega, by omega, by omega⟩)
  have hE : Ev G (d + 5) mX12_takeFrom 78 [(0, .ref 57), (1, .int (nI s)), (2, .int (nI t))] (K, n, up2 V 57 32 0, J, O) none (K, n, up7 V3 s c, J, O) := by
    refine wX12_takeFrom_78 hK ⟨nI (ke t), c12_keyIn hK k0 ht, nI A.length, up2 V 57 32 (nI (bsc ke (A ++ t :: B) t)), hp, nI_v hs (by omega), V3, ?_, m_169 hK hs (by rw [z3 57 32 (by omega), up2_s])⟩
    rw [nI_c (show s < 100000 by omega), up2_s, up2_a (by decide), hR.2.1, show nI (A ++ t :: B).length - 1 = nI ((A ++ t :: B).length - 1) from nI_s (show 1 ≤ (A ++ t :: B).length by omega), nI_s (show A.length ≤ (A ++ t :: B).length - 1 by omega), nI_add, up2_2, hc]
    exact z1
  refine ⟨up7 V3 s c, wX12_takeFrom_0 hK ⟨nI_v hs (by omega), ?_⟩, ?_, y1, y2, y3⟩
  · rw [nI_c (show s < 100000 by omega)]
    rcases hkd with rfl | rfl
    · exact sw_2 h70 hE
    · exact sw_7 h70 hE
  · rw [← hl1]
    exact RowM_c (RowM_o z2 (fr_mo up7_fr (fun a k q => by omega))) (fun i hi => remF_L.symm)
end
