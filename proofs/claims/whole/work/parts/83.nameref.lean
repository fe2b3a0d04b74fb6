/-! ===== nameAt of a tree, the reference; of a table, both ===== -/
theorem cn_mem {N : Nat} : ∀ {A : List Nat}, A.Nodup → (∀ u, u ∈ A → u < N) → cn (fun u => decide (u ∈ A)) N = A.length
  | [], _, _ => by
    have : ∀ k, cn (fun u => decide (u ∈ ([] : List Nat))) k = 0 := fun k => by
      induction k with
      | zero => rfl
      | succ k ih =>
        unfold cn
        rw [ih]
        simp
    exact this N
  | a :: A, hn, hl => by
    have h1 := cn_out (p := fun u => decide (u ∈ a :: A)) (t := a) (by simp) (k := N) (hl a (by simp))
    have h2 := cn_mem (N := N) (List.nodup_cons.mp hn).2 (fun u hu => hl u (by simp [hu]))
    rw [cn_eq (q := fun u => decide (u ∈ A)) (fun u _ => by
      unfold insT
      by_cases e : u = a
      · rw [if_pos e, e]
        have := (List.nodup_cons.mp hn).1
        simp [this]
      · rw [if_neg e]
        simp [e])] at h1
    rw [List.length_cons]
    omega
section
variable {G : Gp} {d : Nat} {K : SK} {n : Nat × Nat} {V V' : SV} {J : SJV} {O : SO} {r : Option Value}
variable {nS nT nG b m s ky i : Nat} {ke : Nat → Nat} {fl : Nat → Nat → Nat} {lc rc : Nat → Option Nat} {root : Option Nat} {ins : Nat → Bool} {L : List Nat}
/-- ahead of it, and in -/
def ahd (ke : Nat → Nat) (ins : Nat → Bool) (t : Nat) : Nat → Bool := fun u => ins u && ah ke (ke t) (some t) u
theorem ahd_n {A B : List Nat} {t : Nat} (hL : hld (inS nT ins) (A ++ t :: B)) (hs : srt ke (A ++ t :: B)) : cn (ahd ke ins t) nT = A.length := by
  have hA : ∀ u, u ∈ A → lts ke u t := fun u hu => (List.pairwise_append.mp hs).2.2 u hu t (by simp)
  have hB : ∀ u, u ∈ B → lts ke t u := fun u hu => (List.pairwise_cons.mp (List.pairwise_append.mp hs).2.1).1 u hu
  rw [cn_eq (q := fun u => decide (u ∈ A)) (fun u hu => ?_)]
  · exact cn_mem (List.nodup_append.mp hL.1).1 (fun u hu => ((hL.2 u).mp (by simp [hu])).1)
  · unfold ahd
    by_cases c : u ∈ A
    · have h1 := ((hL.2 u).mp (by simp [c])).2
      have h2 : ah ke (ke t) (some t) u = true := by
        rw [ah_lts]
        exact hA u c
      rw [h1, h2]
      simp [c]
    · have : (ins u && ah ke (ke t) (some t) u) = false := by
        apply Bool.eq_false_iff.mpr
        intro q
        rw [Bool.and_eq_true, ah_lts] at q
        have := (hL.2 u).mpr ⟨hu, q.1⟩
        rw [List.mem_append, List.mem_cons] at this
        rcases this with z | z | z
        · exact c z
        · rw [z] at q
          exact lts_ir q.2
        · exact lts_as q.2 (hB u z)
      rw [this]
      simp [c]
theorem m_ahead5 (hK : StK K) (hk : mKe s ky nT ke V) (hm : mT nT fl ins V) {t : Nat} (ht : t < nT) : ∀ (k i : Nat), i + k = nT → Ev G (d + 3) mX12_aheadOf 5 [(0, .ref 57), (1, .int (nI s)), (2, .int (nI t)), (3, .int (nI (cn (ahd ke ins t) i))), (4, .int (nI i))] (K, n, V, J, O) (some (.int (nI (cn (ahd ke ins t) nT)))) (K, n, V, J, O)
  | 0, i, h => by
    have h80 := hm.1
    obtain rfl : i = nT := by omega
    exact wX12_aheadOf_5 hK (bt (by rw [hm.2.1]; exact Int32.le_refl _) rfl)
  | k + 1, i, h => by
    have h80 := hm.1
    refine wX12_aheadOf_5 hK (bf ?_ ⟨nI_v (by omega) (by omega), ?_⟩)
    · rw [hm.2.1, nI_le' (by omega) (by omega)]
      omega
    · rw [nI_c (by omega), hm.2.2.2 i (by omega)]
      have hn := m_ahead5 hK hk hm ht k (i + 1) (by omega)
      have e0 : (nI (cn (ahd ke ins t) i)) + 0 = nI (cn (ahd ke ins t) i) := nI_add _ 0
      by_cases c1 : ins i = true
      · refine bz_y c1 ⟨_, c12_isLess hK hk (by omega) ht, ?_⟩
        by_cases c2 : ah ke (ke t) (some t) i = true
        · refine bz_y c2 ?_
          have e1 : cn (ahd ke ins t) (i + 1) = cn (ahd ke ins t) i + 1 := by
            show cn (ahd ke ins t) i + _ = _
            rw [if_pos (by unfold ahd; rw [c1, c2]; rfl)]
          rw [nI_1, nI_1, ← e1]
          exact hn
        · refine bz_n c2 ?_
          have e1 : cn (ahd ke ins t) (i + 1) = cn (ahd ke ins t) i := by
            show cn (ahd ke ins t) i + _ = _
            rw [if_neg (by unfold ahd; rw [c1, Bool.true_and]; exact c2)]
            rfl
          rw [e0, nI_1, ← e1]
          exact hn
      · refine bz_n c1 ?_
        have e1 : cn (ahd ke ins t) (i + 1) = cn (ahd ke ins t) i := by
          show cn (ahd ke ins t) i + _ = _
          rw [if_neg (by unfold ahd; rw [Bool.eq_false_iff.mpr c1]; simp)]
          rfl
        rw [e0, nI_1, ← e1]
        exact hn
theorem m_ahead (hK : StK K) (hk : mKe s ky nT ke V) (hm : mT nT fl ins V) {t : Nat} (ht : t < nT) : Ev G (d + 3) mX12_aheadOf 0 [(0, .ref 57), (1, .int (nI s)), (2, .int (nI t))] (K, n, V, J, O) (some (.int (nI (cn (ahd ke ins t) nT)))) (K, n, V, J, O) := wX12_aheadOf_0 hK (m_ahead5 hK hk hm ht nT 0 (by omega))
theorem m_name68 (hK : StK K) (hk : mKe s ky nT ke V) (hm : mT nT fl ins V) {A B : List Nat} {t : Nat} (hL : hld (inS nT ins) (A ++ t :: B)) (hs : srt ke (A ++ t :: B)) : ∀ (k i : Nat), i + k = t → Ev G (d + 4) mX12_nameAt 68 [(0, .ref 57), (1, .int (nI s)), (2, .int (nI A.length)), (3, .int (nI i))] (K, n, V, J, O) (some (.int (nI t))) (K, n, V, J, O)
  | 0, i, h => by
    have h80 := hm.1
    obtain rfl : i = t := by omega
    have hin := (hL.2 i).mp (by simp)
    have hlt := hin.1
    refine wX12_nameAt_68 hK ⟨nI_v (by omega) (by omega), ?_⟩
    rw [nI_c (by omega), hm.2.2.2 i hlt]
    refine bz_y hin.2 ⟨_, m_ahead hK hk hm hlt, ?_⟩
    rw [ahd_n hL hs]
    exact bt rfl rfl
  | k + 1, i, h => by
    have h80 := hm.1
    have hlt := ((hL.2 t).mp (by simp)).1
    have hn := m_name68 hK hk hm hL hs k (i + 1) (by omega)
    refine wX12_nameAt_68 hK ⟨nI_v (by omega) (by omega), ?_⟩
    rw [nI_c (by omega), hm.2.2.2 i (by omega), nI_1]
    by_cases c1 : ins i = true
    · refine bz_y c1 ⟨_, m_ahead hK hk hm (by omega), ?_⟩
      obtain ⟨A', B', e⟩ := hld_split hL (t := i) ⟨by omega, c1⟩
      have hlen := hld_len hL (N := nT) (fun t h => h.1)
      have hlen' := hlen
      rw [e, List.length_append, List.length_cons] at hlen'
      rw [List.length_append, List.length_cons] at hlen
      have e2 := ahd_n (A := A') (B := B') (t := i) (e ▸ hL) (e ▸ hs)
      rw [e2]
      refine bf (nI_nq (by omega) (by omega) (fun z => ?_)) hn
      have y1 := nmL_at (A := A) (B := B) (t := t)
      have y2 := nmL_at (A := A') (B := B') (t := i)
      rw [e, ← z, y2] at y1
      omega
    · exact bz_n c1 hn
/-- a table, of the reference: from place i of the bucket b on -/
theorem m_name132 (hK : StK K) (hk : mKe s ky nT ke V) (hR : RowM s L.length (nmL L) V) (hn : ∀ u, u ∈ L → u < nT) (hke : ∀ u, u ∈ L → ke u < 100) {x2 : Int32} {b : Nat} (hb : b < 8) {R : List Nat} (hR8 : ∀ j, j < 1000 → j < R.length → Ev G (d + 1) mX12_nameAt 122 [(0, .ref 57), (1, .int (nI s)), (2, .int x2), (3, .int (nI j)), (4, .int (nI (b + 1)))] (K, n, V, J, O) (some (.int (nI (nmL R j)))) (K, n, V, J, O)) : ∀ (k i j : Nat), i + k = L.length → j < 1000 → j < ((L.drop i).filter (fun t => bk ke t == b) ++ R).length → Ev G (d + 1) mX12_nameAt 132 [(0, .ref 57), (1, .int (nI s)), (2, .int x2), (3, .int (nI j)), (4, .int (nI b)), (5, .int (nI i))] (K, n, V, J, O) (some (.int (nI (nmL ((L.drop i).filter (fun t => bk ke t == b) ++ R) j)))) (K, n, V, J, O)
  | 0, i, j, h, hj5, hj => by
    have h80 := hR.1
    have e0 : L.drop i = [] := List.drop_eq_nil_of_le (by omega)
    rw [e0] at hj ⊢
    have hs := hk.1
    refine wX12_nameAt_132 hK ⟨nI_v (by omega) (by omega), ?_⟩
    rw [nI_c (by omega), hR.2.1, nI_1]
    exact bt (by rw [nI_le' (by omega) (by omega)]; omega) (hR8 j hj5 hj)
  | k + 1, i, j, h, hj5, hj => by
    have h80 := hR.1
    have hs := hk.1
    have hi : i < L.length := by omega
    have e0 : L.drop i = nmL L i :: L.drop (i + 1) := by
      rw [nmL_get hi]
      exact List.drop_eq_getElem_cons hi
    have hm := nmL_mem hi
    refine wX12_nameAt_132 hK ⟨nI_v (by omega) (by omega), ?_⟩
    rw [nI_c (show s < 100000 by omega), hR.2.1, ix80]
    refine bf (by rw [nI_le' (by omega) (by omega)]; omega) ⟨nI_v (by omega) (by omega), ?_⟩
    rw [nI_c (by omega), (hR.2.2 i hi).1]
    refine ⟨_, c12_keyIn hK hk (hn _ hm), ?_⟩
    have hkl := hke _ hm
    have hbl : ke (nmL L i) % 8 < 8 := Nat.mod_lt _ (by decide)
    rw [rem8 (by omega), nI_1]
    rw [e0] at hj ⊢
    by_cases c : ke (nmL L i) % 8 = b
    · have ef : (nmL L i :: L.drop (i + 1)).filter (fun t => bk ke t == b) = nmL L i :: (L.drop (i + 1)).filter (fun t => bk ke t == b) := by
        rw [List.filter_cons, if_pos (by unfold bk; rw [c]; simp)]
      rw [ef] at hj ⊢
      refine nf (by rw [c]) ?_
      cases j with
      | zero => exact nf rfl rfl
      | succ j =>
        rw [List.cons_append, List.length_cons] at hj
        refine nt (nI_nq (b := 0) (by omega) (by omega) (by omega)) ?_
        rw [nI_p1]
        exact m_name132 hK hk hR hn hke hb hR8 k (i + 1) j (by omega) (by omega) (by omega)
    · have ef : (nmL L i :: L.drop (i + 1)).filter (fun t => bk ke t == b) = (L.drop (i + 1)).filter (fun t => bk ke t == b) := by
        rw [List.filter_cons, if_neg (by unfold bk; simp; exact c)]
      rw [ef] at hj ⊢
      refine nt (nI_nq (by omega) (by omega) c) ?_
      exact m_name132 hK hk hR hn hke hb hR8 k (i + 1) j (by omega) hj5 hj
theorem m_name122 (hK : StK K) (hk : mKe s ky nT ke V) (hR : RowM s L.length (nmL L) V) (hn : ∀ u, u ∈ L → u < nT) (hke : ∀ u, u ∈ L → ke u < 100) {x2 : Int32} : ∀ (k b j : Nat), b + k = 8 → j < 1000 → j < (seg ke L b k).length → Ev G (d + 1) mX12_nameAt 122 [(0, .ref 57), (1, .int (nI s)), (2, .int x2), (3, .int (nI j)), (4, .int (nI b))] (K, n, V, J, O) (some (.int (nI (nmL (seg ke L b k) j)))) (K, n, V, J, O)
  | 0, b, j, h, hj5, hj => absurd hj (by simp [seg])
  | k + 1, b, j, h, hj5, hj => by
    refine wX12_nameAt_122 hK (bf ?_ ?_)
    · show ¬ nI 8 ≤ nI b
      rw [nI_le' (by omega) (by omega)]
      omega
    · exact m_name132 (R := seg ke L (b + 1) k) hK hk hR hn hke (by omega) (fun j' hj5' hj' => m_name122 hK hk hR hn hke k (b + 1) j' (by omega) hj5' hj') L.length 0 j (by omega) hj5 hj
end
