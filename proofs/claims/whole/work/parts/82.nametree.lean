/-! ===== nameAt of a tree ===== -/
/-- what is pending: each with what is right of it -/
def tfl : List (Nat × List Nat) → List Nat
  | [] => []
  | p :: T => p.1 :: (p.2 ++ tfl T)
theorem tfl_len : ∀ T : List (Nat × List Nat), T.length ≤ (tfl T).length
  | [] => Nat.le_refl _
  | p :: T => by
    have := tfl_len T
    unfold tfl
    rw [List.length_cons, List.length_cons, List.length_append]
    omega
/-- the k-th name, if there is one -/
def nmP (L : List Nat) (k rr : Int32) : Prop := (∃ j, j < L.length ∧ k = nI j ∧ rr = nI (nmL L j)) ∨ ((∀ j, j < L.length → k ≠ nI j) ∧ rr = -1)
theorem nmP_0 {k rr : Int32} (h : nmP [] k rr) : rr = -1 := by
  rcases h with ⟨j, h1, -⟩ | ⟨-, h⟩
  · exact absurd h1 (by simp)
  · exact h
theorem nmP_n {u : Nat} {L : List Nat} {k rr : Int32} (h : nmP (u :: L) k rr) (hL : L.length < 1000) (hk : k = 0) : rr = nI u := by
  have h80 : (u :: L).length = L.length + 1 := rfl
  rcases h with ⟨j, h1, h2, h3⟩ | ⟨h1, h2⟩
  · by_cases e : j = 0
    · rw [h3, e]
      rfl
    · exact absurd (show nI 0 = nI j from by rw [← h2, hk]; rfl) (nI_nq (by omega) (by omega) (fun z => e z.symm))
  · exact absurd hk (h1 0 (by simp))
section
variable {G : Gp} {d : Nat} {K : SK} {n : Nat × Nat} {V V' : SV} {J : SJV} {O : SO} {r : Option Value}
variable {nS nT nG b m s ky : Nat} {ke : Nat → Nat} {lc rc : Nat → Option Nat} {root : Option Nat} {ins : Nat → Bool}
theorem c10_name13 (hK : StK K) (ha : IsSt K b 10 ky) (hb : 96 ≤ b) {x1 rr : Int32} : ∀ (N : Nat) (T : List (Nat × List Nat)) (o : Option Nat) (L0 : List Nat) (k : Int32) (x5 : Nat) (V : SV), x5 + N = 2 * m → N + T.length = 2 * (L0 ++ tfl T).length → (L0 ++ tfl T).length ≤ 80 → TS lc rc 80 o L0 → (∀ p, p ∈ T → TS lc rc 80 (rc p.1) p.2) → (∀ u, u ∈ L0 ++ tfl T → u < 80) → stk b (T.map (·.1)) V → TrC b m lc rc root V → nmP (L0 ++ tfl T) k rr → ∃ V', Ev G (d + 1) mX10_nameIn 13 [(0, .ref b), (1, .int x1), (2, .int k), (3, .int (moI o)), (4, .int (nI T.length)), (5, .int (nI x5))] (K, n, V, J, O) (some (.int rr)) (K, n, V', J, O) ∧ fr (fun a _ => a = b + 4) V V' := by
  intro N
  induction N with
  | zero =>
    intro T o L0 k x5 V h1 h2 h3 h4 h5 h6 h7 hT hk
    have hl := tfl_len T
    rw [List.length_append] at h2
    have e1 : L0 = [] := List.length_eq_zero_iff.mp (by omega)
    have e2 : tfl T = [] := List.length_eq_zero_iff.mp (by omega)
    rw [e1, e2] at hk
    have h80 := hT.1.1
    refine ⟨V, wX10_nameIn_13 hK ha (bt ?_ ⟨by rw [nmP_0 hk], rfl⟩), fr_rfl⟩
    rw [hT.2.1, show (2 : Int32) = nI 2 from rfl, nI_mul, nI_le' (by omega) (by omega)]
    omega
  | succ N ih =>
    intro T o L0 k x5 V h1 h2 h3 h4 h5 h6 h7 hT hk
    have h80 := hT.1.1
    have hl := tfl_len T
    have hgo : ¬ (2 : Int32) * V b 13 ≤ nI x5 := by
      rw [hT.2.1, show (2 : Int32) = nI 2 from rfl, nI_mul, nI_le' (by omega) (by omega)]
      omega
    have hpush : ∀ t, o = some t → ∃ V', Ev G (d + 1) mX10_nameIn 13 [(0, .ref b), (1, .int x1), (2, .int k), (3, .int (moI o)), (4, .int (nI T.length)), (5, .int (nI x5))] (K, n, V, J, O) (some (.int rr)) (K, n, V', J, O) ∧ fr (fun a _ => a = b + 4) V V' := by
      intro t e
      subst e
      obtain ⟨A, B, eL, q1, q2⟩ := h4
      subst eL
      have ht : t < 80 := h6 t (by simp)
      have hTl : T.length < 80 := by
        rw [List.length_append, List.length_append, List.length_cons] at h3
        omega
      have e1 : A ++ tfl ((t, B) :: T) = (A ++ t :: B) ++ tfl T := by
        show A ++ (t :: (B ++ tfl T)) = _
        simp
      have f1 : fr (fun a _ => a = b + 4) V (up2 V (b + 4) T.length (nI t)) := fr_up fr_rfl rfl
      have h7' : stk b (((t, B) :: T).map (·.1)) (up2 V (b + 4) T.length (nI t)) := by
        have := stk_push (u := t) h7
        rw [List.length_map] at this
        exact this
      obtain ⟨V', z1, z2⟩ := ih ((t, B) :: T) (lc t) A k (x5 + 1) (up2 V (b + 4) T.length (nI t)) (by omega) (by rw [e1, List.length_cons]; omega) (by rw [e1]; exact h3) (TS_mono1 q1) (fun p hp => by
        rcases List.mem_cons.mp hp with rfl | hp
        · exact TS_mono1 q2
        · exact h5 p hp) (by rw [e1]; exact h6) h7' (TrC_o hT (fr_mo f1 (fun a k q => by omega))) (by rw [e1]; exact hk)
      have hg : up2 V (b + 4) T.length (nI t) (b + 2) t = moI (lc t) := by
        rw [up2_a (by omega)]
        exact (hT.2.2.2 t ht).1
      refine ⟨V', wX10_nameIn_13 hK ha (bf hgo (nt (nI_n1 (by omega)) (bf (nI_n1 (by omega)) ⟨nI_v hTl (by omega), nI_v ht (by omega), ?_⟩))), fr_mo (fr_tr f1 z2) (fun a k q => q.elim id id)⟩
      show Ev G (d + 1) mX10_nameIn 13 [(0, .ref b), (1, .int x1), (2, .int k), (3, .int (up2 V (b + 4) (nI T.length).toNatClampNeg (nI t) (b + 2) (nI t).toNatClampNeg)), (4, .int (nI T.length + 1)), (5, .int (nI x5 + 1))] (K, n, up2 V (b + 4) (nI T.length).toNatClampNeg (nI t), J, O) _ _
      rw [nI_c (show T.length < 100000 by omega), nI_c (show t < 100000 by omega), hg, nI_1, nI_1]
      exact z1
    cases o with
    | some t => exact hpush t rfl
    | none =>
      rw [TS_none] at h4
      subst h4
      cases T with
      | nil =>
        simp [tfl] at h2
      | cons p T =>
        obtain ⟨s1, s2⟩ := stk_pop h7
        rw [List.length_map] at s2
        have e1 : ([] : List Nat) ++ tfl (p :: T) = p.1 :: (p.2 ++ tfl T) := rfl
        rw [e1] at h2 h3 h6 hk
        have hp80 : p.1 < 80 := h6 p.1 (by simp)
        have hTl : T.length < 80 := by
          rw [List.length_cons, List.length_append] at h3
          have := tfl_len T
          omega
        have hpop : ∃ V', ((k ≠ 0 → (vp_in (nI (p :: T).length + (-1)) 80 ∧ (vp_in (V (b + 4) ((nI (p :: T).length + (-1))).toNatClampNeg) 80 ∧ Ev G (d + 1) mX10_nameIn 13 [(0, .ref b), (1, .int x1), (2, .int (k + (-1))), (3, .int (V (b + 3) (V (b + 4) ((nI (p :: T).length + (-1))).toNatClampNeg).toNatClampNeg)), (4, .int (nI (p :: T).length + (-1))), (5, .int (nI x5 + 1))] (K, n, V, J, O) (some (.int rr)) (K, n, V', J, O)))) ∧ (k = 0 → (vp_in (nI (p :: T).length + (-1)) 80 ∧ (some (Value.int rr) = some (.int (V (b + 4) ((nI (p :: T).length + (-1))).toNatClampNeg)) ∧ V' = V)))) ∧ fr (fun a _ => a = b + 4) V V' := by
          rw [List.length_cons, nI_p1, nI_c (show T.length < 100000 by omega), s2, nI_c (show p.1 < 100000 by omega), (hT.2.2.2 p.1 hp80).2, nI_1]
          by_cases c : k = 0
          · exact ⟨V, nf c ⟨nI_v hTl (by omega), by rw [nmP_n hk (by rw [List.length_cons] at h3; omega) c], rfl⟩, fr_rfl⟩
          · have hk' : nmP (p.2 ++ tfl T) (k + (-1)) rr := by
              rcases hk with ⟨j, j1, j2, j3⟩ | ⟨j1, j2⟩
              · cases j with
                | zero => exact absurd j2 c
                | succ j =>
                  rw [List.length_cons] at j1
                  exact Or.inl ⟨j, by omega, by rw [j2, nI_p1], j3⟩
              · refine Or.inr ⟨fun j hj e => j1 (j + 1) (by rw [List.length_cons]; omega) ?_, j2⟩
                rw [← nI_1, ← e, Int32.add_assoc]
                simp
            obtain ⟨V', z1, z2⟩ := ih T (rc p.1) p.2 (k + (-1)) (x5 + 1) V (by omega) (by rw [List.length_cons, List.length_cons] at h2; omega) (by rw [List.length_cons] at h3; omega) (h5 p (by simp)) (fun q hq => h5 q (by simp [hq])) (fun u hu => h6 u (List.mem_cons_of_mem _ hu)) s1 hT hk'
            exact ⟨V', nt c ⟨nI_v hTl (by omega), nI_v hp80 (by omega), z1⟩, z2⟩
        obtain ⟨V', z1, z2⟩ := hpop
        refine ⟨V', wX10_nameIn_13 hK ha (bf hgo (nf rfl (bf ?_ (bt rfl z1)))), z2⟩
        show ¬ nI (p :: T).length ≤ nI 0
        rw [List.length_cons, nI_le' (by omega) (by omega)]
        omega
end
