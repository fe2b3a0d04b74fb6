/-! ===== shift, taken ===== -/
def abv (k : Nat) : Nat := if k = 2 ∨ k = 3 then 1 else if k = 6 then 4 else if k = 7 then 2 else 0
def isU (k q : Nat) : Bool := decide (q = 0 ∨ k = q ∨ abv k = q ∨ abv (abv k) = q)
theorem isU_up : ∀ k, k < 8 → ∀ q, q < 8 → k ≠ q → k ≠ 0 → isU k q = isU (abv k) q := by decide
theorem isU_s : ∀ k, k < 8 → isU k k = true := by decide
theorem isU_0 : ∀ q, q < 8 → q ≠ 0 → isU 0 q = false := by decide
theorem abv_lt : ∀ k, k < 8 → k ≠ 0 → abv k < k := by decide
theorem nI_nq {a b : Nat} (ha : a < 100000) (hb : b < 100000) (h : a ≠ b) : nI a ≠ nI b := by
  rw [nI_ne ha hb]
  exact h
section
variable {G : Gp} {d : Nat} {K : SK} {n : Nat × Nat} {V V' : SV} {J J' : SJV} {O O' : SO} {r : Option Value}
variable {nS nT i k q : Nat} {ad kd ky : Nat → Nat} {fl : Nat → Nat → Nat} {ins : Nat → Bool} {x : Nat → SX} {sh : Nat → SHT} {y : Int32}
theorem c11_isOfKind {b kyy : Nat} (hK : StK K) (hk : k ≤ 7) (hq : q ≤ 7) (hI : IsSt K b (kc k) kyy) : Ev G d mX11_isOfKind 0 [(0, .ref b), (1, .int (nI q))] (K, n, V, J, O) (some (.int (bI (isU k q = true)))) (K, n, V, J, O) := by
  rcases kd_cases hq with rfl | rfl | rfl | rfl | rfl | rfl | rfl | rfl <;> rcases kd_cases hk with rfl | rfl | rfl | rfl | rfl | rfl | rfl | rfl <;> refine wX11_isOfKind_0 hK hI (by decide) ⟨fun e => ?_, fun e => ?_, fun e => ?_, fun e => ?_, fun e => ?_, fun e => ?_, fun e => ?_, fun e => ?_⟩ <;> first | exact absurd e (by decide) | exact rfl | exact Or.inl ⟨by decide, rfl⟩ | exact Or.inr ⟨by decide, rfl⟩
theorem m_taken59 (hK : StK K) (hi : i < 6) {a kk : Nat} (h92 : V 92 i = nI a) (ha : a < 10) (h70 : V 70 a = nI kk) (hq : q ≤ 7) : ∀ k, k ≤ 7 → Ev G (d + 1) mX12_taken 59 [(0, .ref 57), (1, .int (nI i)), (2, .int (nI q)), (3, .int (nI k))] (K, n, V, J, O) (some (.int (if isU k q = true then nI kk else -12))) (K, n, V, J, O) := by
  intro k
  induction k using Nat.strongRecOn with
  | _ k ih =>
    intro hk
    refine wX12_taken_59 hK ?_
    by_cases e : k = q
    · subst e
      refine bt rfl (nf rfl ⟨nI_v hi (by omega), ?_, ?_⟩)
      · rw [nI_c (by omega), h92]
        exact nI_v ha (by omega)
      · rw [nI_c (by omega), h92, nI_c (by omega), h70, if_pos (isU_s k (by omega))]
    · refine bf (nI_nq (by omega) (by omega) e) ?_
      by_cases e0 : k = 0
      · subst e0
        refine bt (by decide) (nt (nI_nq (by omega) (by omega) e) ?_)
        rw [isU_0 q (by omega) (fun z => e z.symm), if_neg (by decide)]
      · refine bf ?_ ⟨_, c12_above hK hk, ?_⟩
        · show ¬ nI k ≤ nI 0
          rw [nI_le' (by omega) (by omega)]
          omega
        · rw [isU_up k (by omega) q (by omega) e e0]
          exact ih (abv k) (abv_lt k (by omega) e0) (by have := abv_lt k (by omega) e0; omega)
theorem p_taken (hK : StK K) (hS : StR nS nT ad kd ky fl ins K O x V) (h : ShR nS ad sh V J O) {x1 x2 : Int32} : ∃ r : Int32, Ev G (d + 3) mX11_taken 0 [(0, .ref 0), (1, .int x1), (2, .int x2)] (K, n, V, J, O) (some (.int r)) (K, n, V, J, O) ∧ Ev G (d + 3) mX12_taken 0 [(0, .ref 57), (1, .int x1), (2, .int x2)] (K, n, V, J, O) (some (.int r)) (K, n, V, J, O) := by
  by_cases h1 : ∃ k, k ≤ 5 ∧ x1 = nI k
  · obtain ⟨i, hi, rfl⟩ := h1
    have hi6 : i < 6 := by omega
    have hv : vp_in (nI i) 6 := nI_v hi6 (by omega)
    have hci : (nI i).toNatClampNeg = i := nI_c (by omega)
    have w1 := (yesShelf (G := G) (d := d + 1) (n := n) (V := V) (J := J) (O := O) hK hi6)
    by_cases h2 : ∃ k, k ≤ 7 ∧ x2 = nI k
    · obtain ⟨q, hq, rfl⟩ := h2
      have t1 : Ev G (d + 2) mX11_isWithin 0 [(0, .int (nI q)), (1, .int 0), (2, .int 7)] (K, n, V, J, O) (some (.int 1)) (K, n, V, J, O) := x_wi (N := 7) hK (by decide) hq
      have t2 : Ev G (d + 2) mX12_within 0 [(0, .long (nI q).toInt64), (2, .long (0 : Int64)), (4, .long (7 : Int64))] (K, n, V, J, O) (some (.int 1)) (K, n, V, J, O) := m_wi (N := 7) hK (by decide) (by decide) hq
      have hn := c11_holdsNothing (G := G) (d := d + 2) (n := n) (J := J) hK hS h hi6
      have ho := h.2.2 i hi6
      cases e : sh i with
      | none =>
        rw [e] at ho
        refine ⟨-11, wX11_taken_0 hK ⟨_, w1.1, bf one0 ⟨_, t1, nt one0 ⟨_, ev_b hn e, bf one0 rfl⟩⟩⟩, wX12_taken_0 hK ⟨_, w1.2, bf one0 ⟨_, t2, nt one0 ⟨hv, bf ?_ rfl⟩⟩⟩⟩
        rw [hci, ho.2.2]
        decide
      | some s =>
        rw [e] at ho
        have hn0 := ev_n hn (by rw [e]; simp)
        cases s with
        | inl a =>
          obtain ⟨b1, b2, b3, b4⟩ := ho
          have b10 : a < 10 := by have := hS.1.1; omega
          obtain ⟨⟨⟨h96, hkd, hky⟩, hO, hIs⟩, -⟩ := hS.2.1 a b1
          have h70 := (hS.2.2.1 a b1).2.1.1
          have t3 := c11_isOfKind (G := G) (d := d + 2) (n := n) (V := V) (J := J) (O := O) hK hkd hq hIs
          obtain ⟨M, t4, t5⟩ := c_kind (G := G) (d := d + 2) (n := n) (V := V) (J := J) (O := O) hK hkd hIs
          have hm := m_taken59 (G := G) (d := d + 2) (n := n) (J := J) (O := O) hK hi6 b4 b10 h70 hq (kd a) hkd
          refine ⟨if isU (kd a) q = true then nI (kd a) else -12, wX11_taken_0 hK ⟨_, w1.1, bf one0 ⟨_, t1, nt one0 ⟨_, hn0, bt rfl ⟨hv, Or.inr ⟨ad a, kc (kd a), ky a, by rw [hci]; exact b2, hIs, kc_in hkd, _, t3, ?_⟩⟩⟩⟩⟩, wX12_taken_0 hK ⟨_, w1.2, bf one0 ⟨_, t2, nt one0 ⟨hv, bt ?_ ⟨hv, bt ?_ ⟨hv, ?_, ?_⟩⟩⟩⟩⟩⟩
          · by_cases c : isU (kd a) q = true
            · rw [bI_t c, if_pos c]
              exact nt one0 ⟨M, t4, _, t5, rfl⟩
            · rw [bI_f c, if_neg c]
              exact nf rfl rfl
          · rw [hci, b4]
            exact nI_pos' (by omega)
          · rw [hci, b4]
            show nI a < nI 10
            rw [nI_l' (by omega) (by omega)]
            exact b10
          · rw [hci, b4]
            exact nI_v b10 (by omega)
          · rw [hci, b4, nI_c (by omega), h70]
            exact hm
        | inr p =>
          obtain ⟨⟨g1, g1'⟩, g2, g3, g4, g5, g6⟩ := ho
          refine ⟨-12, wX11_taken_0 hK ⟨_, w1.1, bf one0 ⟨_, t1, nt one0 ⟨_, hn0, bt rfl ⟨hv, Or.inl ⟨by rw [hci]; exact g2, rfl⟩⟩⟩⟩⟩, wX12_taken_0 hK ⟨_, w1.2, bf one0 ⟨_, t2, nt one0 ⟨hv, bt ?_ ⟨hv, bf ?_ rfl⟩⟩⟩⟩⟩
          · rw [hci, g5]
            exact nI_pos' (by omega)
          · rw [hci, g5]
            show ¬ nI (10 + p.1) < nI 10
            rw [nI_l' (by omega) (by omega)]
            omega
    · exact ⟨-1, wX11_taken_0 hK ⟨_, w1.1, bf one0 ⟨_, x_win (N := 7) hK (by decide) h2, nf rfl rfl⟩⟩, wX12_taken_0 hK ⟨_, w1.2, bf one0 ⟨_, m_win (N := 7) hK (by decide) (by decide) h2, nf rfl rfl⟩⟩⟩
  · obtain ⟨n1, n2⟩ := noShelf (G := G) (d := d + 1) (n := n) (V := V) (J := J) (O := O) hK h1
    exact ⟨-1, wX11_taken_0 hK ⟨_, n1, bt rfl rfl⟩, wX12_taken_0 hK ⟨_, n2, bt rfl rfl⟩⟩
theorem m_sh150 (hK : StK K) {a b c e m : Nat} (hm : m ≤ 60) (hc : c < 6) (he : e + m ≤ 60) : ∀ k j J, j + k = m → Ev G (d + 1) mX12_shift 150 [(0, .ref 57), (1, .int (nI a)), (2, .int (nI b)), (3, .int (nI c)), (4, .int (nI e)), (5, .int (nI m)), (6, .int (nI j))] (K, n, V, cpJ J 95 94 0 (60 * c + e) j, O) (some (.int (nI m))) (K, n, V, cpJ J 95 94 0 (60 * c + e) m, O)
  | 0, j, J, h => by
    obtain rfl : j = m := by omega
    exact wX12_shift_150 hK (bt (Int32.le_refl _) ⟨rfl, rfl⟩)
  | k + 1, j, J, h => by
    refine wX12_shift_150 hK ?_
    refine bf (by rw [nI_le' (by omega) (by omega)]; omega) ⟨nI_v (by omega) (by omega), ?_, ?_⟩
    · rw [ix60', nI_add, nI_add]
      exact nI_v (by omega) (by omega)
    · rw [ix60', nI_add, nI_add, nI_c (by omega), nI_c (by omega), nI_1, cpJ_o (by decide), show J 95 j = J 95 (0 + j) by rw [Nat.zero_add], cpJ_up]
      exact m_sh150 hK hm hc he k (j + 1) J (by omega)
theorem m_sh113 (hK : StK K) {a b c e m : Nat} (hm : m ≤ 60) (ha : a < 6) (hb : b + m ≤ 60) (hv : Ev G (d + 1) mX12_shift 150 [(0, .ref 57), (1, .int (nI a)), (2, .int (nI b)), (3, .int (nI c)), (4, .int (nI e)), (5, .int (nI m)), (6, .int (nI 0))] (K, n, V, cpJ J 94 95 (60 * a + b) 0 m, O) r (K, n, V, J', O)) : ∀ k j, j + k = m → Ev G (d + 1) mX12_shift 113 [(0, .ref 57), (1, .int (nI a)), (2, .int (nI b)), (3, .int (nI c)), (4, .int (nI e)), (5, .int (nI m)), (6, .int (nI j))] (K, n, V, cpJ J 94 95 (60 * a + b) 0 j, O) r (K, n, V, J', O)
  | 0, j, h => by
    obtain rfl : j = m := by omega
    exact wX12_shift_113 hK (bt (Int32.le_refl _) hv)
  | k + 1, j, h => by
    refine wX12_shift_113 hK ?_
    refine bf (by rw [nI_le' (by omega) (by omega)]; omega) ⟨?_, nI_v (by omega) (by omega), ?_⟩
    · rw [ix60', nI_add, nI_add]
      exact nI_v (by omega) (by omega)
    · have := cpJ_up (J := J) (a := 94) (b := 95) (sp := 60 * a + b) (dp := 0) (k := j)
      rw [Nat.zero_add] at this
      rw [ix60', nI_add, nI_add, nI_c (by omega), nI_c (by omega), nI_1, cpJ_o (by decide), this]
      exact m_sh113 hK hm ha hb hv k (j + 1) (by omega)
theorem p_shift (hK : StK K) (hS : StR nS nT ad kd ky fl ins K O x V) (h : ShR nS ad sh V J O) {x1 x2 x3 x4 x5 : Int32} : ∃ (r : Int32) (J1 J2 : SJV), Ev G (d + 3) mX11_shift 0 [(0, .ref 0), (1, .int x1), (2, .int x2), (3, .int x3), (4, .int x4), (5, .int x5)] (K, n, V, J, O) (some (.int r)) (K, n, V, J1, O) ∧ Ev G (d + 3) mX12_shift 0 [(0, .ref 57), (1, .int x1), (2, .int x2), (3, .int x3), (4, .int x4), (5, .int x5)] (K, n, V, J1, O) (some (.int r)) (K, n, V, J2, O) ∧ ShR nS ad sh V J2 O := by
  by_cases h1 : ∃ k, k ≤ 5 ∧ x1 = nI k
  · obtain ⟨a, ha, rfl⟩ := h1
    have ha6 : a < 6 := by omega
    have hva : vp_in (nI a) 6 := nI_v ha6 (by omega)
    have hca : (nI a).toNatClampNeg = a := nI_c (by omega)
    have wa := fun J => (yesShelf (G := G) (d := d + 1) (n := n) (V := V) (J := J) (O := O) hK ha6)
    by_cases h2 : ∃ k, k ≤ 5 ∧ x3 = nI k
    · obtain ⟨c, hc, rfl⟩ := h2
      have hc6 : c < 6 := by omega
      have hvc : vp_in (nI c) 6 := nI_v hc6 (by omega)
      have hcc : (nI c).toNatClampNeg = c := nI_c (by omega)
      have wc := fun J => (yesShelf (G := G) (d := d + 1) (n := n) (V := V) (J := J) (O := O) hK hc6)
      have na := c11_holdsNothing (G := G) (d := d + 2) (n := n) (J := J) hK hS h ha6
      have nc := c11_holdsNothing (G := G) (d := d + 2) (n := n) (J := J) hK hS h hc6
      have oa := h.2.2 a ha6
      have oc := h.2.2 c hc6
      have h10 := h.1
      by_cases ea : sh a = none
      · rw [ea] at oa
        refine ⟨-11, J, J, wX11_shift_0 hK ⟨_, (wa _).1, bf one0 ⟨_, (wc _).1, nt one0 ⟨_, ev_b na ea, nt one0 ⟨rfl, rfl⟩⟩⟩⟩, wX12_shift_0 hK ⟨_, (wa _).2, bf one0 ⟨_, (wc _).2, nt one0 ⟨hva, bt ?_ ⟨rfl, rfl⟩⟩⟩⟩, h⟩
        rw [hca, oa.2.2]
        decide
      have p92a : ¬ V 92 a < 0 := by
        cases e : sh a with
        | none => exact absurd e ea
        | some s =>
          rw [e] at oa
          cases s with
          | inl b =>
            rw [oa.2.2.2]
            have := oa.1
            exact nI_pos (by omega)
          | inr p =>
            rw [oa.2.2.2.2.1]
            have := oa.1
            exact nI_pos (by omega)
      by_cases ec : sh c = none
      · rw [ec] at oc
        refine ⟨-11, J, J, wX11_shift_0 hK ⟨_, (wa _).1, bf one0 ⟨_, (wc _).1, nt one0 ⟨_, ev_n na ea, nf rfl ⟨_, ev_b nc ec, bf one0 ⟨rfl, rfl⟩⟩⟩⟩⟩, wX12_shift_0 hK ⟨_, (wa _).2, bf one0 ⟨_, (wc _).2, nt one0 ⟨hva, bf (by rw [hca]; exact p92a) ⟨hvc, bf ?_ ⟨rfl, rfl⟩⟩⟩⟩⟩, h⟩
        rw [hcc, oc.2.2]
        decide
      have p92c : 0 ≤ V 92 c := by
        cases e : sh c with
        | none => exact absurd e ec
        | some s =>
          rw [e] at oc
          cases s with
          | inl b =>
            rw [oc.2.2.2]
            have := oc.1
            exact nI_pos' (by omega)
          | inr p =>
            rw [oc.2.2.2.2.1]
            have := oc.1
            exact nI_pos' (by omega)
      have cls : ∀ {rr : Int32} {JJ : SJV}, (V 48 a = -1 ∧ rr = -12 ∧ JJ = J ∨ V 48 a ≠ -1 ∧ (V 48 a ≠ V 48 c ∧ rr = -12 ∧ JJ = J ∨ V 48 a = V 48 c ∧ (∃ v8 : Int32, Ev G (d + 2) mX11_hasPlaces 0 [(0, .ref 0), (1, .int (nI a)), (2, .int x2), (3, .int x5)] (K, n, V, J, O) (some (.int v8)) (K, n, V, J, O) ∧ ((v8 = 0 → (rr = -13 ∧ JJ = J)) ∧ (¬ v8 = 0 → (∃ (v9 : Int32), Ev G (d + 2) mX11_hasPlaces 0 [(0, .ref 0), (1, .int (nI c)), (2, .int x4), (3, .int x5)] (K, n, V, J, O) (some (.int v9)) (K, n, V, J, O) ∧ ((v9 ≠ 0 → ((¬ x2 < 0 ∧ ¬ x4 < 0 ∧ ¬ x5 < 0 ∧ x2.toNatClampNeg + x5.toNatClampNeg ≤ 60 ∧ x4.toNatClampNeg + x5.toNatClampNeg ≤ 60) ∧ rr = x5 ∧ JJ = upA J (50 + 1 + c) (va_cpy (J (50 + 1 + a)) (J (50 + 1 + c)) x2.toNatClampNeg x4.toNatClampNeg x5.toNatClampNeg))) ∧ (v9 = 0 → (rr = -13 ∧ JJ = J))))))))) → Ev G (d + 3) mX11_shift 0 [(0, .ref 0), (1, .int (nI a)), (2, .int x2), (3, .int (nI c)), (4, .int x4), (5, .int x5)] (K, n, V, J, O) (some (.int rr)) (K, n, V, JJ, O) := by
        intro rr JJ hq
        refine wX11_shift_0 hK ⟨_, (wa _).1, bf one0 ⟨_, (wc _).1, nt one0 ⟨_, ev_n na ea, nf rfl ⟨_, ev_n nc ec, bt rfl ⟨hva, ?_⟩⟩⟩⟩⟩
        rw [hca, hcc]
        rcases hq with ⟨q1, q2, q3⟩ | ⟨q1, q2⟩
        · rw [q2, q3]
          exact bt q1 ⟨rfl, rfl⟩
        · refine bf q1 ⟨hva, hvc, ?_⟩
          rcases q2 with ⟨q2, q3, q4⟩ | ⟨q2, v8, q3, q4⟩
          · rw [q3, q4]
            exact bf q2 ⟨rfl, rfl⟩
          · refine bt q2 ⟨v8, q3, fun z => ?_, fun z => ?_⟩
            · obtain ⟨y1, y2⟩ := q4.1 z
              rw [y1, y2]
              exact ⟨rfl, rfl⟩
            · obtain ⟨v9, y1, y2⟩ := q4.2 z
              refine ⟨v9, y1, fun w => ?_, fun w => ?_⟩
              · obtain ⟨u1, u2, u3⟩ := y2.1 w
                exact ⟨hva, hvc, u1, by rw [u2], u3⟩
              · obtain ⟨u1, u2⟩ := y2.2 w
                rw [u1, u2]
                exact ⟨rfl, rfl⟩
      have rfn : ∀ {rr : Int32} {J1 JJ : SJV}, (V 92 a < 10 ∧ rr = -12 ∧ JJ = J1 ∨ ¬ V 92 a < 10 ∧ (V 92 a ≠ V 92 c ∧ rr = -12 ∧ JJ = J1 ∨ V 92 a = V 92 c ∧ ((x5 < 0 ∨ x2 < 0 ∨ x4 < 0 ∨ V 93 a - x5 < x2 ∨ ¬ x4 ≤ V 93 c - x5) ∧ rr = -13 ∧ JJ = J1 ∨ (¬ x5 < 0 ∧ ¬ x2 < 0 ∧ ¬ x4 < 0 ∧ ¬ V 93 a - x5 < x2 ∧ x4 ≤ V 93 c - x5) ∧ Ev G (d + 3) mX12_shift 113 [(0, .ref 57), (1, .int (nI a)), (2, .int x2), (3, .int (nI c)), (4, .int x4), (5, .int x5), (6, .int 0)] (K, n, V, J1, O) (some (.int rr)) (K, n, V, JJ, O)))) → Ev G (d + 3) mX12_shift 0 [(0, .ref 57), (1, .int (nI a)), (2, .int x2), (3, .int (nI c)), (4, .int x4), (5, .int x5)] (K, n, V, J1, O) (some (.int rr)) (K, n, V, JJ, O) := by
        intro rr J1 JJ hq
        refine wX12_shift_0 hK ⟨_, (wa _).2, bf one0 ⟨_, (wc _).2, nt one0 ⟨hva, bf (by rw [hca]; exact p92a) ⟨hvc, bt (by rw [hcc]; exact p92c) ⟨hva, ?_⟩⟩⟩⟩⟩
        rw [hca, hcc]
        rcases hq with ⟨q1, q2, q3⟩ | ⟨q1, q2⟩
        · rw [q2, q3]
          exact bt q1 ⟨rfl, rfl⟩
        · refine bf q1 ⟨hva, hvc, ?_⟩
          rcases q2 with ⟨q2, q3, q4⟩ | ⟨q2, q3⟩
          · rw [q3, q4]
            exact bf q2 ⟨rfl, rfl⟩
          · refine bt q2 ?_
            rcases q3 with ⟨y1, y2, y3⟩ | ⟨⟨y1, y2, y3, y4, y5⟩, y6⟩
            · rw [y2, y3]
              by_cases c1 : x5 < 0
              · exact bt c1 ⟨rfl, rfl⟩
              by_cases c2 : x2 < 0
              · exact bf c1 (bt c2 ⟨rfl, rfl⟩)
              by_cases c3 : x4 < 0
              · exact bf c1 (bf c2 (bt c3 ⟨rfl, rfl⟩))
              by_cases c4 : V 93 a - x5 < x2
              · exact bf c1 (bf c2 (bf c3 ⟨hva, bt c4 ⟨rfl, rfl⟩⟩))
              by_cases c5 : x4 ≤ V 93 c - x5
              · rcases y1 with z | z | z | z | z
                · exact absurd z c1
                · exact absurd z c2
                · exact absurd z c3
                · exact absurd z c4
                · exact absurd c5 z
              · exact bf c1 (bf c2 (bf c3 ⟨hva, bf c4 ⟨hvc, bf c5 ⟨rfl, rfl⟩⟩⟩))
            · exact bf y1 (bf y2 (bf y3 ⟨hva, bf y4 ⟨hvc, bt y5 y6⟩⟩))
      cases e1 : sh a with
      | none => exact absurd e1 ea
      | some s1 =>
        rw [e1] at oa
        cases s1 with
        | inl b1 =>
          refine ⟨-12, J, J, cls (Or.inl ⟨oa.2.2.1, rfl, rfl⟩), rfn (Or.inl ⟨?_, rfl, rfl⟩), h⟩
          have := oa.1
          rw [oa.2.2.2]
          show nI b1 < nI 10
          rw [nI_l' (by omega) (by omega)]
          omega
        | inr p1 =>
          obtain ⟨⟨g1, g1'⟩, g2, g3, g4, g5, g6⟩ := oa
          have n1 : V 48 a ≠ -1 := by
            rw [g3]
            exact nI_n1 (by omega)
          have n2 : ¬ V 92 a < 10 := by
            rw [g5]
            show ¬ nI (10 + p1.1) < nI 10
            rw [nI_l' (by omega) (by omega)]
            omega
          cases e2 : sh c with
          | none => exact absurd e2 ec
          | some s2 =>
            rw [e2] at oc
            cases s2 with
            | inl b2 =>
              have := oc.1
              refine ⟨-12, J, J, cls (Or.inr ⟨n1, Or.inl ⟨?_, rfl, rfl⟩⟩), rfn (Or.inr ⟨n2, Or.inl ⟨?_, rfl, rfl⟩⟩), h⟩
              · rw [oc.2.2.1]
                exact n1
              · rw [oc.2.2.2, g5]
                exact nI_nq (by omega) (by omega) (by omega)
            | inr p2 =>
              obtain ⟨⟨f1, f1'⟩, f2, f3, f4, f5, f6⟩ := oc
              by_cases es : p1.1 = p2.1
              · have m48 : V 48 a = V 48 c := by rw [g3, f3, es]
                have m92 : V 92 a = V 92 c := by rw [g5, f5, es]
                have ha := c11_hasP (G := G) (d := d + 2) (n := n) (J := J) (O := O) (y := x2) (l := x5) hK ha6 g4 g1'
                have hb := c11_hasP (G := G) (d := d + 2) (n := n) (J := J) (O := O) (y := x4) (l := x5) hK hc6 f4 f1'
                rcases ha with ⟨ha, hae⟩ | ⟨ha, hae⟩
                · rcases hb with ⟨hb, hbe⟩ | ⟨hb, hbe⟩
                  · obtain ⟨p, m, rfl, rfl, hpm⟩ := ha
                    obtain ⟨q, m', rfl, hm', hqm⟩ := hb
                    obtain rfl : m = m' := Classical.byContradiction (fun z => nI_nq (by omega) (by omega) z hm')
                    have k1 : (nI p).toNatClampNeg = p := nI_c (by omega)
                    have k2 : (nI q).toNatClampNeg = q := nI_c (by omega)
                    have k3 : (nI m).toNatClampNeg = m := nI_c (by omega)
                    have s1 := m_sh150 (G := G) (d := d + 2) (n := n) (V := V) (O := O) (a := a) (b := p) (c := c) (e := q) (m := m) hK (by omega) hc6 (by omega) m 0 (cpJ (cpJ J (50 + 1 + a) (50 + 1 + c) p q m) 94 95 (60 * a + p) 0 m) (by omega)
                    rw [cpJ_0] at s1
                    have s2 := m_sh113 (J := cpJ J (50 + 1 + a) (50 + 1 + c) p q m) hK (show m ≤ 60 by omega) ha6 (show p + m ≤ 60 by omega) s1 m 0 (by omega)
                    rw [cpJ_0] at s2
                    refine ⟨nI m, _, _, cls (Or.inr ⟨n1, Or.inr ⟨m48, _, hae, bf one0 ⟨_, hbe, nt one0 ⟨?_, rfl, rfl⟩⟩⟩⟩), rfn (J1 := upA J (50 + 1 + c) (va_cpy (J (50 + 1 + a)) (J (50 + 1 + c)) (nI p).toNatClampNeg (nI q).toNatClampNeg (nI m).toNatClampNeg)) (Or.inr ⟨n2, Or.inr ⟨m92, Or.inr ⟨⟨nI_pos (by omega), nI_pos (by omega), nI_pos (by omega), ?_, ?_⟩, ?_⟩⟩⟩), ShR_J h (J' := cpJ (cpJ (cpJ J (50 + 1 + a) (50 + 1 + c) p q m) 94 95 (60 * a + p) 0 m) 95 94 0 (60 * c + q) m) ?_⟩
                    · rw [k1, k2, k3]
                      exact ⟨nI_pos (by omega), nI_pos (by omega), nI_pos (by omega), by omega, by omega⟩
                    · rw [g6, nI_s (by omega), nI_l' (by omega) (by omega)]
                      omega
                    · rw [f6, nI_s (by omega), nI_le' (by omega) (by omega)]
                      omega
                    · rw [k1, k2, k3]
                      exact s2
                    · intro i j hi hj
                      rw [cpJ_o (by omega), cpJ_o (by omega)]
                      by_cases ci : i = c ∧ q ≤ j ∧ j < q + m
                      · obtain ⟨rfl, c2, c3⟩ := ci
                        rw [cpJ_in c2 c3, cpJ_in (by omega) (by omega), cpJ_in (by omega) (by omega), cpJ_o (by omega), h.2.1 a _ ha6 (by omega)]
                        congr 1
                        omega
                      · rw [cpJ_out (b := 94) (by omega), cpJ_o (c := 94) (b := 95) (by omega), cpJ_o (c := 94) (b := 50 + 1 + c) (by omega)]
                        by_cases ei : i = c
                        · subst ei
                          rw [cpJ_out (by omega)]
                          exact h.2.1 i j hi hj
                        · rw [cpJ_o (by omega)]
                          exact h.2.1 i j hi hj
                  · refine ⟨-13, J, J, cls (Or.inr ⟨n1, Or.inr ⟨m48, _, hae, bf one0 ⟨_, hbe, nf rfl ⟨rfl, rfl⟩⟩⟩⟩), rfn (Or.inr ⟨n2, Or.inr ⟨m92, Or.inl ⟨?_, rfl, rfl⟩⟩⟩), h⟩
                    rw [g6, f6]
                    by_cases c1 : x5 < 0
                    · exact Or.inl c1
                    by_cases c2 : x2 < 0
                    · exact Or.inr (Or.inl c2)
                    by_cases c3 : x4 < 0
                    · exact Or.inr (Or.inr (Or.inl c3))
                    exact Or.inr (Or.inr (Or.inr (Or.inr (fun z => hb ((hp_iff f1' c3 c1).mp z)))))
                · refine ⟨-13, J, J, cls (Or.inr ⟨n1, Or.inr ⟨m48, _, hae, bt rfl ⟨rfl, rfl⟩⟩⟩), rfn (Or.inr ⟨n2, Or.inr ⟨m92, Or.inl ⟨?_, rfl, rfl⟩⟩⟩), h⟩
                  rw [g6, f6]
                  by_cases c1 : x5 < 0
                  · exact Or.inl c1
                  by_cases c2 : x2 < 0
                  · exact Or.inr (Or.inl c2)
                  by_cases c3 : x4 < 0
                  · exact Or.inr (Or.inr (Or.inl c3))
                  exact Or.inr (Or.inr (Or.inr (Or.inl (Int32.not_le.mp (fun z => ha ((hp_iff g1' c2 c1).mp z))))))
              · refine ⟨-12, J, J, cls (Or.inr ⟨n1, Or.inl ⟨?_, rfl, rfl⟩⟩), rfn (Or.inr ⟨n2, Or.inl ⟨?_, rfl, rfl⟩⟩), h⟩
                · rw [g3, f3]
                  exact nI_nq (by omega) (by omega) es
                · rw [g5, f5]
                  exact nI_nq (by omega) (by omega) (by omega)
    · obtain ⟨n1, n2⟩ := noShelf (G := G) (d := d + 1) (n := n) (V := V) (J := J) (O := O) hK h2
      exact ⟨-1, J, J, wX11_shift_0 hK ⟨_, (wa _).1, bf one0 ⟨_, n1, nf rfl ⟨rfl, rfl⟩⟩⟩, wX12_shift_0 hK ⟨_, (wa _).2, bf one0 ⟨_, n2, nf rfl ⟨rfl, rfl⟩⟩⟩, h⟩
  · obtain ⟨n1, n2⟩ := noShelf (G := G) (d := d + 1) (n := n) (V := V) (J := J) (O := O) hK h1
    exact ⟨-1, J, J, wX11_shift_0 hK ⟨_, n1, bt rfl ⟨rfl, rfl⟩⟩, wX12_shift_0 hK ⟨_, n2, bt rfl ⟨rfl, rfl⟩⟩, h⟩
end
