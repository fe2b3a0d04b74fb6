/-! ===== what is asked, jointly ===== -/
def frOc (a : Nat) : Nat → Nat → Prop := fun x k => x = a ∧ (k = 5 ∨ k = 6)
def frOm (p : Nat) : Nat → Nat → Prop := fun x k => ((x = 67 ∨ x = 68) ∧ k = p) ∨ (x = 57 ∧ k = 26)
section
variable {G : Gp} {d : Nat} {K : SK} {n : Nat × Nat} {V V' : SV} {J : SJV} {O : SO} {r : Option Value} {a c i i' m s p : Nat} {tp : Nat → Nat}
theorem m_203 (hK : StK K) (hT : TpM m tp V) {j : Nat} (hj : j ≤ m) (h26 : V 57 26 = nI j) {x1 x2 : Int32} : Ev G (d + 4) mX12_readAsk 203 [(0, .ref 57), (1, .int x1), (2, .int x2)] (K, n, V, J, O) (some (.int (bI (j = m)))) (K, n, V, J, O) := by
  have h60 := hT.1
  refine wX12_readAsk_203 hK ?_
  rw [h26, hT.2.1]
  by_cases e : j = m
  · rw [bI_t e]
    exact nf (by rw [e]) ⟨rfl, rfl⟩
  · rw [bI_f e]
    exact nt (nI_nq (by omega) (by omega) e) ⟨rfl, rfl⟩
theorem rf_8 (hK : StK K) (ha : IsAk K a) (hT : TpC m tp V) {j : Nat} (hj : j ≤ m) : Ev G (d + 4) mX0_readFrom 10 [(0, .ref a), (1, .ref 31), (2, .int (nI m)), (3, .int 8), (4, .int (nI j))] (K, n, V, J, O) (some (.int (if j = m then -1 else nI j))) (K, n, V, J, O) := by
  by_cases e : j = m
  · rw [if_pos e, e]
    exact rf_ok hK ha
  · rw [if_neg e]
    exact rf_bad hK ha hT (show j < m by omega) (sa_8 hK ha)
theorem out_sep (hK : StK K) (ha : IsAk K a) (h96 : 96 ≤ a) (htp : ∀ j, j < m → tp j < 256) (hi : i ≤ m) (hp : p < 10) (h1 : i = i' + 1) : (∃ f, f ≤ m ∧ (∀ (V : SV) (O : SO), TpC m tp V → ∃ V', Ev G (d + 4) mX0_readFrom 10 [(0, .ref a), (1, .ref 31), (2, .int (nI m)), (3, .int 6), (4, .int (nI i))] (K, n, V, J, O) (some (.int (nI f))) (K, n, V', J, O) ∧ fr (frOc a) V V' ∧ (V' a 6 = V a 6 ∨ ∃ t, t < 4 ∧ V' a 6 = nI t)) ∧ (∀ (K : SK) (n : Nat × Nat) (V : SV) (O : SO), StK K → TpM m tp V → V 57 26 = nI i' → ∃ V', Ev G (d + 4) mX12_readAsk 104 [(0, .ref 57), (1, .int (nI p))] (K, n, V, J, O) (some (.int 0)) (K, n, V', J, O) ∧ V' 57 26 = nI f ∧ fr (frOm p) V V' ∧ (V' 68 p = V 68 p ∨ ∃ t, t < 4 ∧ V' 68 p = nI t))) ∨ (∃ w qc, ((w = 109 ∨ w = 110 ∨ w = 115 ∨ w = 120) ∧ qc < 4) ∧ (∀ (V : SV) (O : SO), TpC m tp V → ∃ V', Ev G (d + 4) mX0_readFrom 10 [(0, .ref a), (1, .ref 31), (2, .int (nI m)), (3, .int 6), (4, .int (nI i))] (K, n, V, J, O) (some (.int (-1))) (K, n, V', J, O) ∧ V' a 5 = nI w ∧ (if w = 110 then V' a 6 = V a 6 else V' a 6 = nI qc) ∧ fr (frOc a) V V') ∧ (∀ (K : SK) (n : Nat × Nat) (V : SV) (O : SO), StK K → TpM m tp V → V 57 26 = nI i' → ∃ V', Ev G (d + 4) mX12_readAsk 104 [(0, .ref 57), (1, .int (nI p))] (K, n, V, J, O) (some (.int 1)) (K, n, V', J, O) ∧ V' 67 p = nI w ∧ (if w = 110 then V' 68 p = V 68 p else V' 68 p = nI qc) ∧ fr (frOm p) V V')) := by
  have hv : vp_in (nI p) 10 := nI_v hp (by omega)
  have hcp : (nI p).toNatClampNeg = p := nI_c (by omega)
  have f26 : ∀ {V : SV} {j : Nat}, fr (frOm p) V (up2 V 57 26 (nI j)) := fr_up fr_rfl (Or.inr ⟨rfl, rfl⟩)
  have fT : ∀ {V V' : SV}, fr (frOm p) V V' → TpM m tp V → TpM m tp V' := fun hf hT => TpM_a hT (fr_mo hf (fun x k q => by unfold frOm at q; omega))
  have go104 : ∀ {K : SK} {n : Nat × Nat} {V : SV} {O : SO} {r : Option Value} {V' : SV}, StK K → TpM m tp V → V 57 26 = nI i' → (byM m tp i = 110 ∨ byM m tp i = 109 ∨ byM m tp i = 120 ∨ byM m tp i = 115) → Ev G (d + 4) mX12_readAsk 145 [(0, .ref 57), (1, .int (nI p)), (2, .int (byM m tp i))] (K, n, up2 V 57 26 (nI i), J, O) r (K, n, V', J, O) → Ev G (d + 4) mX12_readAsk 104 [(0, .ref 57), (1, .int (nI p))] (K, n, V, J, O) r (K, n, V', J, O) := fun {K} {n} {V} {O} {r} {V'} hK hT h26 hb hE => by
    have b1 := m_byM (G := G) (d := d + 3) (n := n) (J := J) (O := O) (i := i) hK (fT f26 hT) up2_s hi
    refine wX12_readAsk_104 hK ⟨byM m tp i, ?_, ?_⟩
    · rw [h26, nI_1, ← h1]
      exact b1
    · rw [h26, nI_1, ← h1]
      by_cases c1 : byM m tp i = 110
      · exact bt c1 hE
      by_cases c2 : byM m tp i = 109
      · exact bf c1 (bt c2 hE)
      by_cases c3 : byM m tp i = 120
      · exact bf c1 (bf c2 (bt c3 hE))
      by_cases c4 : byM m tp i = 115
      · exact bf c1 (bf c2 (bf c3 (bt c4 hE)))
      · rcases hb with z | z | z | z
        · exact absurd z c1
        · exact absurd z c2
        · exact absurd z c3
        · exact absurd z c4
  by_cases q1 : ¬ (i < m ∧ (tp i = 110 ∨ tp i = 109 ∨ tp i = 120 ∨ tp i = 115))
  · -- neither of the four
    refine Or.inl ⟨i, hi, fun V O hT => ?_, fun K n V O hK hT h26 => ?_⟩
    · by_cases e : i = m
      · rw [e]
        exact ⟨V, rf_end hK ha (by decide), fr_rfl, Or.inl rfl⟩
      · have hlt : i < m := by omega
        have hE := sa_6 (G := G) (d := d + 1) (n := n) (V := V) (J := J) (O := O) hK ha (hT.2.2 i hlt).2
        rw [if_neg (by omega), if_neg (by omega)] at hE
        exact ⟨_, rf_bad hK ha hT hlt hE, fr_up fr_rfl ⟨rfl, Or.inl rfl⟩, Or.inl (up2_k (by decide))⟩
    · have b1 := m_byM (G := G) (d := d + 3) (n := n) (J := J) (O := O) (i := i) hK (fT f26 hT) up2_s hi
      have ne : ∀ {v : Nat}, v = 110 ∨ v = 109 ∨ v = 120 ∨ v = 115 → byM m tp i ≠ nI v := fun {v} hv e => q1 (by
        have := (byM_eq htp (show v < 256 by omega)).mp e
        omega)
      refine ⟨up2 V 57 26 (nI i), wX12_readAsk_104 hK ⟨byM m tp i, ?_, ?_⟩, up2_s, f26, Or.inl (by rw [up2_a (by decide)])⟩
      · rw [h26, nI_1, ← h1]
        exact b1
      · rw [h26, nI_1, ← h1]
        exact bf (ne (v := 110) (by omega)) (bf (ne (v := 109) (by omega)) (bf (ne (v := 120) (by omega)) (bf (ne (v := 115) (by omega)) ⟨rfl, rfl⟩)))
  rw [Classical.not_not] at q1
  have eb : byM m tp i = nI (tp i) := if_pos q1.1
  have hb4 : byM m tp i = 110 ∨ byM m tp i = 109 ∨ byM m tp i = 120 ∨ byM m tp i = 115 := by
    rw [eb]
    rcases q1.2 with z | z | z | z
    · exact Or.inl (by rw [z]; rfl)
    · exact Or.inr (Or.inl (by rw [z]; rfl))
    · exact Or.inr (Or.inr (Or.inl (by rw [z]; rfl)))
    · exact Or.inr (Or.inr (Or.inr (by rw [z]; rfl)))
  -- the reference, with what is asked written
  have hV2 : ∀ {V : SV}, fr (frOm p) V (up2 (up2 (up2 V 57 26 (nI i)) 67 p (nI (tp i))) 57 26 (nI (i + 1))) := fun {V} => fr_up (fr_up (fr_up fr_rfl (Or.inr ⟨rfl, rfl⟩)) (Or.inl ⟨Or.inl rfl, rfl⟩)) (Or.inr ⟨rfl, rfl⟩)
  have e68 : ∀ {V : SV}, up2 (up2 (up2 V 57 26 (nI i)) 67 p (nI (tp i))) 57 26 (nI (i + 1)) 68 p = V 68 p := fun {V} => by rw [up2_a (by decide), up2_a (by decide), up2_a (by decide)]
  have e67 : ∀ {V : SV}, up2 (up2 (up2 V 57 26 (nI i)) 67 p (nI (tp i))) 57 26 (nI (i + 1)) 67 p = nI (tp i) := fun {V} => by rw [up2_a (by decide), up2_s]
  by_cases w110 : tp i = 110
  · -- how many
    have r145 : ∀ {K : SK} {n : Nat × Nat} {V : SV} {O : SO}, StK K → TpM m tp V → V 57 26 = nI i' → Ev G (d + 4) mX12_readAsk 104 [(0, .ref 57), (1, .int (nI p))] (K, n, V, J, O) (some (.int (bI (i + 1 = m)))) (K, n, up2 (up2 (up2 V 57 26 (nI i)) 67 p (nI (tp i))) 57 26 (nI (i + 1)), J, O) := fun {K} {n} {V} {O} hK hT h26 => by
      refine go104 hK hT h26 hb4 (wX12_readAsk_145 hK ⟨hv, ?_⟩)
      rw [hcp, up2_s, nI_1, eb]
      exact bt (by rw [w110]; rfl) (m_203 hK (fT hV2 hT) (by omega) up2_s)
    have c6 : ∀ {V : SV} {O : SO}, TpC m tp V → Ev G (d + 4) mX0_readFrom 10 [(0, .ref a), (1, .ref 31), (2, .int (nI m)), (3, .int 6), (4, .int (nI i))] (K, n, V, J, O) (some (.int (if i + 1 = m then -1 else nI (i + 1)))) (K, n, up2 V a 5 (nI (tp i)), J, O) := fun {V} {O} hT => by
      have hE := sa_6 (G := G) (d := d + 1) (n := n) (V := V) (J := J) (O := O) hK ha (hT.2.2 i q1.1).2
      rw [if_pos w110] at hE
      exact rf_go hK ha hT q1.1 (by decide) hE (rf_8 hK ha (TpC_a hT h96 (fr_up fr_rfl h96)) (by omega))
    by_cases e : i + 1 = m
    · refine Or.inr ⟨110, 0, ⟨by omega, by decide⟩, fun V O hT => ⟨up2 V a 5 (nI (tp i)), ?_, ?_, ?_, fr_up fr_rfl ⟨rfl, Or.inl rfl⟩⟩, fun K n V O hK hT h26 => ⟨_, ?_, ?_, ?_, hV2⟩⟩
      · have := c6 (V := V) (O := O) hT
        rw [if_pos e] at this
        exact this
      · rw [up2_s, w110]
      · rw [if_pos rfl, up2_k (by decide)]
      · have := r145 (K := K) (n := n) (V := V) (O := O) hK hT h26
        rw [bI_t e] at this
        exact this
      · rw [e67, w110]
      · rw [if_pos rfl]
        exact e68
    · refine Or.inl ⟨i + 1, by omega, fun V O hT => ⟨up2 V a 5 (nI (tp i)), ?_, fr_up fr_rfl ⟨rfl, Or.inl rfl⟩, Or.inl (up2_k (by decide))⟩, fun K n V O hK hT h26 => ⟨_, ?_, up2_s, hV2, Or.inl e68⟩⟩
      · have := c6 (V := V) (O := O) hT
        rw [if_neg e] at this
        exact this
      · have := r145 (K := K) (n := n) (V := V) (O := O) hK hT h26
        rw [bI_f e] at this
        exact this
  · have ne110 : ¬ nI (tp i) = 110 := nI_nq (b := 110) (by have := htp i q1.1; omega) (by omega) w110
    have c6 : ∀ {V : SV} {O : SO} {r : Option Value} {V' : SV}, TpC m tp V → Ev G (d + 4) mX0_readFrom 10 [(0, .ref a), (1, .ref 31), (2, .int (nI m)), (3, .int 7), (4, .int (nI (i + 1)))] (K, n, up2 V a 5 (nI (tp i)), J, O) r (K, n, V', J, O) → Ev G (d + 4) mX0_readFrom 10 [(0, .ref a), (1, .ref 31), (2, .int (nI m)), (3, .int 6), (4, .int (nI i))] (K, n, V, J, O) r (K, n, V', J, O) := fun {V} {O} {r} {V'} hT hn => by
      have hE := sa_6 (G := G) (d := d + 1) (n := n) (V := V) (J := J) (O := O) hK ha (hT.2.2 i q1.1).2
      rw [if_neg w110, if_pos (by omega)] at hE
      exact rf_go hK ha hT q1.1 (by decide) hE hn
    have T5 : ∀ {V : SV}, TpC m tp V → TpC m tp (up2 V a 5 (nI (tp i))) := fun {V} hT => TpC_a hT h96 (fr_up fr_rfl h96)
    by_cases q2 : ¬ (i + 1 < m ∧ 48 ≤ tp (i + 1) ∧ tp (i + 1) ≤ 51)
    · refine Or.inl ⟨i + 1, by omega, fun V O hT => ?_, fun K n V O hK hT h26 => ⟨_, go104 hK hT h26 hb4 (wX12_readAsk_145 hK ⟨hv, ?_⟩), up2_s, hV2, Or.inl e68⟩⟩
      · by_cases e : i + 1 = m
        · refine ⟨up2 V a 5 (nI (tp i)), c6 hT ?_, fr_up fr_rfl ⟨rfl, Or.inl rfl⟩, Or.inl (up2_k (by decide))⟩
          rw [e]
          exact rf_end hK ha (by decide)
        · have hlt : i + 1 < m := by omega
          have hE := sa_7 (G := G) (d := d) (n := n) (V := up2 V a 5 (nI (tp i))) (J := J) (O := O) hK ha (hT.2.2 (i + 1) hlt).2
          rw [if_neg (fun z => q2 ⟨hlt, z⟩), if_neg (fun z => q2 ⟨hlt, z⟩)] at hE
          exact ⟨_, c6 hT (rf_bad hK ha (T5 hT) hlt hE), fr_up fr_rfl ⟨rfl, Or.inl rfl⟩, Or.inl (up2_k (by decide))⟩
      · rw [hcp, up2_s, nI_1, eb]
        exact bf ne110 ⟨_, m_byM (i := i + 1) hK (fT hV2 hT) up2_s (by omega), _, ev_n (m_fs hK htp) q2, nf rfl ⟨rfl, rfl⟩⟩
    rw [Classical.not_not] at q2
    have c7 : ∀ {V : SV} {O : SO}, TpC m tp V → Ev G (d + 4) mX0_readFrom 10 [(0, .ref a), (1, .ref 31), (2, .int (nI m)), (3, .int 6), (4, .int (nI i))] (K, n, V, J, O) (some (.int (if i + 2 = m then -1 else nI (i + 2)))) (K, n, up2 (up2 V a 5 (nI (tp i))) a 6 (nI (tp (i + 1) - 48)), J, O) := fun {V} {O} hT => by
      have hE := sa_7 (G := G) (d := d) (n := n) (V := up2 V a 5 (nI (tp i))) (J := J) (O := O) hK ha (hT.2.2 (i + 1) q2.1).2
      rw [if_pos q2.2, if_pos q2.2] at hE
      exact c6 hT (rf_go hK ha (T5 hT) q2.1 (by decide) hE (rf_8 (j := i + 2) hK ha (TpC_a (T5 hT) h96 (fr_up fr_rfl h96)) (by omega)))
    have eb1 : byM m tp (i + 1) = nI (tp (i + 1)) := if_pos q2.1
    have hV3 : ∀ {V : SV}, fr (frOm p) V (up2 (up2 (up2 (up2 (up2 V 57 26 (nI i)) 67 p (nI (tp i))) 57 26 (nI (i + 1))) 68 p (nI (tp (i + 1) - 48))) 57 26 (nI (i + 2))) := fun {V} => fr_mo (fr_tr hV2 (fr_up (P := frOm p) (fr_up fr_rfl (Or.inl ⟨Or.inr rfl, rfl⟩)) (Or.inr ⟨rfl, rfl⟩))) (fun x k q => q.elim id id)
    have r145 : ∀ {K : SK} {n : Nat × Nat} {V : SV} {O : SO}, StK K → TpM m tp V → V 57 26 = nI i' → Ev G (d + 4) mX12_readAsk 104 [(0, .ref 57), (1, .int (nI p))] (K, n, V, J, O) (some (.int (bI (i + 2 = m)))) (K, n, up2 (up2 (up2 (up2 (up2 V 57 26 (nI i)) 67 p (nI (tp i))) 57 26 (nI (i + 1))) 68 p (nI (tp (i + 1) - 48))) 57 26 (nI (i + 2)), J, O) := fun {K} {n} {V} {O} hK hT h26 => by
      refine go104 hK hT h26 hb4 (wX12_readAsk_145 hK ⟨hv, ?_⟩)
      rw [hcp, up2_s, nI_1, eb]
      have b1 := m_byM (G := G) (d := d + 3) (n := n) (J := J) (O := O) (i := i + 1) hK (fT hV2 hT) up2_s (by omega)
      refine bf ne110 ⟨_, b1, _, ev_b (m_fs hK htp) q2, nt one0 ⟨_, b1, hv, ?_⟩⟩
      rw [eb1, b48 (by omega), nI_1]
      exact m_203 hK (fT hV3 hT) (by omega) up2_s
    have e68' : ∀ {V : SV}, up2 (up2 (up2 (up2 (up2 V 57 26 (nI i)) 67 p (nI (tp i))) 57 26 (nI (i + 1))) 68 p (nI (tp (i + 1) - 48))) 57 26 (nI (i + 2)) 68 p = nI (tp (i + 1) - 48) := fun {V} => by rw [up2_a (by decide), up2_s]
    by_cases e : i + 2 = m
    · refine Or.inr ⟨tp i, tp (i + 1) - 48, ⟨by omega, by omega⟩, fun V O hT => ⟨up2 (up2 V a 5 (nI (tp i))) a 6 (nI (tp (i + 1) - 48)), ?_, ?_, ?_, fr_up (fr_up fr_rfl ⟨rfl, Or.inl rfl⟩) ⟨rfl, Or.inr rfl⟩⟩, fun K n V O hK hT h26 => ⟨_, ?_, ?_, ?_, hV3⟩⟩
      · have := c7 (V := V) (O := O) hT
        rw [if_pos e] at this
        exact this
      · rw [up2_k (by decide), up2_s]
      · rw [if_neg w110, up2_s]
      · have := r145 (K := K) (n := n) (V := V) (O := O) hK hT h26
        rw [bI_t e] at this
        exact this
      · rw [up2_a (by decide), up2_a (by decide)]
        exact e67
      · rw [if_neg w110]
        exact e68'
    · refine Or.inl ⟨i + 2, by omega, fun V O hT => ⟨up2 (up2 V a 5 (nI (tp i))) a 6 (nI (tp (i + 1) - 48)), ?_, fr_up (fr_up fr_rfl ⟨rfl, Or.inl rfl⟩) ⟨rfl, Or.inr rfl⟩, Or.inr ⟨tp (i + 1) - 48, by omega, up2_s⟩⟩, fun K n V O hK hT h26 => ⟨_, ?_, up2_s, hV3, Or.inr ⟨tp (i + 1) - 48, by omega, e68'⟩⟩⟩
      · have := c7 (V := V) (O := O) hT
        rw [if_neg e] at this
        exact this
      · have := r145 (K := K) (n := n) (V := V) (O := O) hK hT h26
        rw [bI_f e] at this
        exact this
end
