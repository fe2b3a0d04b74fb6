/-! ===== one condition, the reference; both ===== -/
section
variable {G : Gp} {d : Nat} {K : SK} {n : Nat × Nat} {V V' V2 : SV} {J : SJV} {O : SO} {r : Option Value}
variable {a b c i m s : Nat} {tp : Nat → Nat}
theorem frCm_T (hf : fr (frCm s) V V') (hT : TpM m tp V) : TpM m tp V' := TpM_a hT (fr_mo hf (fun x k q => by unfold frCm at q; omega))
theorem m_one0 (hK : StK K) (hT : TpM m tp V) (hi : i ≤ m) (h26 : V 57 26 = nI i) (hs : s < 160) : (¬ (i < m ∧ 48 ≤ tp i ∧ tp i ≤ 51) → Ev G (d + 3) mX12_readOne 0 [(0, .ref 57), (1, .int (nI s))] (K, n, V, J, O) (some (.int 0)) (K, n, V, J, O)) ∧ (i < m ∧ 48 ≤ tp i ∧ tp i ≤ 51 → (¬ (i + 1 < m ∧ (tp (i + 1) = 60 ∨ tp (i + 1) = 61 ∨ tp (i + 1) = 62)) → Ev G (d + 3) mX12_readOne 0 [(0, .ref 57), (1, .int (nI s))] (K, n, V, J, O) (some (.int 0)) (K, n, up2 (up2 V 63 s (nI (tp i - 48))) 57 26 (nI (i + 1)), J, O)) ∧ (i + 1 < m ∧ (tp (i + 1) = 60 ∨ tp (i + 1) = 61 ∨ tp (i + 1) = 62) → ∀ (r : Option Value) (V' : SV), Ev G (d + 3) mX12_readOne 60 [(0, .ref 57), (1, .int (nI s)), (2, .int (nI (tp (i + 1))))] (K, n, up2 (up2 V 63 s (nI (tp i - 48))) 57 26 (nI (i + 1)), J, O) r (K, n, V', J, O) → Ev G (d + 3) mX12_readOne 0 [(0, .ref 57), (1, .int (nI s))] (K, n, V, J, O) r (K, n, V', J, O))) := by
  have htp : ∀ j, j < m → tp j < 256 := fun j hj => (hT.2.2 j hj).2
  have b0 := m_byM (G := G) (d := d + 2) (n := n) (J := J) (O := O) hK hT h26 hi
  have f0 := m_fs (G := G) (d := d + 1) (n := n) (V := V) (J := J) (O := O) (i := i) hK htp
  refine ⟨fun q => wX12_readOne_0 hK ⟨_, b0, _, ev_n f0 q, nf rfl ⟨rfl, rfl⟩⟩, fun q => ?_⟩
  have hf : fr (frCm s) V (up2 (up2 V 63 s (nI (tp i - 48))) 57 26 (nI (i + 1))) := fr_up (fr_up fr_rfl (Or.inl ⟨Or.inl rfl, rfl⟩)) (Or.inr ⟨rfl, rfl⟩)
  have eb : byM m tp i = nI (tp i) := if_pos q.1
  have b1 := m_byM (G := G) (d := d + 2) (n := n) (J := J) (O := O) (i := i + 1) hK (frCm_T hf hT) up2_s (by omega)
  have hv : vp_in (nI s) 160 := nI_v hs (by omega)
  have go : ∀ {r : Option Value} {V' : SV}, ((byM m tp (i + 1) = 61 → Ev G (d + 3) mX12_readOne 60 [(0, .ref 57), (1, .int (nI s)), (2, .int (byM m tp (i + 1)))] (K, n, up2 (up2 V 63 s (nI (tp i - 48))) 57 26 (nI (i + 1)), J, O) r (K, n, V', J, O)) ∧ (¬ byM m tp (i + 1) = 61 → ((byM m tp (i + 1) = 60 → Ev G (d + 3) mX12_readOne 60 [(0, .ref 57), (1, .int (nI s)), (2, .int (byM m tp (i + 1)))] (K, n, up2 (up2 V 63 s (nI (tp i - 48))) 57 26 (nI (i + 1)), J, O) r (K, n, V', J, O)) ∧ (¬ byM m tp (i + 1) = 60 → ((byM m tp (i + 1) = 62 → Ev G (d + 3) mX12_readOne 60 [(0, .ref 57), (1, .int (nI s)), (2, .int (byM m tp (i + 1)))] (K, n, up2 (up2 V 63 s (nI (tp i - 48))) 57 26 (nI (i + 1)), J, O) r (K, n, V', J, O)) ∧ (¬ byM m tp (i + 1) = 62 → (r = some (.int 0) ∧ V' = up2 (up2 V 63 s (nI (tp i - 48))) 57 26 (nI (i + 1))))))))) → Ev G (d + 3) mX12_readOne 0 [(0, .ref 57), (1, .int (nI s))] (K, n, V, J, O) r (K, n, V', J, O) := fun {r} {V'} h => by
    refine wX12_readOne_0 hK ⟨_, b0, _, ev_b f0 q, nt one0 ⟨_, b0, hv, byM m tp (i + 1), ?_, ?_⟩⟩
    · rw [nI_c (by omega), eb, b48 (by omega), h26, nI_1]
      exact b1
    · rw [nI_c (by omega), eb, b48 (by omega), h26, nI_1]
      exact h
  refine ⟨fun z => go ?_, fun z r V' hE => go ?_⟩
  · have ne : ∀ {v : Nat}, v = 60 ∨ v = 61 ∨ v = 62 → byM m tp (i + 1) ≠ nI v := fun {v} hv e => z (by
      have := (byM_eq htp (show v < 256 by omega)).mp e
      omega)
    exact bf (ne (v := 61) (by omega)) (bf (ne (v := 60) (by omega)) (bf (ne (v := 62) (by omega)) ⟨rfl, rfl⟩))
  · have e1 : byM m tp (i + 1) = nI (tp (i + 1)) := if_pos z.1
    rw [e1]
    rcases z.2 with y | y | y
    · rw [y] at hE ⊢
      exact bf (by decide) (bt rfl hE)
    · rw [y] at hE ⊢
      exact bt rfl hE
    · rw [y] at hE ⊢
      exact bf (by decide) (bf (by decide) (bt rfl hE))
theorem m_one60 (hK : StK K) (hT : TpM m tp V) (hi : i ≤ m) (h26 : V 57 26 + 1 = nI i) (hs : s < 160) {sg : Int32} {V1 : SV} (e1 : V1 = up2 (up2 V 64 s sg) 57 26 (nI i)) : (i < m ∧ (tp i = 97 ∨ tp i = 98) → Ev G (d + 3) mX12_readOne 60 [(0, .ref 57), (1, .int (nI s)), (2, .int sg)] (K, n, V, J, O) (some (.int 1)) (K, n, up2 (up2 V1 65 s (nI (vlN (tp i)))) 57 26 (nI (i + 1)), J, O)) ∧ (¬ (i < m ∧ (tp i = 97 ∨ tp i = 98)) → ∀ (r : Option Value) (V' : SV), (∀ x2, Ev G (d + 3) mX12_readOne 124 [(0, .ref 57), (1, .int (nI s)), (2, .int x2), (3, .int 0), (4, .int 0)] (K, n, V1, J, O) r (K, n, V', J, O)) → Ev G (d + 3) mX12_readOne 60 [(0, .ref 57), (1, .int (nI s)), (2, .int sg)] (K, n, V, J, O) r (K, n, V', J, O)) := by
  subst e1
  have htp : ∀ j, j < m → tp j < 256 := fun j hj => (hT.2.2 j hj).2
  have hf : fr (frCm s) V (up2 (up2 V 64 s sg) 57 26 (nI i)) := fr_up (fr_up fr_rfl (Or.inl ⟨Or.inr (Or.inl rfl), rfl⟩)) (Or.inr ⟨rfl, rfl⟩)
  have b1 := m_byM (G := G) (d := d + 2) (n := n) (J := J) (O := O) (i := i) hK (frCm_T hf hT) up2_s hi
  have hv : vp_in (nI s) 160 := nI_v hs (by omega)
  refine ⟨fun q => ?_, fun q r V' hE => ?_⟩
  · have eb : byM m tp i = nI (tp i) := if_pos q.1
    rw [eb] at b1
    have fin : Ev G (d + 3) mX12_readOne 94 [(0, .ref 57), (1, .int (nI s)), (2, .int (nI (tp i)))] (K, n, up2 (up2 V 64 s sg) 57 26 (nI i), J, O) (some (.int 1)) (K, n, up2 (up2 (up2 (up2 V 64 s sg) 57 26 (nI i)) 65 s (nI (vlN (tp i)))) 57 26 (nI (i + 1)), J, O) := by
      refine wX12_readOne_94 hK ⟨hv, rfl, ?_⟩
      rw [nI_c (by omega), up2_s, nI_1]
      rcases q.2 with y | y
      · rw [y]
        rfl
      · rw [y]
        rfl
    refine wX12_readOne_60 hK ⟨hv, nI (tp i), ?_, ?_⟩
    · rw [nI_c (by omega), h26]
      exact b1
    · rw [nI_c (by omega), h26]
      rcases q.2 with y | y
      · rw [y] at fin ⊢
        exact bt rfl fin
      · rw [y] at fin ⊢
        exact bf (by decide) (nf rfl fin)
  · refine wX12_readOne_60 hK ⟨hv, byM m tp i, ?_, ?_⟩
    · rw [nI_c (by omega), h26]
      exact b1
    · rw [nI_c (by omega), h26]
      have ne : ∀ {v : Nat}, v = 97 ∨ v = 98 → byM m tp i ≠ nI v := fun {v} hv e => q (by
        have := (byM_eq htp (show v < 256 by omega)).mp e
        omega)
      exact bf (ne (v := 97) (by omega)) (nt (ne (v := 98) (by omega)) (hE _))
theorem m_one124 (hK : StK K) (hT : TpM m tp V) (hi : i ≤ m) (h26 : V 57 26 = nI i) (hs : s < 160) {x2 : Int32} : (¬ (i < m ∧ 48 ≤ tp i ∧ tp i ≤ 57) → Ev G (d + 3) mX12_readOne 124 [(0, .ref 57), (1, .int (nI s)), (2, .int x2), (3, .int 0), (4, .int 0)] (K, n, V, J, O) (some (.int 0)) (K, n, V, J, O)) ∧ (i < m ∧ 48 ≤ tp i ∧ tp i ≤ 57 → (¬ (i + 1 < m ∧ 48 ≤ tp (i + 1) ∧ tp (i + 1) ≤ 57) → Ev G (d + 3) mX12_readOne 124 [(0, .ref 57), (1, .int (nI s)), (2, .int x2), (3, .int 0), (4, .int 0)] (K, n, V, J, O) (some (.int 0)) (K, n, up2 V 57 26 (nI (i + 1)), J, O)) ∧ (i + 1 < m ∧ 48 ≤ tp (i + 1) ∧ tp (i + 1) ≤ 57 → Ev G (d + 3) mX12_readOne 124 [(0, .ref 57), (1, .int (nI s)), (2, .int x2), (3, .int 0), (4, .int 0)] (K, n, V, J, O) (some (.int 1)) (K, n, up2 (up2 V 57 26 (nI (i + 2))) 65 s (nI ((tp i - 48) * 10 + (tp (i + 1) - 48))), J, O))) := by
  have htp : ∀ j, j < m → tp j < 256 := fun j hj => (hT.2.2 j hj).2
  have b0 := m_byM (G := G) (d := d + 2) (n := n) (J := J) (O := O) hK hT h26 hi
  have w0 := m_bwi (G := G) (d := d + 2) (n := n) (V := V) (J := J) (O := O) (i := i) (lo := 48) (hi := 57) (lo' := 48) (hi' := 57) hK htp (by decide) (by decide) (by decide) (by decide)
  refine ⟨fun q => wX12_readOne_124 hK (bf (by decide) ⟨_, b0, _, ev_n w0 q, nf rfl ⟨rfl, rfl⟩⟩), fun q => ?_⟩
  have eb : byM m tp i = nI (tp i) := if_pos q.1
  have hf : fr (frCm s) V (up2 V 57 26 (nI (i + 1))) := fr_up fr_rfl (Or.inr ⟨rfl, rfl⟩)
  have b1 := m_byM (G := G) (d := d + 2) (n := n) (J := J) (O := O) (i := i + 1) hK (frCm_T hf hT) up2_s (by omega)
  have w1 := m_bwi (G := G) (d := d + 2) (n := n) (V := up2 V 57 26 (nI (i + 1))) (J := J) (O := O) (i := i + 1) (lo := 48) (hi := 57) (lo' := 48) (hi' := 57) hK htp (by decide) (by decide) (by decide) (by decide)
  have st : ∀ {r : Option Value} {V' : SV}, Ev G (d + 3) mX12_readOne 124 [(0, .ref 57), (1, .int (nI s)), (2, .int x2), (3, .int (nI (tp i - 48))), (4, .int 1)] (K, n, up2 V 57 26 (nI (i + 1)), J, O) r (K, n, V', J, O) → Ev G (d + 3) mX12_readOne 124 [(0, .ref 57), (1, .int (nI s)), (2, .int x2), (3, .int 0), (4, .int 0)] (K, n, V, J, O) r (K, n, V', J, O) := fun {r} {V'} h => by
    refine wX12_readOne_124 hK (bf (by decide) ⟨_, b0, _, ev_b w0 q, nt one0 ⟨_, b0, ?_⟩⟩)
    rw [eb, h26, nI_1, show ((10 : Int32) * 0 + nI (tp i)) - 48 = nI (tp i - 48) from by
      rw [show (10 : Int32) * 0 + nI (tp i) = nI (0 + tp i) from nI_add 0 _, Nat.zero_add, b48 (by omega)]]
    exact h
  refine ⟨fun z => st (wX12_readOne_124 hK (bf (by decide) ⟨_, b1, _, ev_n w1 z, nf rfl ⟨rfl, rfl⟩⟩)), fun z => st ?_⟩
  have eb1 : byM m tp (i + 1) = nI (tp (i + 1)) := if_pos z.1
  refine wX12_readOne_124 hK (bf (by decide) ⟨_, b1, _, ev_b w1 z, nt one0 ⟨_, b1, wX12_readOne_124 hK (bt (by decide) ⟨nI_v hs (by omega), rfl, ?_⟩)⟩⟩)
  rw [nI_c (by omega), eb1, up2_s, nI_1, up2_2, show (10 : Int32) = nI 10 from rfl, nI_mul, nI_add, b48 (by omega), show 10 * (tp i - 48) + tp (i + 1) - 48 = (tp i - 48) * 10 + (tp (i + 1) - 48) by omega]
end
