/-! ===== an ask's whole text, jointly ===== -/
section
variable {G : Gp} {d : Nat} {K : SK} {n : Nat × Nat} {V V' V1 : SV} {J : SJV} {O : SO} {r : Option Value} {a p m nA : Nat} {tp : Nat → Nat}
theorem read_sep (hK : StK K) (ha : IsAk K a) (h96 : 96 ≤ a) (hm60 : m ≤ 60) (htp : ∀ j, j < m → tp j < 256) (hp : p < 10) : (∃ f, f ≤ m ∧ (∀ (V : SV) (O : SO), TpC m tp V → ∃ V', Ev G (d + 4) mX0_readFrom 0 [(0, .ref a), (1, .ref 31), (2, .int (nI m))] (K, n, V, J, O) (some (.int (nI f))) (K, n, V', J, O) ∧ fr (frA0 a) V V' ∧ (V' a 6 = V a 6 ∨ ∃ t, t < 4 ∧ V' a 6 = nI t)) ∧ (∀ (K : SK) (n : Nat × Nat) (V : SV) (O : SO), StK K → TpM m tp V → ∃ V', Ev G (d + 4) mX12_readAsk 0 [(0, .ref 57), (1, .int (nI p))] (K, n, V, J, O) (some (.int 0)) (K, n, V', J, O) ∧ V' 57 26 = nI f ∧ fr (frA1 p) V V' ∧ (V' 68 p = V 68 p ∨ ∃ t, t < 4 ∧ V' 68 p = nI t))) ∨ (∃ mm g' w qc, (mm ≤ 15 ∧ (∀ j, j < mm → cdOk (g' j)) ∧ (w = 109 ∨ w = 110 ∨ w = 115 ∨ w = 120) ∧ qc < 4) ∧ (∀ (V : SV) (O : SO), TpC m tp V → ∃ V', Ev G (d + 4) mX0_readFrom 0 [(0, .ref a), (1, .ref 31), (2, .int (nI m))] (K, n, V, J, O) (some (.int (-1))) (K, n, V', J, O) ∧ (Cpre a mm g' V' ∧ V' a 5 = nI w ∧ (if w = 110 then V' a 6 = V a 6 else V' a 6 = nI qc)) ∧ fr (frA0 a) V V') ∧ (∀ (K : SK) (n : Nat × Nat) (V : SV) (O : SO), StK K → TpM m tp V → ∃ V', Ev G (d + 4) mX12_readAsk 0 [(0, .ref 57), (1, .int (nI p))] (K, n, V, J, O) (some (.int 1)) (K, n, V', J, O) ∧ (Mpre p mm g' V' ∧ V' 67 p = nI w ∧ (if w = 110 then V' 68 p = V 68 p else V' 68 p = nI qc)) ∧ fr (frA1 p) V V')) := by
  have hv : vp_in (nI p) 10 := nI_v hp (by omega)
  have hcp : (nI p).toNatClampNeg = p := nI_c (by omega)
  have g0 : ∀ (j : Nat), j < 0 → cdOk ((fun _ => (0, 0, 0) : Nat → Nat × Nat × Nat) j) := fun j hj => absurd hj (by omega)
  have kOC : ∀ {V V' : SV}, fr (frOc a) V V' → fr (frA0 a) V V' := fun hf => fr_mo hf (fun x k q => by unfold frOc at q; unfold frA0; omega)
  have kOM : ∀ {V V' : SV}, fr (frOm p) V V' → fr (frA1 p) V V' := fun hf => fr_mo hf (fun x k q => by unfold frOm at q; unfold frA1; omega)
  have f0 : ∀ {V : SV}, fr (frA1 p) V (up2 (up2 V 57 26 (nI 0)) 66 p (nI 0)) := fun {V} => fr_up (fr_up fr_rfl (Or.inr (Or.inr ⟨rfl, rfl⟩))) (Or.inr (Or.inl ⟨by decide, by decide, rfl⟩))
  have k2 : ∀ {P : Nat → Nat → Prop} {V V' V'' : SV}, fr P V V' → fr P V' V'' → fr P V V'' := fun h1 h2 => fr_mo (fr_tr h1 h2) (fun x k q => q.elim id id)
  have T0 : ∀ {V : SV}, TpM m tp V → TpM m tp (up2 (up2 V 57 26 (nI 0)) 66 p (nI 0)) := fun {V} hT => TpM_a hT (fr_mo f0 (fun x k q => by unfold frA1 at q; omega))
  have e26 : ∀ {V : SV}, up2 (up2 V 57 26 (nI 0)) 66 p (nI 0) 57 26 = nI 0 := fun {V} => by rw [up2_a (by decide), up2_s]
  have T4 : ∀ {V : SV}, TpC m tp V → TpC m tp (up2 V a 4 (nI 0)) := fun {V} hT => TpC_a hT h96 (fr_up fr_rfl h96)
  have f4 : ∀ {V : SV}, fr (frA0 a) V (up2 V a 4 (nI 0)) := fun {V} => fr_up fr_rfl (Or.inr ⟨rfl, by decide, by decide⟩)
  have e6 : ∀ {V : SV}, up2 V a 4 (nI 0) a 6 = V a 6 := fun {V} => up2_k (by decide)
  have c4 : ∀ {V : SV}, Cpre a 0 (fun _ => (0, 0, 0)) (up2 V a 4 (nI 0)) := fun {V} => ⟨up2_s, fun j hj => absurd hj (by omega)⟩
  have e68 : ∀ {V : SV}, up2 (up2 V 57 26 (nI 0)) 66 p (nI 0) 68 p = V 68 p := fun {V} => by rw [up2_a (by decide), up2_a (by decide)]
  have rA : ∀ {K : SK} {n : Nat × Nat} {V : SV} {O : SO} {r : Option Value} {V' : SV}, StK K → TpM m tp V → ((byM m tp 0 = 58 → Ev G (d + 4) mX12_readAsk 104 [(0, .ref 57), (1, .int (nI p))] (K, n, up2 (up2 V 57 26 (nI 0)) 66 p (nI 0), J, O) r (K, n, V', J, O)) ∧ (¬ byM m tp 0 = 58 → Ev G (d + 4) mX12_readAsk 23 [(0, .ref 57), (1, .int (nI p)), (2, .int 1)] (K, n, up2 (up2 V 57 26 (nI 0)) 66 p (nI 0), J, O) r (K, n, V', J, O))) → Ev G (d + 4) mX12_readAsk 0 [(0, .ref 57), (1, .int (nI p))] (K, n, V, J, O) r (K, n, V', J, O) := fun {K} {n} {V} {O} {r} {V'} hK hT hE => by
    refine wX12_readAsk_0 hK ⟨hv, byM m tp 0, ?_, ?_⟩
    · rw [hcp]
      exact m_byM (G := G) (d := d + 3) (n := n) (J := J) (O := O) (i := 0) hK (T0 hT) e26 (by omega)
    · rw [hcp]
      exact hE
  by_cases q0 : 0 < m ∧ tp 0 = 58
  · have eb : byM m tp 0 = 58 := (byM_eq htp (x := 58) (by decide)).mpr q0
    have c0 : ∀ {V : SV} {O : SO} {r : Option Value} {V' : SV}, TpC m tp V → Ev G (d + 4) mX0_readFrom 10 [(0, .ref a), (1, .ref 31), (2, .int (nI m)), (3, .int 6), (4, .int (nI (0 + 1)))] (K, n, up2 V a 4 (nI 0), J, O) r (K, n, V', J, O) → Ev G (d + 4) mX0_readFrom 0 [(0, .ref a), (1, .ref 31), (2, .int (nI m))] (K, n, V, J, O) r (K, n, V', J, O) := fun {V} {O} {r} {V'} hT hn => by
      have hE := sa_0c (G := G) (d := d + 2) (n := n) (V := up2 V a 4 (nI 0)) (J := J) (O := O) hK ha
      rw [show (58 : Int32) = nI (tp 0) from by rw [q0.2]; rfl] at hE
      exact wX0_readFrom_0 hK ha (k31 hK) (rf_go (i := 0) hK ha (T4 hT) q0.1 (by decide) hE hn)
    rcases out_sep (G := G) (d := d) (n := n) (J := J) (i := 0 + 1) (i' := 0) hK ha h96 htp (by omega) hp rfl with ⟨f, hf, jC, jM⟩ | ⟨w, qc, hok, jC, jM⟩
    · refine Or.inl ⟨f, hf, fun V O hT => ?_, fun K n V O hK hT => ?_⟩
      · obtain ⟨V', y1, y2, y3⟩ := jC _ O (T4 hT)
        rw [e6] at y3
        exact ⟨V', c0 hT y1, k2 f4 (kOC y2), y3⟩
      · obtain ⟨V', y1, y2, y3, y4⟩ := jM K n _ O hK (T0 hT) e26
        rw [e68] at y4
        exact ⟨V', rA hK hT (bt eb y1), y2, k2 f0 (kOM y3), y4⟩
    · refine Or.inr ⟨0, fun _ => (0, 0, 0), w, qc, ⟨by omega, g0, hok.1, hok.2⟩, fun V O hT => ?_, fun K n V O hK hT => ?_⟩
      · obtain ⟨V', y1, y2, y3, y4⟩ := jC _ O (T4 hT)
        rw [e6] at y3
        exact ⟨V', c0 hT y1, ⟨⟨by rw [y4 _ _ (by unfold frOc; omega), up2_s], fun j hj => absurd hj (by omega)⟩, y2, y3⟩, k2 f4 (kOC y4)⟩
      · obtain ⟨V', y1, y2, y3, y4⟩ := jM K n _ O hK (T0 hT) e26
        rw [e68] at y3
        exact ⟨V', rA hK hT (bt eb y1), ⟨⟨by rw [y4 _ _ (by unfold frOm; omega), up2_s], fun j hj => absurd hj (by omega)⟩, y2, y3⟩, k2 f0 (kOM y4)⟩
  · have nb : ¬ byM m tp 0 = 58 := fun e => q0 ((byM_eq htp (x := 58) (by decide)).mp e)
    have m0 : ∀ {V : SV}, Mpre p 0 (fun _ => (0, 0, 0)) (up2 (up2 V 57 26 (nI 0)) 66 p (nI 0)) := fun {V} => ⟨up2_s, fun j hj => absurd hj (by omega)⟩
    rcases parse_sep (G := G) (d := d) (n := n) (J := J) hK ha h96 hm60 htp hp (m + 1) 0 0 (fun _ => (0, 0, 0)) (by omega) (by omega) (by omega) g0 with ⟨f, hf, jC, jM⟩ | ⟨mm, g', w, qc, hok, jC, jM⟩
    · refine Or.inl ⟨f, hf, fun V O hT => ?_, fun K n V O hK hT => ?_⟩
      · obtain ⟨V', y1, y2, y3⟩ := jC _ O 0 (T4 hT) c4 (Or.inr ⟨rfl, q0⟩)
        rw [e6] at y3
        exact ⟨V', wX0_readFrom_0 hK ha (k31 hK) y1, k2 f4 y2, y3⟩
      · obtain ⟨V', y1, y2, y3, y4⟩ := jM K n _ O hK (T0 hT) m0 e26
        rw [e68] at y4
        exact ⟨V', rA hK hT (bf nb y1), y2, k2 f0 y3, y4⟩
    · refine Or.inr ⟨mm, g', w, qc, hok, fun V O hT => ?_, fun K n V O hK hT => ?_⟩
      · obtain ⟨V', y1, y2, y3⟩ := jC _ O 0 (T4 hT) c4 (Or.inr ⟨rfl, q0⟩)
        rw [e6] at y2
        exact ⟨V', wX0_readFrom_0 hK ha (k31 hK) y1, y2, k2 f4 y3⟩
      · obtain ⟨V', y1, y2, y3⟩ := jM K n _ O hK (T0 hT) m0 e26
        rw [e68] at y2
        exact ⟨V', rA hK hT (bf nb y1), y2, k2 f0 y3⟩
end
