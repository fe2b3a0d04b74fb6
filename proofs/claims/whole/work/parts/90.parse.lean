/-! ===== an ask's text, jointly ===== -/
def cdOk (q : Nat × Nat × Nat) : Prop := q.1 < 4 ∧ (q.2.1 = 60 ∨ q.2.1 = 61 ∨ q.2.1 = 62) ∧ q.2.2 ≤ 101
def Cpre (a c : Nat) (g : Nat → Nat × Nat × Nat) (V : SV) : Prop := V a 4 = nI c ∧ ∀ j, j < c → V (a + 1) j = nI (g j).1 ∧ V (a + 2) j = nI (g j).2.1 ∧ V (a + 3) j = nI (g j).2.2
def Mpre (p c : Nat) (g : Nat → Nat × Nat × Nat) (V : SV) : Prop := V 66 p = nI c ∧ ∀ j, j < c → V 63 (16 * p + j) = nI (g j).1 ∧ V 64 (16 * p + j) = nI (g j).2.1 ∧ V 65 (16 * p + j) = nI (g j).2.2
def frA0 (a : Nat) : Nat → Nat → Prop := fun x k => (x = a + 1 ∨ x = a + 2 ∨ x = a + 3) ∨ (x = a ∧ 4 ≤ k ∧ k ≤ 6)
def frA1 (p : Nat) : Nat → Nat → Prop := fun x k => ((x = 63 ∨ x = 64 ∨ x = 65) ∧ 16 * p ≤ k ∧ k < 16 * p + 16) ∨ (66 ≤ x ∧ x ≤ 68 ∧ k = p) ∨ (x = 57 ∧ k = 26)
def gU (g : Nat → Nat × Nat × Nat) (c : Nat) (q : Nat × Nat × Nat) : Nat → Nat × Nat × Nat := fun j => if j = c then q else g j
section
variable {G : Gp} {d : Nat} {K : SK} {n : Nat × Nat} {V V' : SV} {J : SJV} {O : SO} {r : Option Value} {a c i m p : Nat} {tp : Nat → Nat} {g : Nat → Nat × Nat × Nat} {q : Nat × Nat × Nat}
theorem gU_s : gU g c q c = q := if_pos rfl
theorem gU_o {j : Nat} (h : j ≠ c) : gU g c q j = g j := if_neg h
theorem parse_sep (hK : StK K) (ha : IsAk K a) (h96 : 96 ≤ a) (hm60 : m ≤ 60) (htp : ∀ j, j < m → tp j < 256) (hp : p < 10) : ∀ (N i c : Nat) (g : Nat → Nat × Nat × Nat), m + 1 ≤ i + N → 4 * c ≤ i → i ≤ m → (∀ j, j < c → cdOk (g j)) → (∃ f, f ≤ m ∧ (∀ (V : SV) (O : SO) (x3 : Int32), TpC m tp V → Cpre a c g V → (x3 = 1 ∨ (x3 = 0 ∧ ¬ (i < m ∧ tp i = 58))) → ∃ V', Ev G (d + 4) mX0_readFrom 10 [(0, .ref a), (1, .ref 31), (2, .int (nI m)), (3, .int x3), (4, .int (nI i))] (K, n, V, J, O) (some (.int (nI f))) (K, n, V', J, O) ∧ fr (frA0 a) V V' ∧ (V' a 6 = V a 6 ∨ ∃ t, t < 4 ∧ V' a 6 = nI t)) ∧ (∀ (K : SK) (n : Nat × Nat) (V : SV) (O : SO), StK K → TpM m tp V → Mpre p c g V → V 57 26 = nI i → ∃ V', Ev G (d + 4) mX12_readAsk 23 [(0, .ref 57), (1, .int (nI p)), (2, .int 1)] (K, n, V, J, O) (some (.int 0)) (K, n, V', J, O) ∧ V' 57 26 = nI f ∧ fr (frA1 p) V V' ∧ (V' 68 p = V 68 p ∨ ∃ t, t < 4 ∧ V' 68 p = nI t))) ∨ (∃ mm g' w qc, (mm ≤ 15 ∧ (∀ j, j < mm → cdOk (g' j)) ∧ (w = 109 ∨ w = 110 ∨ w = 115 ∨ w = 120) ∧ qc < 4) ∧ (∀ (V : SV) (O : SO) (x3 : Int32), TpC m tp V → Cpre a c g V → (x3 = 1 ∨ (x3 = 0 ∧ ¬ (i < m ∧ tp i = 58))) → ∃ V', Ev G (d + 4) mX0_readFrom 10 [(0, .ref a), (1, .ref 31), (2, .int (nI m)), (3, .int x3), (4, .int (nI i))] (K, n, V, J, O) (some (.int (-1))) (K, n, V', J, O) ∧ (Cpre a mm g' V' ∧ V' a 5 = nI w ∧ (if w = 110 then V' a 6 = V a 6 else V' a 6 = nI qc)) ∧ fr (frA0 a) V V') ∧ (∀ (K : SK) (n : Nat × Nat) (V : SV) (O : SO), StK K → TpM m tp V → Mpre p c g V → V 57 26 = nI i → ∃ V', Ev G (d + 4) mX12_readAsk 23 [(0, .ref 57), (1, .int (nI p)), (2, .int 1)] (K, n, V, J, O) (some (.int 1)) (K, n, V', J, O) ∧ (Mpre p mm g' V' ∧ V' 67 p = nI w ∧ (if w = 110 then V' 68 p = V 68 p else V' 68 p = nI qc)) ∧ fr (frA1 p) V V')) := by
  intro N
  induction N with
  | zero =>
    intro i c g h1 h2 h3 hg
    omega
  | succ N ih =>
    intro i c g h1 h2 h3 hg
    have hv : vp_in (nI p) 10 := nI_v hp (by omega)
    have hcp : (nI p).toNatClampNeg = p := nI_c (by omega)
    have hcs : 16 * p + c < 160 := by omega
    have kC : ∀ {V V' : SV}, fr (frCc a c) V V' → fr (frA0 a) V V' := fun hf => fr_mo hf (fun x k q => by unfold frCc at q; unfold frA0; omega)
    have kM : ∀ {V V' : SV}, fr (frCm (16 * p + c)) V V' → fr (frA1 p) V V' := fun hf => fr_mo hf (fun x k q => by unfold frCm at q; unfold frA1; omega)
    have kOC : ∀ {V V' : SV}, fr (frOc a) V V' → fr (frA0 a) V V' := fun hf => fr_mo hf (fun x k q => by unfold frOc at q; unfold frA0; omega)
    have kOM : ∀ {V V' : SV}, fr (frOm p) V V' → fr (frA1 p) V V' := fun hf => fr_mo hf (fun x k q => by unfold frOm at q; unfold frA1; omega)
    have k2 : ∀ {P : Nat → Nat → Prop} {V V' V'' : SV}, fr P V V' → fr P V' V'' → fr P V V'' := fun h1 h2 => fr_mo (fr_tr h1 h2) (fun x k q => q.elim id id)
    have TC : ∀ {V V' : SV}, fr (frA0 a) V V' → TpC m tp V → TpC m tp V' := fun hf hT => TpC_a hT h96 (fr_mo hf (fun x k q => by unfold frA0 at q; omega))
    have TM : ∀ {V V' : SV}, fr (frA1 p) V V' → TpM m tp V → TpM m tp V' := fun hf hT => TpM_a hT (fr_mo hf (fun x k q => by unfold frA1 at q; omega))
    -- the reference, up to the condition
    have r23 : ∀ {K : SK} {n : Nat × Nat} {V : SV} {O : SO} {r : Option Value} {V' : SV}, StK K → Mpre p c g V → (∃ (v4 : Int32) (V3 : SV), Ev G (d + 3) mX12_readOne 0 [(0, .ref 57), (1, .int (nI (16 * p + c)))] (K, n, V, J, O) (some (.int v4)) (K, n, V3, J, O) ∧ ((v4 ≠ 0 → (∃ (v7 : Int32), Ev G (d + 3) mX12_byteAt 0 [(0, .ref 57)] (K, n, (up2 V3 66 p ((V3 66 p) + 1)), J, O) (some (.int v7)) (K, n, (up2 V3 66 p ((V3 66 p) + 1)), J, O) ∧ ((v7 ≠ 38 → Ev G (d + 4) mX12_readAsk 23 [(0, .ref 57), (1, .int (nI p)), (2, .int 0)] (K, n, (up2 (up2 V3 66 p ((V3 66 p) + 1)) 57 26 ((V3 57 26) + 0)), J, O) r (K, n, V', J, O)) ∧ (v7 = 38 → Ev G (d + 4) mX12_readAsk 23 [(0, .ref 57), (1, .int (nI p)), (2, .int 1)] (K, n, (up2 (up2 V3 66 p ((V3 66 p) + 1)) 57 26 ((V3 57 26) + 1)), J, O) r (K, n, V', J, O))))) ∧ (v4 = 0 → (r = some (.int 0) ∧ V' = V3)))) → Ev G (d + 4) mX12_readAsk 23 [(0, .ref 57), (1, .int (nI p)), (2, .int 1)] (K, n, V, J, O) r (K, n, V', J, O) := fun {K} {n} {V} {O} {r} {V'} hK hM ⟨v4, V3, z1, z2, z3⟩ => by
      refine wX12_readAsk_23 hK (bf one0 ⟨hv, v4, V3, ?_, fun y => ⟨hv, hv, ?_⟩, z3⟩)
      · rw [hcp, hM.1, ix16]
        exact z1
      · rw [hcp]
        exact z2 y
    rcases cond_sep (G := G) (d := d) (n := n) (J := J) (i := i) (c := c) (s := 16 * p + c) hK ha h96 htp h3 (by omega) hcs with ⟨f, hf, hC, hM⟩ | ⟨fd, sg, vv, nx, ⟨⟨o1, o2, o3⟩, hnx, hnm, hc15⟩, hC, hM⟩
    · -- no condition there
      refine Or.inl ⟨f, hf.2, fun V O x3 hT hP h3 => ?_, fun K n V O hK hT hP h26 => ?_⟩
      · obtain ⟨V', z1, z2⟩ := hC V O x3 hT hP.1 h3
        exact ⟨V', z1, kC z2, Or.inl (z2 _ _ (by unfold frCc; omega))⟩
      · obtain ⟨V', z1, z2, z3⟩ := hM K n V O hK hT h26
        exact ⟨V', r23 hK hP ⟨0, V', z1, nf rfl ⟨rfl, rfl⟩⟩, z2, kM z3, Or.inl (z3 _ _ (by unfold frCm; omega))⟩
    · have CP : ∀ {V V2 : SV}, Cpre a c g V → (V2 a 4 = nI (c + 1) ∧ V2 (a + 1) c = nI fd ∧ V2 (a + 2) c = nI sg ∧ V2 (a + 3) c = nI vv) → fr (frCc a c) V V2 → Cpre a (c + 1) (gU g c (fd, sg, vv)) V2 := fun {V} {V2} hP e hf => by
        refine ⟨e.1, fun j hj => ?_⟩
        by_cases ej : j = c
        · rw [ej, gU_s]
          exact e.2
        · rw [gU_o ej, hf _ _ (by unfold frCc; omega), hf _ _ (by unfold frCc; omega), hf _ _ (by unfold frCc; omega)]
          exact hP.2 j (by omega)
      have MP : ∀ {V V2 : SV} {y : Int32}, Mpre p c g V → (V2 63 (16 * p + c) = nI fd ∧ V2 64 (16 * p + c) = nI sg ∧ V2 65 (16 * p + c) = nI vv) → fr (frCm (16 * p + c)) V V2 → Mpre p (c + 1) (gU g c (fd, sg, vv)) (up2 (up2 V2 66 p (nI (c + 1))) 57 26 y) := fun {V} {V2} {y} hP e hf => by
        refine ⟨by rw [up2_a (by decide), up2_s], fun j hj => ?_⟩
        rw [up2_a (by decide), up2_a (by decide), up2_a (by decide), up2_a (by decide), up2_a (by decide), up2_a (by decide)]
        by_cases ej : j = c
        · rw [ej, gU_s]
          exact e
        · rw [gU_o ej, hf _ _ (by unfold frCm; omega), hf _ _ (by unfold frCm; omega), hf _ _ (by unfold frCm; omega)]
          exact hP.2 j (by omega)
      have hg' : ∀ j, j < c + 1 → cdOk (gU g c (fd, sg, vv) j) := fun j hj => by
        by_cases ej : j = c
        · rw [ej, gU_s]
          exact ⟨o1, o2, o3⟩
        · rw [gU_o ej]
          exact hg j (by omega)
      have e66 : ∀ {V V2 : SV}, Mpre p c g V → fr (frCm (16 * p + c)) V V2 → V2 66 p + 1 = nI (c + 1) := fun hP hf => by
        rw [hf _ _ (by unfold frCm; omega), hP.1, nI_1]
      have fr66 : ∀ {V2 : SV} {y z : Int32}, fr (frA1 p) V2 (up2 (up2 V2 66 p y) 57 26 z) := fun {V2} {y} {z} => fr_up (fr_up fr_rfl (Or.inr (Or.inl ⟨by decide, by decide, rfl⟩))) (Or.inr (Or.inr ⟨rfl, rfl⟩))
      have fr66' : ∀ {V2 : SV} {y : Int32}, fr (frA1 p) V2 (up2 V2 66 p y) := fun {V2} {y} => fr_up fr_rfl (Or.inr (Or.inl ⟨by decide, by decide, rfl⟩))
      have bt66 : ∀ {K : SK} {n : Nat × Nat} {V2 : SV} {O : SO}, StK K → TpM m tp V2 → V2 57 26 = nI nx → Ev G (d + 3) mX12_byteAt 0 [(0, .ref 57)] (K, n, up2 V2 66 p (nI (c + 1)), J, O) (some (.int (byM m tp nx))) (K, n, up2 V2 66 p (nI (c + 1)), J, O) := fun {K} {n} {V2} {O} hK hT h26 => m_byM hK (TM fr66' hT) (by rw [up2_a (by decide)]; exact h26) hnm
      by_cases q1 : nx < m ∧ tp nx = 38
      · -- another one follows
        have eb : byM m tp nx = 38 := (byM_eq htp (x := 38) (by decide)).mpr q1
        have c5 : ∀ {V2 : SV} {O : SO} {r : Option Value} {V' : SV}, TpC m tp V2 → Ev G (d + 4) mX0_readFrom 10 [(0, .ref a), (1, .ref 31), (2, .int (nI m)), (3, .int 1), (4, .int (nI (nx + 1)))] (K, n, V2, J, O) r (K, n, V', J, O) → Ev G (d + 4) mX0_readFrom 10 [(0, .ref a), (1, .ref 31), (2, .int (nI m)), (3, .int 5), (4, .int (nI nx))] (K, n, V2, J, O) r (K, n, V', J, O) := fun {V2} {O} {r} {V'} hT hn => by
          have hE := sa_5 (G := G) (d := d + 2) (n := n) (V := V2) (J := J) (O := O) hK ha (hT.2.2 nx q1.1).2
          rw [if_pos q1.2] at hE
          exact rf_go hK ha hT q1.1 (by decide) hE hn
        have m5 : ∀ {K : SK} {n : Nat × Nat} {V V2 : SV} {O : SO} {r : Option Value} {V' : SV}, StK K → TpM m tp V → Mpre p c g V → Ev G (d + 3) mX12_readOne 0 [(0, .ref 57), (1, .int (nI (16 * p + c)))] (K, n, V, J, O) (some (.int 1)) (K, n, V2, J, O) → V2 57 26 = nI nx → fr (frCm (16 * p + c)) V V2 → Ev G (d + 4) mX12_readAsk 23 [(0, .ref 57), (1, .int (nI p)), (2, .int 1)] (K, n, up2 (up2 V2 66 p (nI (c + 1))) 57 26 (nI (nx + 1)), J, O) r (K, n, V', J, O) → Ev G (d + 4) mX12_readAsk 23 [(0, .ref 57), (1, .int (nI p)), (2, .int 1)] (K, n, V, J, O) r (K, n, V', J, O) := fun {K} {n} {V} {V2} {O} {r} {V'} hK hT hP z1 z2 z4 hE => by
          refine r23 hK hP ⟨1, V2, z1, nt one0 ⟨byM m tp nx, ?_, nf eb ?_⟩⟩
          · rw [e66 hP z4]
            exact bt66 hK (frCm_T z4 hT) z2
          · rw [e66 hP z4, z2, nI_1]
            exact hE
        rcases ih (nx + 1) (c + 1) (gU g c (fd, sg, vv)) (by omega) (by omega) (by omega) hg' with ⟨f, hf, jC, jM⟩ | ⟨mm, g', w, qc, hok, jC, jM⟩
        · refine Or.inl ⟨f, hf, fun V O x3 hT hP h3 => ?_, fun K n V O hK hT hP h26 => ?_⟩
          · obtain ⟨V2, z1, z2, z3⟩ := hC V O x3 hT hP.1 h3
            obtain ⟨V', y1, y2, y3⟩ := jC V2 O 1 (TC (kC z2) hT) (CP hP z1 z2) (Or.inl rfl)
            exact ⟨V', z3 _ _ (c5 (TC (kC z2) hT) y1), k2 (kC z2) y2, by rw [z2 _ _ (by unfold frCc; omega)] at y3; exact y3⟩
          · obtain ⟨V2, z1, z2, z3, z4⟩ := hM K n V O hK hT h26
            obtain ⟨V', y1, y2, y3, y4⟩ := jM K n (up2 (up2 V2 66 p (nI (c + 1))) 57 26 (nI (nx + 1))) O hK (TM fr66 (frCm_T z4 hT)) (MP hP z3 z4) up2_s
            refine ⟨V', m5 hK hT hP z1 z2 z4 y1, y2, k2 (k2 (kM z4) fr66) y3, ?_⟩
            rw [up2_a (by decide), up2_a (by decide), z4 _ _ (by unfold frCm; omega)] at y4
            exact y4
        · refine Or.inr ⟨mm, g', w, qc, hok, fun V O x3 hT hP h3 => ?_, fun K n V O hK hT hP h26 => ?_⟩
          · obtain ⟨V2, z1, z2, z3⟩ := hC V O x3 hT hP.1 h3
            obtain ⟨V', y1, y2, y3⟩ := jC V2 O 1 (TC (kC z2) hT) (CP hP z1 z2) (Or.inl rfl)
            rw [z2 a 6 (by unfold frCc; omega)] at y2
            exact ⟨V', z3 _ _ (c5 (TC (kC z2) hT) y1), y2, k2 (kC z2) y3⟩
          · obtain ⟨V2, z1, z2, z3, z4⟩ := hM K n V O hK hT h26
            obtain ⟨V', y1, y2, y3⟩ := jM K n (up2 (up2 V2 66 p (nI (c + 1))) 57 26 (nI (nx + 1))) O hK (TM fr66 (frCm_T z4 hT)) (MP hP z3 z4) up2_s
            refine ⟨V', m5 hK hT hP z1 z2 z4 y1, ?_, k2 (k2 (kM z4) fr66) y3⟩
            rw [up2_a (by decide), up2_a (by decide), z4 _ _ (by unfold frCm; omega)] at y2
            exact y2
      · have nb : byM m tp nx ≠ 38 := fun e => q1 ((byM_eq htp (x := 38) (by decide)).mp e)
        have h0 : ∀ (y : Nat), nI y + 0 = nI y := fun y => nI_add y 0
        have m5 : ∀ {K : SK} {n : Nat × Nat} {V V2 : SV} {O : SO} {r : Option Value} {V' : SV}, StK K → TpM m tp V → Mpre p c g V → Ev G (d + 3) mX12_readOne 0 [(0, .ref 57), (1, .int (nI (16 * p + c)))] (K, n, V, J, O) (some (.int 1)) (K, n, V2, J, O) → V2 57 26 = nI nx → fr (frCm (16 * p + c)) V V2 → ((byM m tp nx = 58 → Ev G (d + 4) mX12_readAsk 104 [(0, .ref 57), (1, .int (nI p))] (K, n, up2 (up2 V2 66 p (nI (c + 1))) 57 26 (nI nx), J, O) r (K, n, V', J, O)) ∧ (¬ byM m tp nx = 58 → (r = some (.int 0) ∧ V' = up2 (up2 V2 66 p (nI (c + 1))) 57 26 (nI nx)))) → Ev G (d + 4) mX12_readAsk 23 [(0, .ref 57), (1, .int (nI p)), (2, .int 1)] (K, n, V, J, O) r (K, n, V', J, O) := fun {K} {n} {V} {V2} {O} {r} {V'} hK hT hP z1 z2 z4 hE => by
          refine r23 hK hP ⟨1, V2, z1, nt one0 ⟨byM m tp nx, ?_, nt nb ?_⟩⟩
          · rw [e66 hP z4]
            exact bt66 hK (frCm_T z4 hT) z2
          · rw [e66 hP z4, z2, h0]
            exact wX12_readAsk_23 hK (bt rfl ⟨_, m_byM hK (TM fr66 (frCm_T z4 hT)) up2_s hnm, hE⟩)
        by_cases q2 : nx < m ∧ tp nx = 58
        · -- what is asked follows
          have eb : byM m tp nx = 58 := (byM_eq htp (x := 58) (by decide)).mpr q2
          have c5 : ∀ {V2 : SV} {O : SO} {r : Option Value} {V' : SV}, TpC m tp V2 → Ev G (d + 4) mX0_readFrom 10 [(0, .ref a), (1, .ref 31), (2, .int (nI m)), (3, .int 6), (4, .int (nI (nx + 1)))] (K, n, V2, J, O) r (K, n, V', J, O) → Ev G (d + 4) mX0_readFrom 10 [(0, .ref a), (1, .ref 31), (2, .int (nI m)), (3, .int 5), (4, .int (nI nx))] (K, n, V2, J, O) r (K, n, V', J, O) := fun {V2} {O} {r} {V'} hT hn => by
            have hE := sa_5 (G := G) (d := d + 2) (n := n) (V := V2) (J := J) (O := O) hK ha (hT.2.2 nx q2.1).2
            rw [if_neg (fun e => q1 ⟨q2.1, e⟩), if_pos q2.2] at hE
            exact rf_go hK ha hT q2.1 (by decide) hE hn
          rcases out_sep (G := G) (d := d) (n := n) (J := J) (i := nx + 1) (i' := nx) hK ha h96 htp (by omega) hp rfl with ⟨f, hf, jC, jM⟩ | ⟨w, qc, hok, jC, jM⟩
          · refine Or.inl ⟨f, hf, fun V O x3 hT hP h3 => ?_, fun K n V O hK hT hP h26 => ?_⟩
            · obtain ⟨V2, z1, z2, z3⟩ := hC V O x3 hT hP.1 h3
              obtain ⟨V', y1, y2, y3⟩ := jC V2 O (TC (kC z2) hT)
              exact ⟨V', z3 _ _ (c5 (TC (kC z2) hT) y1), k2 (kC z2) (kOC y2), by rw [z2 _ _ (by unfold frCc; omega)] at y3; exact y3⟩
            · obtain ⟨V2, z1, z2, z3, z4⟩ := hM K n V O hK hT h26
              obtain ⟨V', y1, y2, y3, y4⟩ := jM K n (up2 (up2 V2 66 p (nI (c + 1))) 57 26 (nI nx)) O hK (TM fr66 (frCm_T z4 hT)) up2_s
              refine ⟨V', m5 hK hT hP z1 z2 z4 (bt eb y1), y2, k2 (k2 (kM z4) fr66) (kOM y3), ?_⟩
              rw [up2_a (by decide), up2_a (by decide), z4 _ _ (by unfold frCm; omega)] at y4
              exact y4
          · refine Or.inr ⟨c + 1, gU g c (fd, sg, vv), w, qc, ⟨by omega, hg', hok.1, hok.2⟩, fun V O x3 hT hP h3 => ?_, fun K n V O hK hT hP h26 => ?_⟩
            · obtain ⟨V2, z1, z2, z3⟩ := hC V O x3 hT hP.1 h3
              obtain ⟨V', y1, y2, y3, y4⟩ := jC V2 O (TC (kC z2) hT)
              rw [z2 a 6 (by unfold frCc; omega)] at y3
              have hcp' := CP hP z1 z2
              refine ⟨V', z3 _ _ (c5 (TC (kC z2) hT) y1), ⟨⟨by rw [y4 _ _ (by unfold frOc; omega)]; exact hcp'.1, fun j hj => ?_⟩, y2, y3⟩, k2 (kC z2) (kOC y4)⟩
              rw [y4 _ _ (by unfold frOc; omega), y4 _ _ (by unfold frOc; omega), y4 _ _ (by unfold frOc; omega)]
              exact hcp'.2 j hj
            · obtain ⟨V2, z1, z2, z3, z4⟩ := hM K n V O hK hT h26
              obtain ⟨V', y1, y2, y3, y4⟩ := jM K n (up2 (up2 V2 66 p (nI (c + 1))) 57 26 (nI nx)) O hK (TM fr66 (frCm_T z4 hT)) up2_s
              have hmp' := MP (y := nI nx) hP z3 z4
              refine ⟨V', m5 hK hT hP z1 z2 z4 (bt eb y1), ⟨⟨by rw [y4 _ _ (by unfold frOm; omega)]; exact hmp'.1, fun j hj => ?_⟩, y2, ?_⟩, k2 (k2 (kM z4) fr66) (kOM y4)⟩
              · rw [y4 _ _ (by unfold frOm; omega), y4 _ _ (by unfold frOm; omega), y4 _ _ (by unfold frOm; omega)]
                exact hmp'.2 j hj
              · rw [up2_a (by decide), up2_a (by decide), z4 _ _ (by unfold frCm; omega)] at y3
                exact y3
        · -- neither
          have nb2 : ¬ byM m tp nx = 58 := fun e => q2 ((byM_eq htp (x := 58) (by decide)).mp e)
          refine Or.inl ⟨nx, hnm, fun V O x3 hT hP h3 => ?_, fun K n V O hK hT hP h26 => ?_⟩
          · obtain ⟨V2, z1, z2, z3⟩ := hC V O x3 hT hP.1 h3
            refine ⟨V2, z3 _ _ ?_, kC z2, Or.inl (z2 _ _ (by unfold frCc; omega))⟩
            by_cases e : nx = m
            · rw [e]
              exact rf_end hK ha (by decide)
            · have hlt : nx < m := by omega
              have hT2 := TC (kC z2) hT
              have hE := sa_5 (G := G) (d := d + 2) (n := n) (V := V2) (J := J) (O := O) hK ha (hT2.2.2 nx hlt).2
              rw [if_neg (fun e => q1 ⟨hlt, e⟩), if_neg (fun e => q2 ⟨hlt, e⟩)] at hE
              exact rf_bad hK ha hT2 hlt hE
          · obtain ⟨V2, z1, z2, z3, z4⟩ := hM K n V O hK hT h26
            refine ⟨up2 (up2 V2 66 p (nI (c + 1))) 57 26 (nI nx), m5 hK hT hP z1 z2 z4 (bf nb2 ⟨rfl, rfl⟩), up2_s, k2 (kM z4) fr66, Or.inl ?_⟩
            rw [up2_a (by decide), up2_a (by decide), z4 _ _ (by unfold frCm; omega)]
end
