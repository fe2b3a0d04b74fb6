/-! ===== one condition, jointly ===== -/
section
variable {G : Gp} {d : Nat} {K : SK} {n : Nat × Nat} {J : SJV} {a c i m s : Nat} {tp : Nat → Nat}
theorem cond_sep (hK : StK K) (ha : IsAk K a) (h96 : 96 ≤ a) (htp : ∀ j, j < m → tp j < 256) (hi : i ≤ m) (hc : i < m → c < 15) (hs : s < 160) : (∃ f, (i ≤ f ∧ f ≤ m) ∧ (∀ (V : SV) (O : SO) (x3 : Int32), TpC m tp V → V a 4 = nI c → (x3 = 1 ∨ (x3 = 0 ∧ ¬ (i < m ∧ tp i = 58))) → ∃ V', Ev G (d + 4) mX0_readFrom 10 [(0, .ref a), (1, .ref 31), (2, .int (nI m)), (3, .int x3), (4, .int (nI i))] (K, n, V, J, O) (some (.int (nI f))) (K, n, V', J, O) ∧ fr (frCc a c) V V') ∧ (∀ (K : SK) (n : Nat × Nat) (V : SV) (O : SO), StK K → TpM m tp V → V 57 26 = nI i → ∃ V', Ev G (d + 3) mX12_readOne 0 [(0, .ref 57), (1, .int (nI s))] (K, n, V, J, O) (some (.int 0)) (K, n, V', J, O) ∧ V' 57 26 = nI f ∧ fr (frCm s) V V')) ∨ (∃ fd sg vv nx, ((fd < 4 ∧ (sg = 60 ∨ sg = 61 ∨ sg = 62) ∧ vv ≤ 101) ∧ i + 3 ≤ nx ∧ nx ≤ m ∧ c < 15) ∧ (∀ (V : SV) (O : SO) (x3 : Int32), TpC m tp V → V a 4 = nI c → (x3 = 1 ∨ (x3 = 0 ∧ ¬ (i < m ∧ tp i = 58))) → ∃ V2, (V2 a 4 = nI (c + 1) ∧ V2 (a + 1) c = nI fd ∧ V2 (a + 2) c = nI sg ∧ V2 (a + 3) c = nI vv) ∧ fr (frCc a c) V V2 ∧ ∀ (r : Option Value) (V' : SV), Ev G (d + 4) mX0_readFrom 10 [(0, .ref a), (1, .ref 31), (2, .int (nI m)), (3, .int 5), (4, .int (nI nx))] (K, n, V2, J, O) r (K, n, V', J, O) → Ev G (d + 4) mX0_readFrom 10 [(0, .ref a), (1, .ref 31), (2, .int (nI m)), (3, .int x3), (4, .int (nI i))] (K, n, V, J, O) r (K, n, V', J, O)) ∧ (∀ (K : SK) (n : Nat × Nat) (V : SV) (O : SO), StK K → TpM m tp V → V 57 26 = nI i → ∃ V2, Ev G (d + 3) mX12_readOne 0 [(0, .ref 57), (1, .int (nI s))] (K, n, V, J, O) (some (.int 1)) (K, n, V2, J, O) ∧ V2 57 26 = nI nx ∧ (V2 63 s = nI fd ∧ V2 64 s = nI sg ∧ V2 65 s = nI vv) ∧ fr (frCm s) V V2)) := by
  by_cases q1 : ¬ (i < m ∧ 48 ≤ tp i ∧ tp i ≤ 51)
  · exact Or.inl ⟨i, ⟨Nat.le_refl _, hi⟩, fun V O x3 hT h4 h3 => ⟨V, cd_f0 hK ha hT hi h4 hc h3 q1, fr_rfl⟩, fun K n V O hK hT h26 => ⟨V, (m_one0 hK hT hi h26 hs).1 q1, h26, fr_rfl⟩⟩
  rw [Classical.not_not] at q1
  have hc15 := hc q1.1
  -- the field
  have C1 : ∀ (V : SV), TpC m tp V → V a 4 = nI c → TpC m tp (up2 V (a + 1) c (nI (tp i - 48))) ∧ up2 V (a + 1) c (nI (tp i - 48)) a 4 = nI c ∧ fr (frCc a c) V (up2 V (a + 1) c (nI (tp i - 48))) := fun V hT h4 => ⟨TpC_a hT h96 (fr_up fr_rfl (by omega)), by rw [up2_a (by omega)]; exact h4, fr_up fr_rfl (Or.inl ⟨Or.inl rfl, rfl⟩)⟩
  have M1 : ∀ (V : SV), TpM m tp V → TpM m tp (up2 (up2 V 63 s (nI (tp i - 48))) 57 26 (nI (i + 1))) ∧ fr (frCm s) V (up2 (up2 V 63 s (nI (tp i - 48))) 57 26 (nI (i + 1))) := fun V hT => by
    have hf : fr (frCm s) V (up2 (up2 V 63 s (nI (tp i - 48))) 57 26 (nI (i + 1))) := fr_up (fr_up fr_rfl (Or.inl ⟨Or.inl rfl, rfl⟩)) (Or.inr ⟨rfl, rfl⟩)
    exact ⟨frCm_T hf hT, hf⟩
  by_cases q2 : ¬ (i + 1 < m ∧ (tp (i + 1) = 60 ∨ tp (i + 1) = 61 ∨ tp (i + 1) = 62))
  · refine Or.inl ⟨i + 1, ⟨by omega, by omega⟩, fun V O x3 hT h4 h3 => ?_, fun K n V O hK hT h26 => ?_⟩
    · obtain ⟨y1, y2, y3⟩ := C1 V hT h4
      exact ⟨_, cd_f hK ha hT q1.1 h4 hc15 h3 q1.2 ((cd_s hK ha y1 (by omega) y2 hc15).2 q2), y3⟩
    · exact ⟨_, ((m_one0 hK hT hi h26 hs).2 q1).1 q2, up2_s, (M1 V hT).2⟩
  rw [Classical.not_not] at q2
  -- the sign
  have C2 : ∀ (V : SV), TpC m tp V → V a 4 = nI c → TpC m tp (up2 (up2 V (a + 1) c (nI (tp i - 48))) (a + 2) c (nI (tp (i + 1)))) ∧ up2 (up2 V (a + 1) c (nI (tp i - 48))) (a + 2) c (nI (tp (i + 1))) a 4 = nI c ∧ fr (frCc a c) V (up2 (up2 V (a + 1) c (nI (tp i - 48))) (a + 2) c (nI (tp (i + 1)))) := fun V hT h4 => by
    obtain ⟨y1, y2, y3⟩ := C1 V hT h4
    exact ⟨TpC_a y1 h96 (fr_up fr_rfl (by omega)), by rw [up2_a (by omega)]; exact y2, fr_mo (fr_tr y3 (fr_up (P := frCc a c) fr_rfl (Or.inl ⟨Or.inr (Or.inl rfl), rfl⟩))) (fun x k q => q.elim id id)⟩
  have C2go : ∀ (V : SV) (O : SO) (x3 : Int32) (r : Option Value) (V' : SV), TpC m tp V → V a 4 = nI c → (x3 = 1 ∨ (x3 = 0 ∧ ¬ (i < m ∧ tp i = 58))) → Ev G (d + 4) mX0_readFrom 10 [(0, .ref a), (1, .ref 31), (2, .int (nI m)), (3, .int 3), (4, .int (nI (i + 1 + 1)))] (K, n, up2 (up2 V (a + 1) c (nI (tp i - 48))) (a + 2) c (nI (tp (i + 1))), J, O) r (K, n, V', J, O) → Ev G (d + 4) mX0_readFrom 10 [(0, .ref a), (1, .ref 31), (2, .int (nI m)), (3, .int x3), (4, .int (nI i))] (K, n, V, J, O) r (K, n, V', J, O) := fun V O x3 r V' hT h4 h3 hE => by
    obtain ⟨y1, y2, y3⟩ := C1 V hT h4
    exact cd_f hK ha hT q1.1 h4 hc15 h3 q1.2 ((cd_s hK ha y1 (by omega) y2 hc15).1 q2 r V' hE)
  have M2 : ∀ (V : SV), TpM m tp V → TpM m tp (up2 (up2 (up2 (up2 V 63 s (nI (tp i - 48))) 57 26 (nI (i + 1))) 64 s (nI (tp (i + 1)))) 57 26 (nI (i + 2))) ∧ fr (frCm s) V (up2 (up2 (up2 (up2 V 63 s (nI (tp i - 48))) 57 26 (nI (i + 1))) 64 s (nI (tp (i + 1)))) 57 26 (nI (i + 2))) ∧ up2 (up2 (up2 (up2 V 63 s (nI (tp i - 48))) 57 26 (nI (i + 1))) 64 s (nI (tp (i + 1)))) 57 26 (nI (i + 2)) 63 s = nI (tp i - 48) ∧ up2 (up2 (up2 (up2 V 63 s (nI (tp i - 48))) 57 26 (nI (i + 1))) 64 s (nI (tp (i + 1)))) 57 26 (nI (i + 2)) 64 s = nI (tp (i + 1)) := fun V hT => by
    obtain ⟨y1, y2⟩ := M1 V hT
    have hf : fr (frCm s) (up2 (up2 V 63 s (nI (tp i - 48))) 57 26 (nI (i + 1))) (up2 (up2 (up2 (up2 V 63 s (nI (tp i - 48))) 57 26 (nI (i + 1))) 64 s (nI (tp (i + 1)))) 57 26 (nI (i + 2))) := fr_up (fr_up fr_rfl (Or.inl ⟨Or.inr (Or.inl rfl), rfl⟩)) (Or.inr ⟨rfl, rfl⟩)
    refine ⟨frCm_T hf y1, fr_mo (fr_tr y2 hf) (fun x k q => q.elim id id), ?_, ?_⟩
    · rw [up2_a (by decide), up2_a (by decide), up2_a (by decide), up2_s]
    · rw [up2_a (by decide), up2_s]
  have e26 : ∀ (V : SV), up2 (up2 V 63 s (nI (tp i - 48))) 57 26 (nI (i + 1)) 57 26 + 1 = nI (i + 2) := fun V => by rw [up2_s, nI_1]
  have M2go : ∀ (K : SK) (n : Nat × Nat) (_ : StK K) (V : SV) (O : SO) (r : Option Value) (V' : SV), TpM m tp V → V 57 26 = nI i → Ev G (d + 3) mX12_readOne 60 [(0, .ref 57), (1, .int (nI s)), (2, .int (nI (tp (i + 1))))] (K, n, up2 (up2 V 63 s (nI (tp i - 48))) 57 26 (nI (i + 1)), J, O) r (K, n, V', J, O) → Ev G (d + 3) mX12_readOne 0 [(0, .ref 57), (1, .int (nI s))] (K, n, V, J, O) r (K, n, V', J, O) := fun K n hK V O r V' hT h26 hE => ((m_one0 hK hT hi h26 hs).2 q1).2 q2 r V' hE
  by_cases q3 : i + 2 < m ∧ (tp (i + 2) = 97 ∨ tp (i + 2) = 98)
  · refine Or.inr ⟨tp i - 48, tp (i + 1), vlN (tp (i + 2)), i + 3, ⟨⟨by omega, q2.2, by unfold vlN; split <;> omega⟩, by omega, by omega, hc15⟩, fun V O x3 hT h4 h3 => ?_, fun K n V O hK hT h26 => ?_⟩
    · obtain ⟨y1, y2, y3⟩ := C2 V hT h4
      refine ⟨up2 (up2 (up2 (up2 V (a + 1) c (nI (tp i - 48))) (a + 2) c (nI (tp (i + 1)))) (a + 3) c (nI (vlN (tp (i + 2))))) a 4 (nI (c + 1)), ⟨up2_s, ?_, ?_, ?_⟩, fr_mo (fr_tr y3 (fr_up (P := frCc a c) (fr_up fr_rfl (Or.inl ⟨Or.inr (Or.inr rfl), rfl⟩)) (Or.inr ⟨rfl, rfl⟩))) (fun x k q => q.elim id id), fun r V' hE => C2go V O x3 r V' hT h4 h3 ((cd_v hK ha y1 (by omega) y2 hc15).1 q3 r V' hE)⟩
      · rw [up2_a (by omega), up2_a (by omega), up2_a (by omega), up2_s]
      · rw [up2_a (by omega), up2_a (by omega), up2_s]
      · rw [up2_a (by omega), up2_s]
    · obtain ⟨y1, y2⟩ := M1 V hT
      obtain ⟨z1, z2, z3, z4⟩ := M2 V hT
      refine ⟨_, M2go K n hK V O _ _ hT h26 ((m_one60 hK y1 (by omega) (e26 V) hs rfl).1 q3), up2_s, ⟨?_, ?_, ?_⟩, fr_mo (fr_tr z2 (fr_up (P := frCm s) (fr_up fr_rfl (Or.inl ⟨Or.inr (Or.inr rfl), rfl⟩)) (Or.inr ⟨rfl, rfl⟩))) (fun x k q => q.elim id id)⟩
      · rw [up2_a (by decide), up2_a (by decide)]
        exact z3
      · rw [up2_a (by decide), up2_a (by decide)]
        exact z4
      · rw [up2_a (by decide), up2_s]
  by_cases q4 : ¬ (i + 2 < m ∧ 48 ≤ tp (i + 2) ∧ tp (i + 2) ≤ 57)
  · refine Or.inl ⟨i + 2, ⟨by omega, by omega⟩, fun V O x3 hT h4 h3 => ?_, fun K n V O hK hT h26 => ?_⟩
    · obtain ⟨y1, y2, y3⟩ := C2 V hT h4
      exact ⟨_, C2go V O x3 _ _ hT h4 h3 ((cd_v hK ha y1 (by omega) y2 hc15).2.2 q3 q4), y3⟩
    · obtain ⟨y1, y2⟩ := M1 V hT
      obtain ⟨z1, z2, z3, z4⟩ := M2 V hT
      exact ⟨_, M2go K n hK V O _ _ hT h26 ((m_one60 hK y1 (by omega) (e26 V) hs rfl).2 q3 _ _ (fun x2 => (m_one124 hK z1 (by omega) up2_s hs).1 q4)), up2_s, z2⟩
  rw [Classical.not_not] at q4
  have C3 : ∀ (V : SV), TpC m tp V → V a 4 = nI c → TpC m tp (up2 (up2 (up2 V (a + 1) c (nI (tp i - 48))) (a + 2) c (nI (tp (i + 1)))) (a + 3) c (nI ((tp (i + 2) - 48) * 10))) ∧ up2 (up2 (up2 V (a + 1) c (nI (tp i - 48))) (a + 2) c (nI (tp (i + 1)))) (a + 3) c (nI ((tp (i + 2) - 48) * 10)) a 4 = nI c ∧ fr (frCc a c) V (up2 (up2 (up2 V (a + 1) c (nI (tp i - 48))) (a + 2) c (nI (tp (i + 1)))) (a + 3) c (nI ((tp (i + 2) - 48) * 10))) := fun V hT h4 => by
    obtain ⟨y1, y2, y3⟩ := C2 V hT h4
    exact ⟨TpC_a y1 h96 (fr_up fr_rfl (by omega)), by rw [up2_a (by omega)]; exact y2, fr_mo (fr_tr y3 (fr_up (P := frCc a c) fr_rfl (Or.inl ⟨Or.inr (Or.inr rfl), rfl⟩))) (fun x k q => q.elim id id)⟩
  by_cases q5 : ¬ (i + 3 < m ∧ 48 ≤ tp (i + 3) ∧ tp (i + 3) ≤ 57)
  · refine Or.inl ⟨i + 3, ⟨by omega, by omega⟩, fun V O x3 hT h4 h3 => ?_, fun K n V O hK hT h26 => ?_⟩
    · obtain ⟨y1, y2, y3⟩ := C2 V hT h4
      obtain ⟨w1, w2, w3⟩ := C3 V hT h4
      exact ⟨_, C2go V O x3 _ _ hT h4 h3 ((cd_v hK ha y1 (by omega) y2 hc15).2.1 q4 _ _ ((cd_d hK ha w1 (by omega) w2 hc15 up2_s).2 q5)), w3⟩
    · obtain ⟨y1, y2⟩ := M1 V hT
      obtain ⟨z1, z2, z3, z4⟩ := M2 V hT
      exact ⟨_, M2go K n hK V O _ _ hT h26 ((m_one60 hK y1 (by omega) (e26 V) hs rfl).2 q3 _ _ (fun x2 => ((m_one124 hK z1 (by omega) up2_s hs).2 q4).1 q5)), up2_s, fr_mo (fr_tr z2 (fr_up (P := frCm s) fr_rfl (Or.inr ⟨rfl, rfl⟩))) (fun x k q => q.elim id id)⟩
  rw [Classical.not_not] at q5
  refine Or.inr ⟨tp i - 48, tp (i + 1), (tp (i + 2) - 48) * 10 + (tp (i + 3) - 48), i + 4, ⟨⟨by omega, q2.2, by omega⟩, by omega, by omega, hc15⟩, fun V O x3 hT h4 h3 => ?_, fun K n V O hK hT h26 => ?_⟩
  · obtain ⟨y1, y2, y3⟩ := C2 V hT h4
    obtain ⟨w1, w2, w3⟩ := C3 V hT h4
    refine ⟨up2 (up2 (up2 (up2 (up2 V (a + 1) c (nI (tp i - 48))) (a + 2) c (nI (tp (i + 1)))) (a + 3) c (nI ((tp (i + 2) - 48) * 10))) (a + 3) c (nI ((tp (i + 2) - 48) * 10 + (tp (i + 3) - 48)))) a 4 (nI (c + 1)), ⟨up2_s, ?_, ?_, ?_⟩, fr_mo (fr_tr w3 (fr_up (P := frCc a c) (fr_up fr_rfl (Or.inl ⟨Or.inr (Or.inr rfl), rfl⟩)) (Or.inr ⟨rfl, rfl⟩))) (fun x k q => q.elim id id), fun r V' hE => C2go V O x3 r V' hT h4 h3 ((cd_v hK ha y1 (by omega) y2 hc15).2.1 q4 _ _ ((cd_d hK ha w1 (by omega) w2 hc15 up2_s).1 q5 r V' hE))⟩
    · rw [up2_a (by omega), up2_a (by omega), up2_a (by omega), up2_a (by omega), up2_s]
    · rw [up2_a (by omega), up2_a (by omega), up2_a (by omega), up2_s]
    · rw [up2_a (by omega), up2_s]
  · obtain ⟨y1, y2⟩ := M1 V hT
    obtain ⟨z1, z2, z3, z4⟩ := M2 V hT
    refine ⟨_, M2go K n hK V O _ _ hT h26 ((m_one60 hK y1 (by omega) (e26 V) hs rfl).2 q3 _ _ (fun x2 => ((m_one124 hK z1 (by omega) up2_s hs).2 q4).2 q5)), ?_, ⟨?_, ?_, up2_s⟩, fr_mo (fr_tr z2 (fr_up (P := frCm s) (fr_up fr_rfl (Or.inr ⟨rfl, rfl⟩)) (Or.inl ⟨Or.inr (Or.inr rfl), rfl⟩))) (fun x k q => q.elim id id)⟩
    · rw [up2_a (by decide), up2_s]
    · rw [up2_a (by decide), up2_a (by decide)]
      exact z3
    · rw [up2_a (by decide), up2_a (by decide)]
      exact z4
end
