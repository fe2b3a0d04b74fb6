/-! ===== ask, of both ===== -/
def frAsk (N : Nat) : Nat → Nat → Prop := fun x k => N ≤ x ∨ (x = 0 ∧ (k = 3 ∨ k = 5)) ∨ (63 ≤ x ∧ x ≤ 69) ∨ (x = 57 ∧ (k = 6 ∨ k = 14 ∨ k = 26))
section
variable {G : Gp} {d : Nat} {K K' : SK} {n : Nat × Nat} {V V' V1 : SV} {J : SJV} {O : SO} {r : Option Value} {a i p m nA N : Nat} {tp : Nat → Nat} {aa ofn : Nat → Nat} {qq : Nat → QD} {q : QD}
theorem IsAk_k (h : IsAk K a) (ha : a + 4 ≤ N) (hk : ∀ b, b < N → K' b = K b) : IsAk K' a := fun j c e => by
  have h4 : j < 4 := (List.getElem?_eq_some_iff.mp e).1
  rw [hk _ (by omega)]
  exact h j c e
theorem QM_k (h : QM i q V) (hq : qm q ≤ 15) (hi : i ≠ p) (hf : fr (fun x k => frA1 p x k ∨ ¬ (63 ≤ x ∧ x ≤ 68)) V V') : QM i q V' := by
  obtain ⟨h1, h2, h3, h4⟩ := h
  refine ⟨by rw [hf _ _ (by unfold frA1; omega)]; exact h1, by rw [hf _ _ (by unfold frA1; omega)]; exact h2, by rw [hf _ _ (by unfold frA1; omega)]; exact h3, fun j hj => ?_⟩
  rw [hf _ _ (by unfold frA1; omega), hf _ _ (by unfold frA1; omega), hf _ _ (by unfold frA1; omega)]
  exact h4 j hj
theorem p_ask (hK : StK K) (h96 : 96 ≤ n.1) (hT1 : TpC m tp V) (hT2 : TpM m tp V) (hA : AkO nA aa ofn K O V) (hR : AskR nA aa qq V) (h68 : ∀ p, nA ≤ p → p < 10 → ∃ t, t < 4 ∧ V 68 p = nI t) (hroom : ∀ i, i < nA → aa i + 4 ≤ n.1) : ∃ (r : Int32) (K' : SK) (n' : Nat × Nat) (V1 V2 : SV) (O' : SO) (nA' : Nat) (aa' ofn' : Nat → Nat) (qq' : Nat → QD) (m' : Nat), Ev G (d + 5) mX11_ask 0 [(0, .ref 0)] (K, n, V, J, O) (some (.int r)) (K', n', V1, J, O') ∧ Ev G (d + 5) mX12_ask 0 [(0, .ref 57)] (K', n', V1, J, O') (some (.int r)) (K', n', V2, J, O') ∧ ((∀ b, b < n.1 → K' b = K b) ∧ n.1 ≤ n'.1 ∧ n'.1 ≤ n.1 + 4 ∧ n.2 ≤ n'.2 ∧ n'.2 ≤ n.2 + 58) ∧ fr (frAsk n.1) V V2 ∧ (∀ a k, a ≠ 32 → O' a k = O a k) ∧ (TpC m' tp V2 ∧ TpM m' tp V2) ∧ AkO nA' aa' ofn' K' O' V2 ∧ AskR nA' aa' qq' V2 ∧ (∀ p, nA' ≤ p → p < 10 → ∃ t, t < 4 ∧ V2 68 p = nI t) ∧ (∀ i, i < nA' → aa' i + 4 ≤ n'.1) ∧ (∀ i, i < nA → aa' i = aa i) ∧ (∀ i, nA ≤ i → i < nA' → aa' i = n.1) := by
  obtain ⟨⟨a1, a2, a3⟩, a4, a5⟩ := hA
  by_cases h10 : ¬ nA < 10
  · have e10 : nA = 10 := by omega
    subst e10
    refine ⟨-3, K, n, V, V, O, 10, aa, ofn, qq, m, Ev.mk fun Q hq => vX11_ask_0 (fi_cz (k0 hK) (by decide) rfl ⟨fun z => ?_, fun _ => ⟨rfl, hq⟩⟩), wX12_ask_0 hK (nf (by rw [a3]; rfl) ⟨rfl, rfl⟩), ⟨fun b hb => rfl, Nat.le_refl _, by omega, Nat.le_refl _, by omega⟩, fr_rfl, fun _ _ _ => rfl, ⟨hT1, hT2⟩, ⟨⟨a1, a2, a3⟩, a4, a5⟩, hR, h68, hroom, fun _ _ => rfl, fun i h1 h2 => absurd h1 (by omega)⟩
    exfalso
    rw [a2] at z
    exact absurd z (by decide)
  rw [Classical.not_not] at h10
  have hK' : StK (kAk K n.1) := kAk_St hK h96
  have hk : ∀ b, b < n.1 → kAk K n.1 b = K b := fun b hb => kAk_o hb
  have hak : ∀ i, i < nA → aa i + 4 ≤ n.1 ∧ 96 ≤ aa i := fun i hi => ⟨hroom i hi, (a5 i hi).1.1⟩
  have f0 : fr (fun x _ => n.1 ≤ x) V (vAk V n.1) := fun x k hx => if_neg (by omega)
  have T0 : TpC m tp (vAk V n.1) := TpC_a hT1 (Nat.le_refl 96) (fr_mo f0 (fun x k q => by omega))
  have htp : ∀ j, j < m → tp j < 256 := fun j hj => (hT1.2.2 j hj).2
  have z4 : vAk V n.1 n.1 4 = 0 := by
    unfold vAk
    rw [if_pos (by omega), if_neg (by omega)]
  have z6 : vAk V n.1 n.1 6 = 0 := by
    unfold vAk
    rw [if_pos (by omega), if_neg (by omega)]
  have z0 : vAk V n.1 n.1 0 = 1 := by
    unfold vAk
    rw [if_pos (by omega), if_pos ⟨rfl, rfl⟩]
  rcases read_sep (G := G) (d := d) (K := kAk K n.1) (n := (n.1 + 4, n.2 + 58)) (J := J) (a := n.1) (p := nA) (m := m) (tp := tp) hK' kAk_is h96 hT1.1 htp h10 with ⟨f, hf, jC, jM⟩ | ⟨mm, g', w, qc, hok, jC, jM⟩
  · -- a fault
    obtain ⟨Vr, y1, y2⟩ := jC (vAk V n.1) O T0 z4
    have F1 : fr (fun x k => n.1 ≤ x ∨ (x = 0 ∧ k = 3)) V (up2 Vr 0 3 0) := fr_mo (fr_tr (fr_tr f0 y2) (fr_up (P := fun x k => x = 0 ∧ k = 3) fr_rfl ⟨rfl, rfl⟩)) (fun x k q => by unfold frA0 at q; omega)
    have hc := (c11_askEv hK h96 a2 h10 hT1.2.1 y1 (by rw [y2 _ _ (by unfold frA0; omega), f0 _ _ (by omega)]; exact a2)).2 (nI_n1 (by have := hT1.1; omega))
    obtain ⟨Vm, x1, x2, x3, x4⟩ := jM (up2 Vr 0 3 0) O ⟨hT2.1, by rw [F1 _ _ (by omega)]; exact hT2.2.1, fun j hj => by rw [F1 _ _ (by omega)]; exact hT2.2.2 j hj⟩
    have F2 : fr (fun x k => frA1 nA x k ∨ (x = 57 ∧ k = 6)) (up2 Vr 0 3 0) (up2 Vm 57 6 0) := fr_tr x3 (fr_up fr_rfl ⟨rfl, rfl⟩)
    have F : fr (fun x k => n.1 ≤ x ∨ (x = 0 ∧ k = 3) ∨ frA1 nA x k ∨ (x = 57 ∧ k = 6)) V (up2 Vm 57 6 0) := fr_mo (fr_tr F1 F2) (fun x k q => by
      rcases q with (q | q) | q | q
      · exact Or.inl q
      · exact Or.inr (Or.inl q)
      · exact Or.inr (Or.inr (Or.inl q))
      · exact Or.inr (Or.inr (Or.inr q)))
    refine ⟨-100 - nI f, kAk K n.1, (n.1 + 4, n.2 + 58), up2 Vr 0 3 0, up2 Vm 57 6 0, O, nA, aa, ofn, qq, 0, hc, wX12_ask_0 hK' (nt ?_ ⟨0, Vm, ?_, nf rfl ⟨by rw [x2], rfl⟩⟩), ⟨hk, by show n.1 ≤ n.1 + 4; omega, Nat.le_refl _, by show n.2 ≤ n.2 + 58; omega, Nat.le_refl _⟩, fr_mo F (fun x k q => by unfold frA1 at q; unfold frAsk; omega), fun _ _ _ => rfl, ⟨⟨by omega, ?_, fun j hj => absurd hj (by omega)⟩, ⟨by omega, up2_s, fun j hj => absurd hj (by omega)⟩⟩, ⟨⟨a1, by rw [F _ _ (by unfold frA1; omega)]; exact a2, by rw [F _ _ (by unfold frA1; omega)]; exact a3⟩, a4, fun i hi => ?_⟩, fun i hi => ⟨(hR i hi).1, QC_fr (hR i hi).2.1 (fr_mo F (fun x k q => by have := hak i hi; unfold frA1 at q; omega)), QM_k (p := nA) (hR i hi).2.2 (hR i hi).1.1.1 (by omega) (fr_mo F (fun x k q => ?_))⟩, fun p hp1 hp2 => ?_, fun i hi => by have := hroom i hi; show aa i + 4 ≤ n.1 + 4; omega, fun _ _ => rfl, fun i h1 h2 => absurd h1 (by omega)⟩
    · rw [F1 _ _ (by omega), a3]
      exact nI_nq (b := 10) (by omega) (by omega) (by omega)
    · rw [F1 _ _ (by omega), a3]
      exact x1
    · rw [up2_a (by decide), x3 _ _ (by unfold frA1; omega), up2_s]
      rfl
    · have := hak i hi
      obtain ⟨⟨b1, b2, b3⟩, b4, b5, b6⟩ := a5 i hi
      exact ⟨⟨b1, b2, IsAk_k b3 this.1 hk⟩, by rw [F _ _ (by unfold frA1; omega)]; exact b4, by rw [F _ _ (by unfold frA1; omega)]; exact b5, b6⟩
    · rcases q with q | q | q | q
      · exact Or.inr (by omega)
      · exact Or.inr (by omega)
      · exact Or.inl q
      · exact Or.inr (by omega)
    · by_cases ep : p = nA
      · rw [ep, up2_a (by decide)]
        rcases x4 with x4 | x4
        · rw [x4, F1 _ _ (by omega)]
          exact h68 nA (Nat.le_refl _) h10
        · exact x4
      · rw [F _ _ (by unfold frA1; omega)]
        exact h68 p hp1 hp2
  · -- an ask
    obtain ⟨t0, ht0, e68⟩ := h68 nA (Nat.le_refl _) h10
    obtain ⟨Vr, y1, ⟨y2, y3, y4⟩, y5⟩ := jC (vAk V n.1) O T0 z4 z6
    have Fr : fr (fun x _ => n.1 ≤ x) V Vr := fr_mo (fr_tr f0 y5) (fun x k q => by unfold frA0 at q; omega)
    have F1 : fr (fun x k => n.1 ≤ x ∨ (x = 0 ∧ (k = 3 ∨ k = 5))) V (up2 (up2 Vr 0 3 0) 0 5 (nI (nA + 1))) := fr_mo (fr_tr Fr (fr_up (P := fun x k => x = 0 ∧ (k = 3 ∨ k = 5)) (fr_up fr_rfl ⟨rfl, Or.inl rfl⟩) ⟨rfl, Or.inr rfl⟩)) (fun x k q => by omega)
    have hc := (c11_askEv hK h96 a2 h10 hT1.2.1 y1 (by rw [Fr _ _ (by omega)]; exact a2)).1 rfl
    obtain ⟨Vm, x1, ⟨x2, x3, x4⟩, x5⟩ := jM (up2 (up2 Vr 0 3 0) 0 5 (nI (nA + 1))) (up2 O 32 nA (some n.1)) ⟨hT2.1, by rw [F1 _ _ (by omega)]; exact hT2.2.1, fun j hj => by rw [F1 _ _ (by omega)]; exact hT2.2.2 j hj⟩
    have e14 : Vm 57 14 = nI nA := by rw [x5 _ _ (by unfold frA1; omega), F1 _ _ (by omega)]; exact a3
    have F3 : fr (fun x k => (x = 57 ∧ (k = 6 ∨ k = 14)) ∨ (x = 69 ∧ k = nA)) Vm (up2 (up2 (up2 Vm 57 6 0) 69 nA 1) 57 14 (nI (nA + 1))) := fr_up (fr_up (fr_up fr_rfl (Or.inl ⟨rfl, Or.inl rfl⟩)) (Or.inr ⟨rfl, rfl⟩)) (Or.inl ⟨rfl, Or.inr rfl⟩)
    generalize hV2 : up2 (up2 (up2 Vm 57 6 0) 69 nA 1) 57 14 (nI (nA + 1)) = V2 at F3
    have F : fr (fun x k => n.1 ≤ x ∨ (x = 0 ∧ (k = 3 ∨ k = 5)) ∨ frA1 nA x k ∨ (x = 57 ∧ (k = 6 ∨ k = 14)) ∨ (x = 69 ∧ k = nA)) V V2 := fr_mo (fr_tr (fr_tr F1 x5) F3) (fun x k q => by
      rcases q with ((q | q) | q) | q | q
      · exact Or.inl q
      · exact Or.inr (Or.inl q)
      · exact Or.inr (Or.inr (Or.inl q))
      · exact Or.inr (Or.inr (Or.inr (Or.inl q)))
      · exact Or.inr (Or.inr (Or.inr (Or.inr q))))
    have FN : ∀ x k, n.1 ≤ x → V2 x k = Vr x k := fun x k hx => by
      rw [F3 _ _ (by omega), x5 _ _ (by unfold frA1; omega), up2_a (by omega), up2_a (by omega)]
    refine ⟨nI nA, kAk K n.1, (n.1 + 4, n.2 + 58), up2 (up2 Vr 0 3 0) 0 5 (nI (nA + 1)), V2, up2 O 32 nA (some n.1), nA + 1, fun i => if i = nA then n.1 else aa i, fun i => if i = nA then 1 else ofn i, fun i => if i = nA then ((mm, g'), w, qc, if w = 110 then t0 else qc) else qq i, 0, hc, wX12_ask_0 hK' (nt ?_ ⟨1, Vm, ?_, nt one0 ⟨?_, ?_, ?_⟩⟩), ⟨hk, by show n.1 ≤ n.1 + 4; omega, Nat.le_refl _, by show n.2 ≤ n.2 + 58; omega, Nat.le_refl _⟩, fr_mo F (fun x k q => by unfold frA1 at q; unfold frAsk; omega), fun a k ha => up2_a ha, ⟨⟨by omega, ?_, fun j hj => absurd hj (by omega)⟩, ⟨by omega, ?_, fun j hj => absurd hj (by omega)⟩⟩, ⟨⟨by omega, ?_, ?_⟩, ?_, fun i hi => ?_⟩, fun i hi => ?_, fun p hp1 hp2 => ?_, fun i hi => ?_, fun i hi => if_neg (by omega), fun i h1 h2 => if_pos (by omega)⟩
    · rw [F1 _ _ (by omega), a3]
      exact nI_nq (b := 10) (by omega) (by omega) (by omega)
    · rw [F1 _ _ (by omega), a3]
      exact x1
    · rw [e14]
      exact nI_v h10 (by omega)
    · rw [e14, Int32.add_sub_cancel]
    · rw [e14, nI_c (by omega), nI_1]
      exact hV2.symm
    · rw [F3 _ _ (by omega), x5 _ _ (by unfold frA1; omega), up2_k (by decide), up2_s]
      rfl
    · rw [← hV2, up2_k (by decide), up2_a (by decide), up2_s]
      rfl
    · rw [F3 _ _ (by omega), x5 _ _ (by unfold frA1; omega), up2_s]
    · rw [← hV2, up2_s]
    · intro i j hij hj
      show (if i = nA then n.1 else aa i) + 4 ≤ (if j = nA then n.1 else aa j)
      rw [if_neg (by omega)]
      by_cases ej : j = nA
      · rw [if_pos ej]
        exact hroom i (by omega)
      · rw [if_neg ej]
        exact a4 i j hij (by omega)
    · show (96 ≤ (if i = nA then n.1 else aa i) ∧ up2 O 32 nA (some n.1) 32 i = some (if i = nA then n.1 else aa i) ∧ IsAk (kAk K n.1) (if i = nA then n.1 else aa i)) ∧ V2 (if i = nA then n.1 else aa i) 0 = nI (if i = nA then 1 else ofn i) ∧ V2 69 i = nI (if i = nA then 1 else ofn i) ∧ (if i = nA then 1 else ofn i) ≤ 99
      by_cases ei : i = nA
      · rw [if_pos ei, if_pos ei, ei]
        refine ⟨⟨h96, up2_s, kAk_is⟩, ?_, ?_, by decide⟩
        · rw [FN _ _ (Nat.le_refl _), y5 _ _ (by unfold frA0; omega), z0]
          rfl
        · rw [← hV2, up2_a (by decide), up2_s]
          rfl
      · rw [if_neg ei, if_neg ei]
        have hin : i < nA := by omega
        have := hak i hin
        obtain ⟨⟨b1, b2, b3⟩, b4, b5, b6⟩ := a5 i hin
        exact ⟨⟨b1, by rw [up2_k ei]; exact b2, IsAk_k b3 this.1 hk⟩, by rw [F _ _ (by unfold frA1; omega)]; exact b4, by rw [F _ _ (by unfold frA1; omega)]; exact b5, b6⟩
    · show Qok (if i = nA then _ else qq i) ∧ QC (if i = nA then n.1 else aa i) (if i = nA then _ else qq i) V2 ∧ QM i (if i = nA then _ else qq i) V2
      by_cases ei : i = nA
      · rw [if_pos ei, if_pos ei, ei]
        refine ⟨⟨⟨hok.1, hok.2.1⟩, hok.2.2.1, hok.2.2.2, ?_, fun z => (if_neg z).symm⟩, ⟨?_, ?_, ?_, fun j hj => ?_⟩, ⟨?_, ?_, ?_, fun j hj => ?_⟩⟩
        · show (if w = 110 then t0 else qc) < 4
          split
          · exact ht0
          · exact hok.2.2.2
        · rw [FN _ _ (Nat.le_refl _)]
          exact y2.1
        · rw [FN _ _ (Nat.le_refl _)]
          exact y3
        · rw [FN _ _ (Nat.le_refl _)]
          exact y4
        · rw [FN _ _ (by omega), FN _ _ (by omega), FN _ _ (by omega)]
          exact y2.2 j hj
        · rw [F3 _ _ (by omega)]
          exact x2.1
        · rw [F3 _ _ (by omega)]
          exact x3
        · rw [F3 _ _ (by omega)]
          show Vm 68 nA = nI (if w = 110 then t0 else qc)
          by_cases ew : w = 110
          · rw [if_pos ew] at x4 ⊢
            rw [x4, F1 _ _ (by omega)]
            exact e68
          · rw [if_neg ew] at x4 ⊢
            exact x4
        · rw [F3 _ _ (by omega), F3 _ _ (by omega), F3 _ _ (by omega)]
          exact x2.2 j hj
      · rw [if_neg ei, if_neg ei]
        have hin : i < nA := by omega
        refine ⟨(hR i hin).1, QC_fr (hR i hin).2.1 (fr_mo F (fun x k q => by have := hak i hin; unfold frA1 at q; omega)), QM_k (p := nA) (hR i hin).2.2 (hR i hin).1.1.1 ei (fr_mo F (fun x k q => ?_))⟩
        rcases q with q | q | q | q | q
        · exact Or.inr (by omega)
        · exact Or.inr (by omega)
        · exact Or.inl q
        · exact Or.inr (by omega)
        · exact Or.inr (by omega)
    · rw [F _ _ (by unfold frA1; omega)]
      exact h68 p (by omega) hp2
    · show (if i = nA then n.1 else aa i) + 4 ≤ n.1 + 4
      split
      · omega
      · have := hroom i (by omega)
        omega
end
