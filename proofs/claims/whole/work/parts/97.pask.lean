/-! ===== ask, of both ===== -/
/-- the ask that the tape is read into -/
def BkO (N B : Nat) (K : SK) (O : SO) (V : SV) : Prop := (O 0 17 = some B ∧ IsAk K B ∧ 96 ≤ B ∧ B + 4 ≤ N) ∧ V B 0 = 1 ∧ ∃ t, t < 4 ∧ V B 6 = nI t
def frAsk (N B : Nat) : Nat → Nat → Prop := fun x k => N ≤ x ∨ (B ≤ x ∧ x < B + 4) ∨ (x = 0 ∧ (k = 3 ∨ k = 5)) ∨ (63 ≤ x ∧ x ≤ 69) ∨ (x = 57 ∧ (k = 6 ∨ k = 14 ∨ k = 26))
section
variable {G : Gp} {d : Nat} {K K' : SK} {n : Nat × Nat} {V V' V1 : SV} {J : SJV} {O : SO} {r : Option Value} {a i p m nA N : Nat} {tp : Nat → Nat} {aa ofn : Nat → Nat} {qq : Nat → QD} {q : QD}
theorem IsAk_k (h : IsAk K a) (ha : a + 4 ≤ N) (hk : ∀ b, b < N → K' b = K b) : IsAk K' a := fun j c e => by
  have h4 : j < 4 := (List.getElem?_eq_some_iff.mp e).1
  rw [hk _ (by omega)]
  exact h j c e
theorem QM_k (h : QM i q V) (hq : qm q ≤ 15) (hi : i ≠ p) (hf : fr (fun x k => frA1 p x k ∨ ¬ (63 ≤ x ∧ x ≤ 68)) V V') : QM i q V' := by
  obtain ⟨h1, h2, h3, h4⟩ := h
  refine ⟨by rw [hf _ _ (by unfold frA1; omega)]; exact h1, by rw [hf _ _ (by unfold frA1; omega)]; exact h2, by rw [hf _ _ (by unfold frA1; omega)]; exact h3, fun j hj => ?_⟩
  rw [hf _ _ (by unfold frA1; omega), hf _ _ (by unfold frA1; omega), hf _ _ (by unfold frA1; omega)]
  exact h4 j hj
theorem p_ask (hK : StK K) (h96 : 96 ≤ n.1) (hT1 : TpC m tp V) (hT2 : TpM m tp V) (hA : AkO nA aa ofn K O V) (hR : AskR nA aa qq V) (h68 : ∀ p, nA ≤ p → p < 10 → ∃ t, t < 4 ∧ V 68 p = nI t) (hB : BkO n.1 (aa nA) K O V) (hroom : ∀ i, i < nA → aa i + 4 ≤ aa nA) : ∃ (r : Int32) (K' : SK) (n' : Nat × Nat) (V1 V2 : SV) (O' : SO) (nA' : Nat) (aa' ofn' : Nat → Nat) (qq' : Nat → QD) (m' : Nat), Ev G (d + 5) mX11_ask 0 [(0, .ref 0)] (K, n, V, J, O) (some (.int r)) (K', n', V1, J, O') ∧ Ev G (d + 5) mX12_ask 0 [(0, .ref 57)] (K', n', V1, J, O') (some (.int r)) (K', n', V2, J, O') ∧ ((∀ b, b < n.1 → K' b = K b) ∧ n.1 ≤ n'.1 ∧ n'.1 ≤ n.1 + 4 ∧ n.2 ≤ n'.2 ∧ n'.2 ≤ n.2 + 58) ∧ fr (frAsk n.1 (aa nA)) V V2 ∧ (∀ a k, a ≠ 32 → ¬ (a = 0 ∧ k = 17) → O' a k = O a k) ∧ (TpC m' tp V2 ∧ TpM m' tp V2) ∧ AkO nA' aa' ofn' K' O' V2 ∧ AskR nA' aa' qq' V2 ∧ (∀ p, nA' ≤ p → p < 10 → ∃ t, t < 4 ∧ V2 68 p = nI t) ∧ BkO n'.1 (aa' nA') K' O' V2 ∧ (∀ i, i < nA' → aa' i + 4 ≤ aa' nA') ∧ (∀ i, i ≤ nA → aa' i = aa i) ∧ (∀ i, nA < i → i ≤ nA' → aa' i = n.1) := by
  obtain ⟨⟨a1, a2, a3⟩, a4, a5⟩ := hA
  by_cases h10 : ¬ nA < 10
  · have e10 : nA = 10 := by omega
    subst e10
    refine ⟨-3, K, n, V, V, O, 10, aa, ofn, qq, m, Ev.mk fun Q hq => vX11_ask_0 (fi_cz (k0 hK) (by decide) rfl ⟨fun z => ?_, fun _ => ⟨rfl, hq⟩⟩), wX12_ask_0 hK (nf (by rw [a3]; rfl) ⟨rfl, rfl⟩), ⟨fun b hb => rfl, Nat.le_refl _, by omega, Nat.le_refl _, by omega⟩, fr_rfl, fun _ _ _ _ => rfl, ⟨hT1, hT2⟩, ⟨⟨a1, a2, a3⟩, a4, a5⟩, hR, h68, hB, hroom, fun _ _ => rfl, fun i h1 h2 => absurd h1 (by omega)⟩
    exfalso
    rw [a2] at z
    exact absurd z (by decide)
  rw [Classical.not_not] at h10
  obtain ⟨⟨b1, b2, b3, b4⟩, b5, t1, ht1, b6⟩ := id hB
  generalize hb : aa nA = B at b1 b2 b3 b4 b5 b6 hroom
  have hK' : StK (kAk K n.1) := kAk_St hK h96
  have hk : ∀ b, b < n.1 → kAk K n.1 b = K b := fun b hb => kAk_o hb
  have hak : ∀ i, i < nA → aa i + 4 ≤ B ∧ 96 ≤ aa i := fun i hi => ⟨hroom i hi, (a5 i hi).1.1⟩
  have htp : ∀ j, j < m → tp j < 256 := fun j hj => (hT1.2.2 j hj).2
  rcases read_sep (G := G) (d := d) (K := K) (n := n) (J := J) (a := B) (p := nA) (m := m) (tp := tp) hK b2 b3 hT1.1 htp h10 with ⟨f, hf, jC, jM⟩ | ⟨mm, g', w, qc, hok, jC, jM⟩
  · -- a fault
    obtain ⟨Vr, y1, y2, y3⟩ := jC V O hT1
    have F1 : fr (fun x k => frA0 B x k ∨ (x = 0 ∧ k = 3)) V (up2 Vr 0 3 0) := fr_tr y2 (fr_up (P := fun x k => x = 0 ∧ k = 3) fr_rfl ⟨rfl, rfl⟩)
    have hc := (c11_askEv hK h96 a2 h10 hT1.2.1 b1 b2 y1 (by rw [y2 _ _ (by unfold frA0; omega)]; exact a2)).2 (nI_n1 (by have := hT1.1; omega))
    obtain ⟨Vm, x1, x2, x3, x4⟩ := jM K n (up2 Vr 0 3 0) O hK ⟨hT2.1, by rw [F1 _ _ (by unfold frA0; omega)]; exact hT2.2.1, fun j hj => by rw [F1 _ _ (by unfold frA0; omega)]; exact hT2.2.2 j hj⟩
    have F2 : fr (fun x k => frA1 nA x k ∨ (x = 57 ∧ k = 6)) (up2 Vr 0 3 0) (up2 Vm 57 6 0) := fr_tr x3 (fr_up fr_rfl ⟨rfl, rfl⟩)
    have F : fr (fun x k => frA0 B x k ∨ (x = 0 ∧ k = 3) ∨ frA1 nA x k ∨ (x = 57 ∧ k = 6)) V (up2 Vm 57 6 0) := fr_mo (fr_tr F1 F2) (fun x k q => by
      rcases q with (q | q) | q | q
      · exact Or.inl q
      · exact Or.inr (Or.inl q)
      · exact Or.inr (Or.inr (Or.inl q))
      · exact Or.inr (Or.inr (Or.inr q)))
    refine ⟨-100 - nI f, K, n, up2 Vr 0 3 0, up2 Vm 57 6 0, O, nA, aa, ofn, qq, 0, hc, wX12_ask_0 hK (nt ?_ ⟨0, Vm, ?_, nf rfl ⟨by rw [x2], rfl⟩⟩), ⟨fun _ _ => rfl, Nat.le_refl _, by omega, Nat.le_refl _, by omega⟩, fr_mo F (fun x k q => by unfold frA0 frA1 at q; unfold frAsk; omega), fun _ _ _ _ => rfl, ⟨⟨by omega, ?_, fun j hj => absurd hj (by omega)⟩, ⟨by omega, up2_s, fun j hj => absurd hj (by omega)⟩⟩, ⟨⟨a1, by rw [F _ _ (by unfold frA0 frA1; omega)]; exact a2, by rw [F _ _ (by unfold frA0 frA1; omega)]; exact a3⟩, a4, fun i hi => ?_⟩, fun i hi => ⟨(hR i hi).1, QC_fr (hR i hi).2.1 (fr_mo F (fun x k q => by have := hak i hi; unfold frA0 frA1 at q; omega)), QM_k (p := nA) (hR i hi).2.2 (hR i hi).1.1.1 (by omega) (fr_mo F (fun x k q => ?_))⟩, fun p hp1 hp2 => ?_, ?_, fun i hi => by rw [hb]; exact hroom i hi, fun _ _ => rfl, fun i h1 h2 => absurd h1 (by omega)⟩
    · rw [F1 _ _ (by unfold frA0; omega), a3]
      exact nI_nq (b := 10) (by omega) (by omega) (by omega)
    · rw [F1 _ _ (by unfold frA0; omega), a3]
      exact x1
    · rw [up2_a (by decide), x3 _ _ (by unfold frA1; omega), up2_s]
      rfl
    · have := hak i hi
      obtain ⟨⟨c1, c2, c3⟩, c4, c5, c6⟩ := a5 i hi
      exact ⟨⟨c1, c2, c3⟩, by rw [F _ _ (by unfold frA0 frA1; omega)]; exact c4, by rw [F _ _ (by unfold frA0 frA1; omega)]; exact c5, c6⟩
    · rcases q with q | q | q | q
      · exact Or.inr (by unfold frA0 at q; omega)
      · exact Or.inr (by omega)
      · exact Or.inl q
      · exact Or.inr (by omega)
    · by_cases ep : p = nA
      · rw [ep, up2_a (by decide)]
        rcases x4 with x4 | x4
        · rw [x4, F1 _ _ (by unfold frA0; omega)]
          exact h68 nA (Nat.le_refl _) h10
        · exact x4
      · rw [F _ _ (by unfold frA0 frA1; omega)]
        exact h68 p hp1 hp2
    · have e : ∀ k, up2 Vm 57 6 0 B k = Vr B k := fun k => by rw [up2_a (by omega), x3 _ _ (by unfold frA1; omega), up2_a (by omega)]
      rw [hb]
      refine ⟨⟨b1, b2, b3, b4⟩, by rw [e, y2 _ _ (by unfold frA0; omega)]; exact b5, ?_⟩
      rw [e]
      rcases y3 with y3 | y3
      · rw [y3]
        exact ⟨t1, ht1, b6⟩
      · exact y3
  · -- an ask
    obtain ⟨t0, ht0, e68⟩ := h68 nA (Nat.le_refl _) h10
    obtain ⟨Vr, y1, ⟨y2, y3, y4⟩, y5⟩ := jC V O hT1
    have hc := (c11_askEv hK h96 a2 h10 hT1.2.1 b1 b2 y1 (by rw [y5 _ _ (by unfold frA0; omega)]; exact a2)).1 rfl
    have F1 : fr (fun x k => n.1 ≤ x ∨ frA0 B x k ∨ (x = 0 ∧ (k = 3 ∨ k = 5))) V (up2 (vAk (up2 Vr 0 3 0) n.1) 0 5 (nI (nA + 1))) := fun x k q => by
      have q1 : ¬ n.1 ≤ x := fun z => q (Or.inl z)
      have q2 : ¬ frA0 B x k := fun z => q (Or.inr (Or.inl z))
      have q3 : ¬ (x = 0 ∧ (k = 3 ∨ k = 5)) := fun z => q (Or.inr (Or.inr z))
      show (if x = 0 ∧ k = 5 then _ else if n.1 ≤ x ∧ x < n.1 + 4 then _ else if x = 0 ∧ k = 3 then _ else Vr x k) = V x k
      rw [if_neg (by omega), if_neg (by omega), if_neg (by omega)]
      exact y5 x k q2
    generalize hVc : up2 (vAk (up2 Vr 0 3 0) n.1) 0 5 (nI (nA + 1)) = Vc at hc F1
    have g5 : Vc 0 5 = nI (nA + 1) := by rw [← hVc, up2_s]
    have g3 : Vc 0 3 = 0 := by
      rw [← hVc, up2_k (by decide)]
      unfold vAk
      rw [if_neg (by omega), up2_s]
    have gB : ∀ x k, 96 ≤ x → x < n.1 → Vc x k = Vr x k := fun x k h1 h2 => by
      rw [← hVc, up2_a (by omega)]
      unfold vAk
      rw [if_neg (by omega), up2_a (by omega)]
    have gN : ∀ k, Vc n.1 k = if k = 0 then 1 else 0 := fun k => by
      rw [← hVc, up2_a (by omega)]
      unfold vAk
      rw [if_pos (by omega)]
      by_cases e : k = 0
      · rw [if_pos ⟨rfl, e⟩, if_pos e]
      · rw [if_neg (fun z => e z.2), if_neg e]
    obtain ⟨Vm, x1, ⟨x2, x3, x4⟩, x5⟩ := jM (kAk K n.1) (n.1 + 4, n.2 + 58) Vc (up2 (up2 O 32 nA (some B)) 0 17 (some n.1)) hK' ⟨hT2.1, by rw [F1 _ _ (by unfold frA0; omega)]; exact hT2.2.1, fun j hj => by rw [F1 _ _ (by unfold frA0; omega)]; exact hT2.2.2 j hj⟩
    have e14 : Vm 57 14 = nI nA := by rw [x5 _ _ (by unfold frA1; omega), F1 _ _ (by unfold frA0; omega)]; exact a3
    have F3 : fr (fun x k => (x = 57 ∧ (k = 6 ∨ k = 14)) ∨ (x = 69 ∧ k = nA)) Vm (up2 (up2 (up2 Vm 57 6 0) 69 nA 1) 57 14 (nI (nA + 1))) := fr_up (fr_up (fr_up fr_rfl (Or.inl ⟨rfl, Or.inl rfl⟩)) (Or.inr ⟨rfl, rfl⟩)) (Or.inl ⟨rfl, Or.inr rfl⟩)
    generalize hV2 : up2 (up2 (up2 Vm 57 6 0) 69 nA 1) 57 14 (nI (nA + 1)) = V2 at F3
    have F : fr (fun x k => n.1 ≤ x ∨ frA0 B x k ∨ (x = 0 ∧ (k = 3 ∨ k = 5)) ∨ frA1 nA x k ∨ (x = 57 ∧ (k = 6 ∨ k = 14)) ∨ (x = 69 ∧ k = nA)) V V2 := fr_mo (fr_tr (fr_tr F1 x5) F3) (fun x k q => by
      rcases q with ((q | q | q) | q) | q | q
      · exact Or.inl q
      · exact Or.inr (Or.inl q)
      · exact Or.inr (Or.inr (Or.inl q))
      · exact Or.inr (Or.inr (Or.inr (Or.inl q)))
      · exact Or.inr (Or.inr (Or.inr (Or.inr (Or.inl q))))
      · exact Or.inr (Or.inr (Or.inr (Or.inr (Or.inr q)))))
    have FN : ∀ x k, 96 ≤ x → V2 x k = Vc x k := fun x k hx => by
      rw [F3 _ _ (by omega), x5 _ _ (by unfold frA1; omega)]
    have FB : ∀ x k, 96 ≤ x → x < n.1 → V2 x k = Vr x k := fun x k h1 h2 => (FN x k h1).trans (gB x k h1 h2)
    have haa : ∀ i, i ≤ nA → (if i = nA + 1 then n.1 else aa i) = aa i := fun i hi => if_neg (by omega)
    refine ⟨nI nA, kAk K n.1, (n.1 + 4, n.2 + 58), Vc, V2, up2 (up2 O 32 nA (some B)) 0 17 (some n.1), nA + 1, fun i => if i = nA + 1 then n.1 else aa i, fun i => if i = nA then 1 else ofn i, fun i => if i = nA then ((mm, g'), w, (if w = 110 then t1 else qc), if w = 110 then t0 else qc) else qq i, 0, hc, wX12_ask_0 hK' (nt ?_ ⟨1, Vm, ?_, nt one0 ⟨?_, ?_, ?_⟩⟩), ⟨hk, by show n.1 ≤ n.1 + 4; omega, Nat.le_refl _, by show n.2 ≤ n.2 + 58; omega, Nat.le_refl _⟩, fr_mo F (fun x k q => by unfold frA0 frA1 at q; unfold frAsk; omega), fun a k ha hz => by rw [show up2 (up2 O 32 nA (some B)) 0 17 (some n.1) a k = up2 O 32 nA (some B) a k from if_neg hz]; exact up2_a ha, ⟨⟨by omega, ?_, fun j hj => absurd hj (by omega)⟩, ⟨by omega, ?_, fun j hj => absurd hj (by omega)⟩⟩, ⟨⟨by omega, ?_, ?_⟩, ?_, fun i hi => ?_⟩, fun i hi => ?_, fun p hp1 hp2 => ?_, ?_, fun i hi => ?_, haa, fun i h1 h2 => if_pos (by omega)⟩
    · rw [F1 _ _ (by unfold frA0; omega), a3]
      exact nI_nq (b := 10) (by omega) (by omega) (by omega)
    · rw [F1 _ _ (by unfold frA0; omega), a3]
      exact x1
    · rw [e14]
      exact nI_v h10 (by omega)
    · rw [e14, Int32.add_sub_cancel]
    · rw [e14, nI_c (by omega), nI_1]
      exact hV2.symm
    · rw [F3 _ _ (by omega), x5 _ _ (by unfold frA1; omega), g3]
      rfl
    · rw [← hV2, up2_k (by decide), up2_a (by decide), up2_s]
      rfl
    · rw [F3 _ _ (by omega), x5 _ _ (by unfold frA1; omega), g5]
    · rw [← hV2, up2_s]
    · intro i j hij hj
      show (if i = nA + 1 then n.1 else aa i) + 4 ≤ (if j = nA + 1 then n.1 else aa j)
      rw [haa i (by omega), haa j (by omega)]
      by_cases ej : j = nA
      · rw [ej, hb]
        exact hroom i (by omega)
      · exact a4 i j hij (by omega)
    · show (96 ≤ (if i = nA + 1 then n.1 else aa i) ∧ up2 (up2 O 32 nA (some B)) 0 17 (some n.1) 32 i = some (if i = nA + 1 then n.1 else aa i) ∧ IsAk (kAk K n.1) (if i = nA + 1 then n.1 else aa i)) ∧ V2 (if i = nA + 1 then n.1 else aa i) 0 = nI (if i = nA then 1 else ofn i) ∧ V2 69 i = nI (if i = nA then 1 else ofn i) ∧ (if i = nA then 1 else ofn i) ≤ 99
      rw [haa i (by omega), up2_a (by decide)]
      by_cases ei : i = nA
      · rw [if_pos ei, ei, hb]
        refine ⟨⟨b3, up2_s, IsAk_k b2 b4 hk⟩, ?_, ?_, by decide⟩
        · rw [FB _ _ b3 (by omega), y5 _ _ (by unfold frA0; omega), b5]
          rfl
        · rw [← hV2, up2_a (by decide), up2_s]
          rfl
      · rw [if_neg ei]
        have hin : i < nA := by omega
        have := hak i hin
        obtain ⟨⟨c1, c2, c3⟩, c4, c5, c6⟩ := a5 i hin
        exact ⟨⟨c1, by rw [up2_k ei]; exact c2, IsAk_k c3 (by omega) hk⟩, by rw [F _ _ (by unfold frA0 frA1; omega)]; exact c4, by rw [F _ _ (by unfold frA0 frA1; omega)]; exact c5, c6⟩
    · show Qok (if i = nA then _ else qq i) ∧ QC (if i = nA + 1 then n.1 else aa i) (if i = nA then _ else qq i) V2 ∧ QM i (if i = nA then _ else qq i) V2
      rw [haa i (by omega)]
      by_cases ei : i = nA
      · rw [if_pos ei, ei, hb]
        refine ⟨⟨⟨hok.1, hok.2.1⟩, hok.2.2.1, ?_, ?_, fun z => (if_neg z).trans (if_neg z).symm⟩, ⟨?_, ?_, ?_, fun j hj => ?_⟩, ⟨?_, ?_, ?_, fun j hj => ?_⟩⟩
        · show (if w = 110 then t1 else qc) < 4
          split
          · exact ht1
          · exact hok.2.2.2
        · show (if w = 110 then t0 else qc) < 4
          split
          · exact ht0
          · exact hok.2.2.2
        · rw [FB _ _ b3 (by omega)]
          exact y2.1
        · rw [FB _ _ b3 (by omega)]
          exact y3
        · rw [FB _ _ b3 (by omega)]
          show Vr B 6 = nI (if w = 110 then t1 else qc)
          by_cases ew : w = 110
          · rw [if_pos ew] at y4 ⊢
            rw [y4]
            exact b6
          · rw [if_neg ew] at y4 ⊢
            exact y4
        · rw [FB _ _ (by omega) (by omega), FB _ _ (by omega) (by omega), FB _ _ (by omega) (by omega)]
          exact y2.2 j hj
        · rw [F3 _ _ (by omega)]
          exact x2.1
        · rw [F3 _ _ (by omega)]
          exact x3
        · rw [F3 _ _ (by omega)]
          show Vm 68 nA = nI (if w = 110 then t0 else qc)
          by_cases ew : w = 110
          · rw [if_pos ew] at x4 ⊢
            rw [x4, F1 _ _ (by unfold frA0; omega)]
            exact e68
          · rw [if_neg ew] at x4 ⊢
            exact x4
        · rw [F3 _ _ (by omega), F3 _ _ (by omega), F3 _ _ (by omega)]
          exact x2.2 j hj
      · rw [if_neg ei]
        have hin : i < nA := by omega
        refine ⟨(hR i hin).1, QC_fr (hR i hin).2.1 (fr_mo F (fun x k q => by have := hak i hin; unfold frA0 frA1 at q; omega)), QM_k (p := nA) (hR i hin).2.2 (hR i hin).1.1.1 ei (fr_mo F (fun x k q => ?_))⟩
        rcases q with q | q | q | q | q | q
        · exact Or.inr (by omega)
        · exact Or.inr (by unfold frA0 at q; omega)
        · exact Or.inr (by omega)
        · exact Or.inl q
        · exact Or.inr (by omega)
        · exact Or.inr (by omega)
    · rw [F _ _ (by unfold frA0 frA1; omega)]
      exact h68 p (by omega) hp2
    · show BkO (n.1 + 4) (if nA + 1 = nA + 1 then n.1 else aa (nA + 1)) (kAk K n.1) (up2 (up2 O 32 nA (some B)) 0 17 (some n.1)) V2
      rw [if_pos rfl]
      refine ⟨⟨up2_s, kAk_is, h96, Nat.le_refl _⟩, ?_, 0, by decide, ?_⟩
      · rw [FN _ _ h96, gN, if_pos rfl]
      · rw [FN _ _ h96, gN, if_neg (by decide)]
        rfl
    · show (if i = nA + 1 then n.1 else aa i) + 4 ≤ (if nA + 1 = nA + 1 then n.1 else aa (nA + 1))
      rw [if_pos rfl, haa i (by omega)]
      by_cases ei : i = nA
      · rw [ei, hb]
        exact b4
      · have := hroom i (by omega)
        omega
end
