/-! ===== ask, the class ===== -/
section
variable {G : Gp} {d : Nat} {K : SK} {n : Nat × Nat} {V V' V1 : SV} {J : SJV} {O : SO} {r : Option Value} {a b ci k m nA : Nat} {S : List Nat} {fs : List Value}
theorem srA_cz {P : AH → Prop} {i : Int32} (hk : K 32 = some (arA 10)) (ho : K b = some (.inr (0, fs))) (hi : vp_in i 10) (h : P (cz (K, n, V, J, up2 O 32 i.toNatClampNeg (some b)))) : SR (cz (K, n, V, J, O)) 32 i b P := by
  refine ⟨5, 10, O 32, 0, _, ?_, cz_obj ho, Or.inl ⟨rfl, rfl⟩, hi, ?_⟩
  · rw [cz_arr hk]
    rfl
  · rw [up2_upA] at h
    have e := cz_setO (n := n) (V := V) (J := J) (O := O) (f := va_up (O 32) i.toNatClampNeg (some b)) hk (by omega)
    rw [e]
    exact h
theorem c11_askEv (hK : StK K) (h96 : 96 ≤ n.1) (h5 : V 0 5 = nI nA) (hnA : nA < 10) (h3 : V 0 3 = nI m) {f : Int32} (hrd : Ev G d mX0_readFrom 0 [(0, .ref n.1), (1, .ref 31), (2, .int (nI m))] (kAk K n.1, (n.1 + 4, n.2 + 58), vAk V n.1, J, O) (some (.int f)) (kAk K n.1, (n.1 + 4, n.2 + 58), V1, J, O)) (h15 : V1 0 5 = nI nA) : (f = -1 → Ev G (d + 1) mX11_ask 0 [(0, .ref 0)] (K, n, V, J, O) (some (.int (nI nA))) (kAk K n.1, (n.1 + 4, n.2 + 58), up2 (up2 V1 0 3 0) 0 5 (nI (nA + 1)), J, up2 O 32 nA (some n.1))) ∧ (f ≠ -1 → Ev G (d + 1) mX11_ask 0 [(0, .ref 0)] (K, n, V, J, O) (some (.int (-100 - f))) (kAk K n.1, (n.1 + 4, n.2 + 58), up2 V1 0 3 0, J, O)) := by
  have hK' : StK (kAk K n.1) := kAk_St hK h96
  have e3 : vAk V n.1 0 3 = nI m := by
    unfold vAk
    rw [if_neg (by omega)]
    exact h3
  have go : ∀ (Q : Option Value → AH → Prop), ((f = -1 → FR [11] (cz (kAk K n.1, (n.1 + 4, n.2 + 58), up2 V1 0 3 0, J, O)) 0 4 (fun r10 => FI [11] (cz (kAk K n.1, (n.1 + 4, n.2 + 58), up2 V1 0 3 0, J, O)) 0 5 (fun v11 => SR (cz (kAk K n.1, (n.1 + 4, n.2 + 58), up2 V1 0 3 0, J, O)) r10 v11 n.1 (fun h12 => FI [11] h12 0 5 (fun v13 => FS [11] h12 0 5 (.int (v13 + (1 : Int32))) (fun h14 => FI [11] h14 0 5 (fun v15 => (h14.2 = (n.1 + 4, n.2 + 58) ∧ Q (some (.int (v15 - (1 : Int32)))) h14)))))))) ∧ (¬ f = -1 → ((cz (kAk K n.1, (n.1 + 4, n.2 + 58), up2 V1 0 3 0, J, O)).2 = (n.1 + 4, n.2 + 58) ∧ Q (some (.int ((-100 : Int32) - f))) (cz (kAk K n.1, (n.1 + 4, n.2 + 58), up2 V1 0 3 0, J, O))))) → wp G (d + 1) mX11_ask 0 [(0, .ref 0)] [] (cz (K, n, V, J, O)) (n.1 + 4, n.2 + 58) Q := fun Q hq => by
    refine vX11_ask_0 (fi_cz (k0 hK) (by decide) rfl ⟨fun _ => ?_, fun q => ?_⟩)
    · refine ⟨by show n.1 + 1 ≤ n.1 + 4; omega, by show n.2 + 13 ≤ n.2 + 58; omega, (n.1 + 4, n.2 + 58), ⟨⟨by show n.1 + 1 ≤ n.1 + 4; omega, by show n.2 + 13 ≤ n.2 + 58; omega⟩, Nat.le_refl _, Nat.le_refl _⟩, mk_ask (fun _ => ⟨rfl, ?_⟩)⟩
      refine frf_cz (b := 31) (k0 hK') (by decide) rfl (fi_cz (k0 hK') (by decide) rfl ?_)
      rw [show vAk V (cz (K, n, V, J, O)).2.1 0 3 = nI m from e3]
      exact ⟨_, cz_obj (ak_0 kAk_is), (n.1 + 4, n.2 + 58), ⟨⟨Nat.le_refl _, Nat.le_refl _⟩, Nat.le_refl _, Nat.le_refl _⟩, hrd _ (fun _ => ⟨f, rfl, fsi_cz (k0 hK') (by decide) rfl hq⟩)⟩
    · exfalso
      apply q
      rw [h5]
      show nI nA < nI 10
      rw [nI_l' (by omega) (by omega)]
      exact hnA
  refine ⟨fun hf => Ev.mk fun Q hq => go Q ⟨fun _ => ?_, fun q => absurd hf q⟩, fun hf => Ev.mk fun Q hq => go Q ⟨fun q => absurd q hf, fun _ => ⟨rfl, hq⟩⟩⟩
  refine frf_cz (b := 32) (k0 hK') (by decide) rfl (fi_cz (k0 hK') (by decide) rfl ?_)
  have e5 : up2 V1 0 3 0 0 5 = nI nA := by
    rw [up2_k (by decide)]
    exact h15
  rw [e5]
  refine srA_cz (k32 hK') (ak_0 kAk_is) (nI_v hnA (by omega)) (fi_cz (k0 hK') (by decide) rfl ?_)
  rw [e5, nI_c (by omega), nI_1]
  refine fsi_cz (k0 hK') (by decide) rfl (fi_cz (k0 hK') (by decide) rfl ⟨rfl, ?_⟩)
  rw [up2_s, ← nI_1, Int32.add_sub_cancel, nI_1]
  exact hq
end
