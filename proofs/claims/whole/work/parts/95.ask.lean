/-! ===== ask, the class ===== -/
section
variable {G : Gp} {d : Nat} {K : SK} {n : Nat × Nat} {V V' V1 : SV} {J : SJV} {O : SO} {r : Option Value} {a b ci k m nA : Nat} {S : List Nat} {fs : List Value}
theorem srA_cz {P : AH → Prop} {i : Int32} (hk : K 32 = some (arA 10)) (ho : K b = some (.inr (0, fs))) (hi : vp_in i 10) (h : P (cz (K, n, V, J, up2 O 32 i.toNatClampNeg (some b)))) : SR (cz (K, n, V, J, O)) 32 i b P := by
  refine ⟨5, 10, O 32, 0, _, ?_, cz_obj ho, Or.inl ⟨rfl, rfl⟩, hi, ?_⟩
  · rw [cz_arr hk]
    rfl
  · rw [up2_upA] at h
    have e := cz_setO (n := n) (V := V) (J := J) (O := O) (f := va_up (O 32) i.toNatClampNeg (some b)) hk (by omega)
    rw [e]
    exact h
theorem frO_cz {P : Nat → Prop} (hk : K a = some (.inr (ci, fs))) (hs : ci ∈ S) (hv : fs[k]? = some .null) (ho : O a k = some b) (h : P b) : FR S (cz (K, n, V, J, O)) a k P := ⟨ci, _, b, cz_obj hk, hs, by rw [cfill_nul hv, ho]; rfl, h⟩
theorem fsO_cz {P : AH → Prop} (hk : K a = some (.inr (ci, fs))) (hs : ci ∈ S) (hv : fs[k]? = some .null) (h : P (cz (K, n, V, J, up2 O a k (some b)))) : FS S (cz (K, n, V, J, O)) a k (.ref b) P := ⟨ci, _, cz_obj hk, hs, cfill_len hv, by
  have e := cz_putO (n := n) (V := V) (J := J) (O := O) (o := some b) hk hv
  change hset _ _ (.inr (ci, (cfill (V a) (O a) fs).set k (.ref b))) = _ at e
  rw [e]
  exact h⟩
theorem c11_askEv (hK : StK K) (h96 : 96 ≤ n.1) (h5 : V 0 5 = nI nA) (hnA : nA < 10) (h3 : V 0 3 = nI m) (hB : O 0 17 = some b) (hIs : IsAk K b) {f : Int32} (hrd : Ev G d mX0_readFrom 0 [(0, .ref b), (1, .ref 31), (2, .int (nI m))] (K, n, V, J, O) (some (.int f)) (K, n, V1, J, O)) (h15 : V1 0 5 = nI nA) : (f = -1 → Ev G (d + 1) mX11_ask 0 [(0, .ref 0)] (K, n, V, J, O) (some (.int (nI nA))) (kAk K n.1, (n.1 + 4, n.2 + 58), up2 (vAk (up2 V1 0 3 0) n.1) 0 5 (nI (nA + 1)), J, up2 (up2 O 32 nA (some b)) 0 17 (some n.1))) ∧ (f ≠ -1 → Ev G (d + 1) mX11_ask 0 [(0, .ref 0)] (K, n, V, J, O) (some (.int (-100 - f))) (K, n, up2 V1 0 3 0, J, O)) := by
  have hK' : StK (kAk K n.1) := kAk_St hK h96
  have h10 : V 0 5 < 10 := by
    rw [h5]
    show nI nA < nI 10
    rw [nI_l' (by omega) (by omega)]
    exact hnA
  have e5 : up2 V1 0 3 0 0 5 = nI nA := by
    rw [up2_k (by decide)]
    exact h15
  have e5' : vAk (up2 V1 0 3 0) n.1 0 5 = nI nA := by
    unfold vAk
    rw [if_neg (by omega)]
    exact e5
  refine ⟨fun hf => Ev.mk fun Q hq => ?_, fun hf => Ev.mk fun Q hq => ?_⟩
  · refine vX11_ask_0 (fi_cz (k0 hK) (by decide) rfl ⟨fun _ => ?_, fun q => absurd h10 q⟩)
    refine frO_cz (b := b) (k0 hK) (by decide) rfl hB (frf_cz (b := 31) (k0 hK) (by decide) rfl (fi_cz (k0 hK) (by decide) rfl ?_))
    rw [h3]
    refine ⟨_, cz_obj (ak_0 hIs), n, ⟨⟨Nat.le_refl _, Nat.le_refl _⟩, by show n.1 ≤ n.1 + 4; omega, by show n.2 ≤ n.2 + 58; omega⟩, hrd _ (fun _ => ⟨f, rfl, fsi_cz (k0 hK) (by decide) rfl ⟨fun _ => ?_, fun q => absurd hf q⟩⟩)⟩
    refine frf_cz (b := 32) (k0 hK) (by decide) rfl (fi_cz (k0 hK) (by decide) rfl ?_)
    rw [e5]
    refine frO_cz (b := b) (k0 hK) (by decide) rfl hB (srA_cz (k32 hK) (ak_0 hIs) (nI_v hnA (by omega)) ?_)
    rw [nI_c (by omega)]
    refine ⟨by show n.1 + 1 ≤ n.1 + 4; omega, by show n.2 + 13 ≤ n.2 + 58; omega, (n.1 + 4, n.2 + 58), ⟨⟨by show n.1 + 1 ≤ n.1 + 4; omega, by show n.2 + 13 ≤ n.2 + 58; omega⟩, Nat.le_refl _, Nat.le_refl _⟩, mk_ask (fun _ => ⟨rfl, ?_⟩)⟩
    refine fsO_cz (k0 hK') (by decide) rfl (fi_cz (k0 hK') (by decide) rfl ?_)
    rw [show vAk (up2 V1 0 3 0) (cz (K, n, up2 V1 0 3 0, J, up2 O 32 nA (some b))).2.1 0 5 = nI nA from e5', nI_1]
    refine fsi_cz (k0 hK') (by decide) rfl (fi_cz (k0 hK') (by decide) rfl ⟨rfl, ?_⟩)
    rw [up2_s, ← nI_1, Int32.add_sub_cancel, nI_1]
    exact hq
  · refine vX11_ask_0 (fi_cz (k0 hK) (by decide) rfl ⟨fun _ => ?_, fun q => absurd h10 q⟩)
    refine frO_cz (b := b) (k0 hK) (by decide) rfl hB (frf_cz (b := 31) (k0 hK) (by decide) rfl (fi_cz (k0 hK) (by decide) rfl ?_))
    rw [h3]
    exact ⟨_, cz_obj (ak_0 hIs), n, ⟨⟨Nat.le_refl _, Nat.le_refl _⟩, Nat.le_refl _, Nat.le_refl _⟩, hrd _ (fun _ => ⟨f, rfl, fsi_cz (k0 hK) (by decide) rfl ⟨fun q => absurd q hf, fun _ => ⟨rfl, hq⟩⟩⟩)⟩
end
