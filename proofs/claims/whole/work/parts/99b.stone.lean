/-! ===== stone, the class ===== -/
section
variable {G : Gp} {d : Nat} {K : SK} {n : Nat × Nat} {V V' V1 : SV} {J : SJV} {O : SO} {a b ci s i nS nT nG ky kd sz1 : Nat} {fl : Nat → Nat → Nat} {ins : Nat → Bool} {wt : Nat → Nat} {x1 x2 : Int32} {fs : List Value}
theorem srS_cz {P : AH → Prop} {i : Int32} (hk : K 33 = some (arS 10)) (ho : K b = some (.inr (ci, fs))) (hci : ci ∈ [1, 2, 3, 4, 5, 6, 7, 10]) (hi : vp_in i 10) (h : P (cz (K, n, V, J, up2 O 33 i.toNatClampNeg (some b)))) : SR (cz (K, n, V, J, O)) 33 i b P := by
  refine ⟨6, 10, O 33, ci, _, ?_, cz_obj ho, Or.inr ⟨rfl, hci⟩, hi, ?_⟩
  · rw [cz_arr hk]
    rfl
  · rw [up2_upA] at h
    have e := cz_setO (n := n) (V := V) (J := J) (O := O) (f := va_up (O 33) i.toNatClampNeg (some b)) hk (by omega)
    rw [e]
    exact h
/-- the end of stone: all things seen -/
theorem c11_stoneEnd (hK : StK K) (hIs : IsSt K a (kc kd) ky) (hkd : kd ≤ 7) (hc : cT nT nG fl ins wt V) (h7 : V 0 7 = nI nS) (hnS : nS < 10) {Q : Option Value → AH → Prop} (hq : Q (some (.int (nI nS))) (cz (K, n, up2 V 0 7 (nI (nS + 1)), J, up2 O 33 nS (some a)))) : wp G (d + 1) mX11_stone 45 [(0, .ref 0), (1, .int x1), (2, .int x2), (3, .ref a), (4, .int (nI nT))] [] (cz (K, n, V, J, O)) n Q := by
  refine vX11_stone_45 (frf_cz (b := 1) (k0 hK) (by decide) rfl (fi_cz (k1 hK) (by decide) rfl ⟨fun _ => ?_, fun z => ?_⟩))
  · refine frf_cz (b := 33) (k0 hK) (by decide) rfl (fi_cz (k0 hK) (by decide) rfl ?_)
    rw [h7]
    refine srS_cz (k33 hK) (st_0 hIs) (kc_in hkd) (nI_v hnS (by omega)) (fi_cz (k0 hK) (by decide) rfl ?_)
    rw [h7, nI_c (by omega), nI_1]
    refine fsi_cz (k0 hK) (by decide) rfl (fi_cz (k0 hK) (by decide) rfl ⟨rfl, ?_⟩)
    rw [up2_s, ← nI_1, Int32.add_sub_cancel, nI_1]
    exact hq
  · exfalso
    rw [hc.2.1] at z
    exact z (Int32.le_refl _)
/-- stone, up to the new one -/
theorem c11_stoneGo (hK : StK K) (h96 : 96 ≤ n.1) (hky : ky < 4) (hkd : kd ≤ 7) (h7 : V 0 7 = nI nS) (hnS : nS < 10) {Q : Option Value → AH → Prop} (hsz : sz1 ≤ 300) (hN : Ev G (d + 6) mX11_newStone 0 [(0, .ref 0), (1, .int (nI kd)), (2, .int (nI nS)), (3, .int (nI ky))] (K, n, V, J, O) (some (.ref n.1)) (kSt K n.1 (kc kd) ky, (n.1 + sz kd, n.2 + sz1), vSt V n.1 (kc kd) nS ky, J, O)) (hq : wp G (d + 7) mX11_stone 45 [(0, .ref 0), (1, .int (nI kd)), (2, .int (nI ky)), (3, .ref n.1), (4, .int (nI 0))] [] (cz (kSt K n.1 (kc kd) ky, (n.1 + sz kd, n.2 + sz1), vSt V n.1 (kc kd) nS ky, J, O)) (n.1 + sz kd, n.2 + sz1) Q) : wp G (d + 7) mX11_stone 0 [(0, .ref 0), (1, .int (nI kd)), (2, .int (nI ky))] [] (cz (K, n, V, J, O)) (n.1 + sz kd, n.2 + sz1) Q := by
  have cr : cR (cz (K, n, V, J, O)) n (n.1 + sz kd, n.2 + sz1) := ⟨⟨Nat.le_refl _, Nat.le_refl _⟩, Nat.le_add_right _ _, Nat.le_add_right _ _⟩
  refine vX11_stone_0 ⟨n, cr, x_wi (d := d + 6) (N := 7) hK (by decide) hkd _ (fun _ => ⟨1, rfl, bf one0 ⟨n, cr, ?_⟩⟩)⟩
  refine (ev_b (c11_isField (d := d + 5) hK) ((btw_iff (N := 3) (by decide)).mpr ⟨ky, by omega, rfl⟩)) _ (fun _ => ⟨1, rfl, nt one0 ?_⟩)
  refine fi_cz (k0 hK) (by decide) rfl (bt ?_ (fi_cz (k0 hK) (by decide) rfl ?_))
  · rw [h7]
    show nI nS < nI 10
    rw [nI_l' (by omega) (by omega)]
    exact hnS
  · rw [h7]
    exact ⟨_, cz_obj (k0 hK), (n.1 + sz kd, n.2 + sz1), ⟨⟨Nat.le_add_right _ _, Nat.le_add_right _ _⟩, Nat.le_refl _, Nat.le_refl _⟩, hN _ (fun _ => ⟨n.1, rfl, hq⟩)⟩
/-- stone, refused -/
theorem c11_stoneNo1 (hK : StK K) (h : ¬ ∃ k, k ≤ 7 ∧ x1 = nI k) : Ev G (d + 7) mX11_stone 0 [(0, .ref 0), (1, .int x1), (2, .int x2)] (K, n, V, J, O) (some (.int (-1))) (K, n, V, J, O) := Ev.mk fun Q hq => vX11_stone_0 ⟨n, cR_same (h := cz (K, n, V, J, O)) rfl, x_win (d := d + 6) (N := 7) hK (by decide) h _ (fun _ => ⟨0, rfl, bt rfl ⟨rfl, hq⟩⟩)⟩
theorem c11_stoneNo2 (hK : StK K) (hkd : kd ≤ 7) (h : ¬ ∃ k, k ≤ 3 ∧ x2 = nI k) : Ev G (d + 7) mX11_stone 0 [(0, .ref 0), (1, .int (nI kd)), (2, .int x2)] (K, n, V, J, O) (some (.int (-1))) (K, n, V, J, O) := Ev.mk fun Q hq => vX11_stone_0 ⟨n, cR_same (h := cz (K, n, V, J, O)) rfl, x_wi (d := d + 6) (N := 7) hK (by decide) hkd _ (fun _ => ⟨1, rfl, bf one0 ⟨n, cR_same (h := cz (K, n, V, J, O)) rfl, (ev_n (c11_isField (d := d + 5) hK) (fun z => h ((btw_iff (N := 3) (by decide)).mp z))) _ (fun _ => ⟨0, rfl, nf rfl ⟨rfl, hq⟩⟩)⟩⟩)⟩
theorem c11_stoneNo3 (hK : StK K) (hkd : kd ≤ 7) (hky : ky < 4) (h7 : V 0 7 = 10) : Ev G (d + 7) mX11_stone 0 [(0, .ref 0), (1, .int (nI kd)), (2, .int (nI ky))] (K, n, V, J, O) (some (.int (-3))) (K, n, V, J, O) := Ev.mk fun Q hq => by
  refine vX11_stone_0 ⟨n, cR_same (h := cz (K, n, V, J, O)) rfl, x_wi (d := d + 6) (N := 7) hK (by decide) hkd _ (fun _ => ⟨1, rfl, bf one0 ⟨n, cR_same (h := cz (K, n, V, J, O)) rfl, ?_⟩⟩)⟩
  refine (ev_b (c11_isField (d := d + 5) hK) ((btw_iff (N := 3) (by decide)).mpr ⟨ky, by omega, rfl⟩)) _ (fun _ => ⟨1, rfl, nt one0 ?_⟩)
  refine fi_cz (k0 hK) (by decide) rfl (bf ?_ ⟨rfl, hq⟩)
  rw [h7]
  decide
end
