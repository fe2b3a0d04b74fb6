/-! ===== newStone ===== -/
def kSt (K : SK) (a ci ky : Nat) : SK := fun b => if b = a then some (.inr (ci, stF ci a ky)) else if a < b ∧ b < a + 1 + (stA ci).length then (stA ci)[b - (a + 1)]? else K b
def vSt (V : SV) (a ci i ky : Nat) : SV := fun b k => if a ≤ b ∧ b < a + 1 + (stA ci).length then (if b = a then (if k = 1 then nI i else if k = 2 then nI ky else if k = 12 ∧ ci = 10 then -1 else 0) else 0) else V b k
section
variable {G : Gp} {d : Nat} {K : SK} {n : Nat × Nat} {V V' : SV} {J : SJV} {O : SO} {r : Option Value} {a b ci k s N i ky kd : Nat} {S : List Nat} {fs rest : List Value} {cs : List AC} {h0 : Nat → Option AC} {c : AC}
theorem kSt_is (hky : ky < 4) : IsSt (kSt K a ci ky) a ci ky := ⟨hky, if_pos rfl, fun j c h => by
  have hj : j < (stA ci).length := (List.getElem?_eq_some_iff.mp h).1
  unfold kSt
  rw [if_neg (by omega), if_pos (by omega), show a + 1 + j - (a + 1) = j by omega]
  exact h⟩
theorem kSt_o (h : b < a) : kSt K a ci ky b = K b := by
  unfold kSt
  rw [if_neg (by omega), if_neg (by omega)]
theorem kSt_St (hK : StK K) (h : 96 ≤ a) : StK (kSt K a ci ky) := fun j c e => by
  have h96 : j < 96 := (List.getElem?_eq_some_iff.mp e).1
  rw [kSt_o (by omega)]
  exact hK j c e
theorem mkH_cz (hc : ∀ c, c ∈ stA ci → ∃ N, c = arI N) (hf : fs = cfill (vSt V a ci i ky a) (O a) (stF ci a ky)) : mkH (cz (K, n, V, J, O)).1 a ci fs (stA ci) s = cz (kSt K a ci ky, (a + 1 + (stA ci).length, s), vSt V a ci i ky, J, O) := by
  refine Prod.ext (funext fun b => ?_) rfl
  show (if b = a then (some (.inr (ci, fs)) : Option AC) else if a < b ∧ b < a + 1 + (stA ci).length then (stA ci)[b - (a + 1)]? else (K b).map (ccell (V b) (J b) (O b))) = (kSt K a ci ky b).map (ccell (vSt V a ci i ky b) (J b) (O b))
  unfold kSt
  by_cases e : b = a
  · rw [if_pos e, if_pos e, hf, e]
    rfl
  · rw [if_neg e, if_neg e]
    by_cases e2 : a < b ∧ b < a + 1 + (stA ci).length
    · rw [if_pos e2, if_pos e2]
      have hl : b - (a + 1) < (stA ci).length := by omega
      obtain ⟨N, eN⟩ := hc _ (List.getElem_mem hl)
      rw [List.getElem?_eq_getElem hl, eN]
      show some (Sum.inl (0, N, Sum.inl (fun _ => 0))) = some (Sum.inl (0, N, Sum.inl (vSt V a ci i ky b)))
      rw [show vSt V a ci i ky b = (fun _ => 0) from funext fun k => by
        unfold vSt
        rw [if_pos (by omega), if_neg e]]
    · rw [if_neg e2, if_neg e2, show vSt V a ci i ky b = V b from funext fun k => by
        unfold vSt
        rw [if_neg (by omega)]]
theorem NW_cz {fin : Nat × Nat} {P : Nat → AH → Prop} (h1 : n.1 + 1 ≤ fin.1) (h2 : n.2 + N ≤ fin.2) (h : P n.1 (mkH (cz (K, n, V, J, O)).1 n.1 ci fs [] (n.2 + N))) : NW (cz (K, n, V, J, O)) (.inr (ci, fs)) N fin P := ⟨h1, h2, by rw [mkH_start]; exact h⟩
theorem fr0_mk {P : Nat → Prop} (hK : StK K) (h96 : 96 ≤ a) (h : P 1) : FR [11] (mkH (cz (K, n, V, J, O)).1 a ci fs cs s) 0 0 P := ⟨11, _, 1, (mkH_o (show 0 < a by omega)).trans (cz_obj (k0 hK)), by decide, cfill_ref (b := 1) rfl, h⟩
theorem c11_newStone (hK : StK K) (h96 : 96 ≤ n.1) (hky : ky < 4) (hkd : kd ≤ 7) : ∃ s, s ≤ 300 ∧ Ev G (d + 4) mX11_newStone 0 [(0, .ref 0), (1, .int (nI kd)), (2, .int (nI i)), (3, .int (nI ky))] (K, n, V, J, O) (some (.ref n.1)) (kSt K n.1 (kc kd) ky, (n.1 + sz kd, n.2 + s), vSt V n.1 (kc kd) i ky, J, O) := by
  have hcA : ∀ ci, ∀ c, c ∈ stA ci → ∃ N, c = arI N := fun ci c hc => by
    unfold stA at hc
    split at hc
    · simp at hc
      exact ⟨_, hc⟩
    · split at hc
      · simp at hc
        rcases hc with hc | hc
        · exact ⟨_, hc⟩
        · exact ⟨_, hc⟩
      · split at hc
        · simp at hc
          rcases hc with hc | hc | hc
          · exact ⟨_, hc⟩
          · exact ⟨_, hc⟩
          · exact ⟨_, hc⟩
        · split at hc
          · simp at hc
            rcases hc with hc | hc
            · exact ⟨_, hc⟩
            · exact ⟨_, hc⟩
          · simp at hc
            rcases hc with hc | hc
            · exact ⟨_, hc⟩
            · exact ⟨_, hc⟩
  have hv0 : ∀ ci k, vSt V n.1 ci i ky n.1 k = (if k = 1 then nI i else if k = 2 then nI ky else if k = 12 ∧ ci = 10 then -1 else 0) := fun ci k => by
    unfold vSt
    rw [if_pos (by omega), if_pos rfl]
  rcases kd_cases hkd with rfl | rfl | rfl | rfl | rfl | rfl | rfl | rfl
  · refine ⟨33, by decide, Ev.mk fun Q hq => vX11_newStone_0 ⟨fun e => absurd e (by decide), fun e => absurd e (by decide), fun e => absurd e (by decide), fun e => absurd e (by decide), fun e => absurd e (by decide), fun e => absurd e (by decide), fun e => absurd e (by decide), fun _ => NW_cz (by show n.1 + 1 ≤ n.1 + 2; omega) (by show n.2 + 9 ≤ n.2 + 33; omega) (fr0_mk hK h96 ⟨(n.1 + 2, n.2 + 9 + 24), ⟨⟨by show n.1 + 1 + 0 ≤ n.1 + 2; omega, by show n.2 + 9 ≤ n.2 + 9 + 24; omega⟩, by show n.1 + 2 ≤ n.1 + 2; omega, by show n.2 + 9 + 24 ≤ n.2 + 33; omega⟩, x5_mk (d := d + 3) hK h96 hky (by decide) (fun _ => ⟨rfl, rfl, ?_⟩)⟩)⟩⟩
    have e := mkH_cz (K := K) (n := n) (V := V) (J := J) (O := O) (a := n.1) (ci := 5) (i := i) (ky := ky) (s := n.2 + 9 + 24) (fs := [.ref 1, .int (nI i), .int (nI ky), .ref (4 + 1 + ky), .ref (n.1 + 1), .int 0, .int 0, .int 0, .int 0]) (hcA 5) (by simp [cfill, cfil, hv0, stX])
    exact Eq.mpr (congrArg (Q (some (.ref n.1))) e) hq
  · refine ⟨115, by decide, Ev.mk fun Q hq => vX11_newStone_0 ⟨fun _ => NW_cz (by show n.1 + 1 ≤ n.1 + 3; omega) (by show n.2 + 11 ≤ n.2 + 115; omega) (fr0_mk hK h96 ⟨(n.1 + 3, n.2 + 11 + 104), ⟨⟨by show n.1 + 1 + 0 ≤ n.1 + 3; omega, by show n.2 + 11 ≤ n.2 + 11 + 104; omega⟩, by show n.1 + 3 ≤ n.1 + 3; omega, by show n.2 + 11 + 104 ≤ n.2 + 115; omega⟩, x3_mk (d := d + 2) hK h96 hky (by decide) (fun _ => ⟨rfl, rfl, ?_⟩)⟩), fun e => absurd e (by decide), fun e => absurd e (by decide), fun e => absurd e (by decide), fun e => absurd e (by decide), fun e => absurd e (by decide), fun e => absurd e (by decide), fun e => absurd rfl e.1⟩⟩
    have e := mkH_cz (K := K) (n := n) (V := V) (J := J) (O := O) (a := n.1) (ci := 3) (i := i) (ky := ky) (s := n.2 + 11 + 104) (fs := [.ref 1, .int (nI i), .int (nI ky), .ref (4 + 1 + ky), .ref (n.1 + 1), .int 0, .int 0, .int 0, .int 0, .ref (n.1 + 2), .int 0]) (hcA 3) (by simp [cfill, cfil, hv0, stX])
    exact Eq.mpr (congrArg (Q (some (.ref n.1))) e) hq
  · refine ⟨115, by decide, Ev.mk fun Q hq => vX11_newStone_0 ⟨fun e => absurd e (by decide), fun _ => NW_cz (by show n.1 + 1 ≤ n.1 + 3; omega) (by show n.2 + 11 ≤ n.2 + 115; omega) (fr0_mk hK h96 ⟨(n.1 + 3, n.2 + 11 + 104), ⟨⟨by show n.1 + 1 + 0 ≤ n.1 + 3; omega, by show n.2 + 11 ≤ n.2 + 11 + 104; omega⟩, by show n.1 + 3 ≤ n.1 + 3; omega, by show n.2 + 11 + 104 ≤ n.2 + 115; omega⟩, x4_mk (d := d + 1) hK h96 hky (by decide) (fun _ => ⟨rfl, rfl, ?_⟩)⟩), fun e => absurd e (by decide), fun e => absurd e (by decide), fun e => absurd e (by decide), fun e => absurd e (by decide), fun e => absurd e (by decide), fun e => absurd rfl e.2.1⟩⟩
    have e := mkH_cz (K := K) (n := n) (V := V) (J := J) (O := O) (a := n.1) (ci := 4) (i := i) (ky := ky) (s := n.2 + 11 + 104) (fs := [.ref 1, .int (nI i), .int (nI ky), .ref (4 + 1 + ky), .ref (n.1 + 1), .int 0, .int 0, .int 0, .int 0, .ref (n.1 + 2), .int 0]) (hcA 4) (by simp [cfill, cfil, hv0, stX])
    exact Eq.mpr (congrArg (Q (some (.ref n.1))) e) hq
  · refine ⟨115, by decide, Ev.mk fun Q hq => vX11_newStone_0 ⟨fun e => absurd e (by decide), fun e => absurd e (by decide), fun _ => NW_cz (by show n.1 + 1 ≤ n.1 + 3; omega) (by show n.2 + 11 ≤ n.2 + 115; omega) (fr0_mk hK h96 ⟨(n.1 + 3, n.2 + 11 + 104), ⟨⟨by show n.1 + 1 + 0 ≤ n.1 + 3; omega, by show n.2 + 11 ≤ n.2 + 11 + 104; omega⟩, by show n.1 + 3 ≤ n.1 + 3; omega, by show n.2 + 11 + 104 ≤ n.2 + 115; omega⟩, x2_mk (d := d + 1) hK h96 hky (by decide) (fun _ => ⟨rfl, rfl, ?_⟩)⟩), fun e => absurd e (by decide), fun e => absurd e (by decide), fun e => absurd e (by decide), fun e => absurd e (by decide), fun e => absurd rfl e.2.2.1⟩⟩
    have e := mkH_cz (K := K) (n := n) (V := V) (J := J) (O := O) (a := n.1) (ci := 2) (i := i) (ky := ky) (s := n.2 + 11 + 104) (fs := [.ref 1, .int (nI i), .int (nI ky), .ref (4 + 1 + ky), .ref (n.1 + 1), .int 0, .int 0, .int 0, .int 0, .ref (n.1 + 2), .int 0]) (hcA 2) (by simp [cfill, cfil, hv0, stX])
    exact Eq.mpr (congrArg (Q (some (.ref n.1))) e) hq
  · refine ⟨115, by decide, Ev.mk fun Q hq => vX11_newStone_0 ⟨fun e => absurd e (by decide), fun e => absurd e (by decide), fun e => absurd e (by decide), fun _ => NW_cz (by show n.1 + 1 ≤ n.1 + 3; omega) (by show n.2 + 11 ≤ n.2 + 115; omega) (fr0_mk hK h96 ⟨(n.1 + 3, n.2 + 11 + 104), ⟨⟨by show n.1 + 1 + 0 ≤ n.1 + 3; omega, by show n.2 + 11 ≤ n.2 + 11 + 104; omega⟩, by show n.1 + 3 ≤ n.1 + 3; omega, by show n.2 + 11 + 104 ≤ n.2 + 115; omega⟩, x7_mk (d := d + 2) (N := 80) (by decide) hK h96 hky (by decide) (fun _ => ⟨rfl, rfl, ?_⟩)⟩), fun e => absurd e (by decide), fun e => absurd e (by decide), fun e => absurd e (by decide), fun e => absurd rfl e.2.2.2.1⟩⟩
    have e := mkH_cz (K := K) (n := n) (V := V) (J := J) (O := O) (a := n.1) (ci := 7) (i := i) (ky := ky) (s := n.2 + 11 + 104) (fs := [.ref 1, .int (nI i), .int (nI ky), .ref (4 + 1 + ky), .ref (n.1 + 1), .int 0, .int 0, .int 0, .int 0, .ref (n.1 + 2), .int 0]) (hcA 7) (by simp [cfill, cfil, hv0, stX])
    exact Eq.mpr (congrArg (Q (some (.ref n.1))) e) hq
  · refine ⟨278, by decide, Ev.mk fun Q hq => vX11_newStone_0 ⟨fun e => absurd e (by decide), fun e => absurd e (by decide), fun e => absurd e (by decide), fun e => absurd e (by decide), fun _ => NW_cz (by show n.1 + 1 ≤ n.1 + 5; omega) (by show n.2 + 14 ≤ n.2 + 278; omega) (fr0_mk hK h96 ⟨(n.1 + 5, n.2 + 14 + 264), ⟨⟨by show n.1 + 1 + 0 ≤ n.1 + 5; omega, by show n.2 + 14 ≤ n.2 + 14 + 264; omega⟩, by show n.1 + 5 ≤ n.1 + 5; omega, by show n.2 + 14 + 264 ≤ n.2 + 278; omega⟩, x10_mk (d := d + 2) hK h96 hky (fun _ => ⟨rfl, rfl, ?_⟩)⟩), fun e => absurd e (by decide), fun e => absurd e (by decide), fun e => absurd rfl e.2.2.2.2.1⟩⟩
    have e := mkH_cz (K := K) (n := n) (V := V) (J := J) (O := O) (a := n.1) (ci := 10) (i := i) (ky := ky) (s := n.2 + 14 + 264) (fs := [.ref 1, .int (nI i), .int (nI ky), .ref (4 + 1 + ky), .ref (n.1 + 1), .int 0, .int 0, .int 0, .int 0, .ref (n.1 + 2), .ref (n.1 + 3), .ref (n.1 + 4), .int (-1), .int 0]) (hcA 10) (by simp [cfill, cfil, hv0, stX])
    exact Eq.mpr (congrArg (Q (some (.ref n.1))) e) hq
  · refine ⟨36, by decide, Ev.mk fun Q hq => vX11_newStone_0 ⟨fun e => absurd e (by decide), fun e => absurd e (by decide), fun e => absurd e (by decide), fun e => absurd e (by decide), fun e => absurd e (by decide), fun _ => NW_cz (by show n.1 + 1 ≤ n.1 + 3; omega) (by show n.2 + 12 ≤ n.2 + 36; omega) (fr0_mk hK h96 ⟨(n.1 + 3, n.2 + 12 + 24), ⟨⟨by show n.1 + 1 + 0 ≤ n.1 + 3; omega, by show n.2 + 12 ≤ n.2 + 12 + 24; omega⟩, by show n.1 + 3 ≤ n.1 + 3; omega, by show n.2 + 12 + 24 ≤ n.2 + 36; omega⟩, x1_mk (d := d + 1) hK h96 hky (fun _ => ⟨rfl, rfl, ?_⟩)⟩), fun e => absurd e (by decide), fun e => absurd rfl e.2.2.2.2.2.1⟩⟩
    have e := mkH_cz (K := K) (n := n) (V := V) (J := J) (O := O) (a := n.1) (ci := 1) (i := i) (ky := ky) (s := n.2 + 12 + 24) (fs := [.ref 1, .int (nI i), .int (nI ky), .ref (4 + 1 + ky), .ref (n.1 + 1), .int 0, .int 0, .int 0, .int 0, .ref (n.1 + 2), .int 0, .int 0]) (hcA 1) (by simp [cfill, cfil, hv0, stX])
    exact Eq.mpr (congrArg (Q (some (.ref n.1))) e) hq
  · refine ⟨197, by decide, Ev.mk fun Q hq => vX11_newStone_0 ⟨fun e => absurd e (by decide), fun e => absurd e (by decide), fun e => absurd e (by decide), fun e => absurd e (by decide), fun e => absurd e (by decide), fun e => absurd e (by decide), fun _ => NW_cz (by show n.1 + 1 ≤ n.1 + 4; omega) (by show n.2 + 12 ≤ n.2 + 197; omega) (fr0_mk hK h96 ⟨(n.1 + 4, n.2 + 12 + 185), ⟨⟨by show n.1 + 1 + 0 ≤ n.1 + 4; omega, by show n.2 + 12 ≤ n.2 + 12 + 185; omega⟩, by show n.1 + 4 ≤ n.1 + 4; omega, by show n.2 + 12 + 185 ≤ n.2 + 197; omega⟩, x6_mk (d := d) hK h96 hky (fun _ => ⟨rfl, rfl, ?_⟩)⟩), fun e => absurd rfl e.2.2.2.2.2.2⟩⟩
    have e := mkH_cz (K := K) (n := n) (V := V) (J := J) (O := O) (a := n.1) (ci := 6) (i := i) (ky := ky) (s := n.2 + 12 + 185) (fs := [.ref 1, .int (nI i), .int (nI ky), .ref (4 + 1 + ky), .ref (n.1 + 1), .int 0, .int 0, .int 0, .int 0, .ref (n.1 + 2), .int 0, .ref (n.1 + 3)]) (hcA 6) (by simp [cfill, cfil, hv0, stX])
    exact Eq.mpr (congrArg (Q (some (.ref n.1))) e) hq
end
