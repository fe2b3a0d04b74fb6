/-! ===== each act of the law keeps what holds ===== -/
section
variable {G : Gp} {K : SK} {n : Nat × Nat} {V : SV} {J : SJV} {O : SO}
theorem a_of (h : INV K n V J O) {x1 x2 : Int32} : ActI G mX11_of mX12_of [(1, .int x1), (2, .int x2)] K n V J O := by
  obtain ⟨⟨hK, h96⟩, nT, nG, fl, ins, wt, nS, ad, kd, ky, x, nA, aa, ofn, qq, hT, hS, hA, hB, hPB, hX, hH, hW, hL, hTp, hD, hC, hY, hR⟩ := id h
  have hP : AP nS nA ad kd aa := fun i j hi hj => hPB i j hi (Nat.lt_succ_of_lt hj)
  obtain ⟨r, e1, e2⟩ := p_of (G := G) (d := 98) (n := n)  hK hT.1 hT.2.1 (x1 := x1) (x2 := x2)
  exact ⟨r, K, n, V, J, O, K, n, V, J, O, e1, e2, hK, nle_rfl, h⟩
theorem a_drifted (h : INV K n V J O) {x1 x2 : Int32} : ActI G mX11_drifted mX12_drifted [(1, .int x1), (2, .int x2)] K n V J O := by
  obtain ⟨⟨hK, h96⟩, nT, nG, fl, ins, wt, nS, ad, kd, ky, x, nA, aa, ofn, qq, hT, hS, hA, hB, hPB, hX, hH, hW, hL, hTp, hD, hC, hY, hR⟩ := id h
  have hP : AP nS nA ad kd aa := fun i j hi hj => hPB i j hi (Nat.lt_succ_of_lt hj)
  obtain ⟨nD, A, B, d1, d2⟩ := id hD
  obtain ⟨r, e1, e2⟩ := p_drifted (G := G) (dd := 98) (n := n)  hK d1 d2 (x1 := x1) (x2 := x2)
  exact ⟨r, K, n, V, J, O, K, n, V, J, O, e1, e2, hK, nle_rfl, h⟩
theorem a_root (h : INV K n V J O) : ActI G mX11_root mX12_root [] K n V J O := by
  obtain ⟨⟨hK, h96⟩, nT, nG, fl, ins, wt, nS, ad, kd, ky, x, nA, aa, ofn, qq, hT, hS, hA, hB, hPB, hX, hH, hW, hL, hTp, hD, hC, hY, hR⟩ := id h
  have hP : AP nS nA ad kd aa := fun i j hi hj => hPB i j hi (Nat.lt_succ_of_lt hj)
  obtain ⟨m, kk, gg, rt, y1, y2⟩ := id hY
  obtain ⟨r, e1, e2⟩ := p_root (G := G) (dd := 100) (n := n)  hK y1 y2 
  exact ⟨r, K, n, V, J, O, K, n, V, J, O, e1, e2, hK, nle_rfl, h⟩
theorem a_count (h : INV K n V J O) {x1 : Int32} : ActI G mX11_count mX12_count [(1, .int x1)] K n V J O := by
  obtain ⟨⟨hK, h96⟩, nT, nG, fl, ins, wt, nS, ad, kd, ky, x, nA, aa, ofn, qq, hT, hS, hA, hB, hPB, hX, hH, hW, hL, hTp, hD, hC, hY, hR⟩ := id h
  have hP : AP nS nA ad kd aa := fun i j hi hj => hPB i j hi (Nat.lt_succ_of_lt hj)
  obtain ⟨m, tp, t1, t2⟩ := id hTp
  obtain ⟨nW, fz, pl, en, tk, qw, wi, w1⟩ := id hW
  obtain ⟨T, hX⟩ := hX
  obtain ⟨r, e1, e2⟩ := p_count (G := G) (d := 99) (n := n)  hK hT.1 hT.2.1 hT.2.2 (hA.1.1.2.1.trans hA.1.1.2.2.symm) (hS.1.1.2.2.1.trans hS.1.1.2.2.2.symm) (t1.2.1.trans t2.2.1.symm) (w1.1.2.1.trans w1.1.2.2.symm) (TX_Tr hS.1 hX) (x1 := x1)
  exact ⟨r, K, n, V, J, O, K, n, V, J, O, e1, e2, hK, nle_rfl, h⟩
theorem a_ofStone (h : INV K n V J O) {x1 x2 : Int32} : ActI G mX11_ofStone mX12_ofStone [(1, .int x1), (2, .int x2)] K n V J O := by
  obtain ⟨⟨hK, h96⟩, nT, nG, fl, ins, wt, nS, ad, kd, ky, x, nA, aa, ofn, qq, hT, hS, hA, hB, hPB, hX, hH, hW, hL, hTp, hD, hC, hY, hR⟩ := id h
  have hP : AP nS nA ad kd aa := fun i j hi hj => hPB i j hi (Nat.lt_succ_of_lt hj)
  obtain ⟨r, e1, e2⟩ := p_ofStone (G := G) (d := 98) (n := n)  hK hS.1 (x1 := x1) (x2 := x2)
  exact ⟨r, K, n, V, J, O, K, n, V, J, O, e1, e2, hK, nle_rfl, h⟩
theorem a_looks (h : INV K n V J O) : ActI G mX11_looks mX12_looks [] K n V J O := by
  obtain ⟨⟨hK, h96⟩, nT, nG, fl, ins, wt, nS, ad, kd, ky, x, nA, aa, ofn, qq, hT, hS, hA, hB, hPB, hX, hH, hW, hL, hTp, hD, hC, hY, hR⟩ := id h
  have hP : AP nS nA ad kd aa := fun i j hi hj => hPB i j hi (Nat.lt_succ_of_lt hj)
  obtain ⟨r, e1, e2⟩ := p_looks (G := G) (d := 99) (n := n)  hK hR 
  exact ⟨r, K, n, V, J, O, K, n, V, J, O, e1, e2, hK, nle_rfl, h⟩
theorem a_putPrice (h : INV K n V J O) {x1 x2 : Int32} : ActI G mX11_putPrice mX12_putPrice [(1, .int x1), (2, .int x2)] K n V J O := by
  obtain ⟨⟨hK, h96⟩, nT, nG, fl, ins, wt, nS, ad, kd, ky, x, nA, aa, ofn, qq, hT, hS, hA, hB, hPB, hX, hH, hW, hL, hTp, hD, hC, hY, hR⟩ := id h
  have hP : AP nS nA ad kd aa := fun i j hi hj => hPB i j hi (Nat.lt_succ_of_lt hj)
  obtain ⟨r, e1, e2⟩ := p_putPrice (G := G) (d := 98) (n := n)  hK hS.1 (x1 := x1) (x2 := x2)
  exact ⟨r, K, n, V, J, O, K, n, V, J, O, e1, e2, hK, nle_rfl, h⟩
theorem a_price (h : INV K n V J O) {x1 x2 x3 : Int32} : ActI G mX11_price mX12_price [(1, .int x1), (2, .int x2), (3, .int x3)] K n V J O := by
  obtain ⟨⟨hK, h96⟩, nT, nG, fl, ins, wt, nS, ad, kd, ky, x, nA, aa, ofn, qq, hT, hS, hA, hB, hPB, hX, hH, hW, hL, hTp, hD, hC, hY, hR⟩ := id h
  have hP : AP nS nA ad kd aa := fun i j hi hj => hPB i j hi (Nat.lt_succ_of_lt hj)
  obtain ⟨r, e1, e2⟩ := p_price (G := G) (d := 95) (n := n)  hK hS.1 hA.1 hA.2.1 (x1 := x1) (x2 := x2) (x3 := x3)
  exact ⟨r, K, n, V, J, O, K, n, V, J, O, e1, e2, hK, nle_rfl, h⟩
theorem a_trace (h : INV K n V J O) {x1 : Int32} : ActI G mX11_trace mX12_trace [(1, .int x1)] K n V J O := by
  obtain ⟨⟨hK, h96⟩, nT, nG, fl, ins, wt, nS, ad, kd, ky, x, nA, aa, ofn, qq, hT, hS, hA, hB, hPB, hX, hH, hW, hL, hTp, hD, hC, hY, hR⟩ := id h
  have hP : AP nS nA ad kd aa := fun i j hi hj => hPB i j hi (Nat.lt_succ_of_lt hj)
  obtain ⟨T, hX⟩ := hX
  obtain ⟨r, e1, e2⟩ := p_trace (G := G) (d := 98) (n := n)  hK hS.1 hX (x1 := x1)
  exact ⟨r, K, n, V, J, O, K, n, V, J, O, e1, e2, hK, nle_rfl, h⟩
theorem a_element (h : INV K n V J O) {x1 x2 : Int32} : ActL G mX11_element mX12_element [(1, .int x1), (2, .int x2)] K n V J O := by
  obtain ⟨⟨hK, h96⟩, nT, nG, fl, ins, wt, nS, ad, kd, ky, x, nA, aa, ofn, qq, hT, hS, hA, hB, hPB, hX, hH, hW, hL, hTp, hD, hC, hY, hR⟩ := id h
  have hP : AP nS nA ad kd aa := fun i j hi hj => hPB i j hi (Nat.lt_succ_of_lt hj)
  obtain ⟨sh, hH⟩ := hH
  obtain ⟨r, e1, e2⟩ := p_element (G := G) (d := 97) (n := n)  hK hS.1 hH (x1 := x1) (x2 := x2)
  exact ⟨r, K, n, V, J, O, K, n, V, J, O, e1, e2, hK, nle_rfl, h⟩
theorem a_taken (h : INV K n V J O) {x1 x2 : Int32} : ActI G mX11_taken mX12_taken [(1, .int x1), (2, .int x2)] K n V J O := by
  obtain ⟨⟨hK, h96⟩, nT, nG, fl, ins, wt, nS, ad, kd, ky, x, nA, aa, ofn, qq, hT, hS, hA, hB, hPB, hX, hH, hW, hL, hTp, hD, hC, hY, hR⟩ := id h
  have hP : AP nS nA ad kd aa := fun i j hi hj => hPB i j hi (Nat.lt_succ_of_lt hj)
  obtain ⟨sh, hH⟩ := hH
  obtain ⟨r, e1, e2⟩ := p_taken (G := G) (d := 97) (n := n)  hK hS.1 hH (x1 := x1) (x2 := x2)
  exact ⟨r, K, n, V, J, O, K, n, V, J, O, e1, e2, hK, nle_rfl, h⟩
theorem a_unlike (h : INV K n V J O) {x1 x2 : Int32} : ActI G mX11_unlike mX12_unlike [(1, .int x1), (2, .int x2)] K n V J O := by
  obtain ⟨⟨hK, h96⟩, nT, nG, fl, ins, wt, nS, ad, kd, ky, x, nA, aa, ofn, qq, hT, hS, hA, hB, hPB, hX, hH, hW, hL, hTp, hD, hC, hY, hR⟩ := id h
  have hP : AP nS nA ad kd aa := fun i j hi hj => hPB i j hi (Nat.lt_succ_of_lt hj)
  obtain ⟨un, mo, l1, l2⟩ := id hL
  obtain ⟨r, V1, V2, un', e1, e2, hf, m1, m2⟩ := p_unlike (G := G) (d := 97) (n := n)  hK hT.1 hT.2.1 l1 l2 (x1 := x1) (x2 := x2)
  exact ⟨r, K, n, V1, J, O, K, n, V2, J, O, e1, e2, hK, nle_rfl, ⟨⟨hK, h96⟩, nT, nG, fl, ins, wt, nS, ad, kd, ky, x, nA, aa, ofn, qq, bT_fr hT (fr_mo hf (fun y k q => by omega)), bS_lo hS (fun _ => rfl) (fr_mo hf (fun y k q => by omega)), bA_lo hA (fun _ => rfl) (fr_mo hf (fun y k q => by omega)), bB_lo hB rfl (fr_mo hf (fun y k q => by omega)), hPB, TX_lo hX (bS_96 hS) rfl (fr_mo hf (fun y k q => by omega)), ShR_fr hH (fun _ => rfl) (fr_mo hf (fun y k q => by omega)), iW_fr hW (fr_mo hf (fun y k q => by omega)), ⟨un', mo, m1, m2⟩, iP_fr hTp (fr_mo hf (fun y k q => by omega)), iD_fr hD (fr_mo hf (fun y k q => by omega)), iC_fr hC (fr_mo hf (fun y k q => by omega)), iY_fr hY (fr_mo hf (fun y k q => by omega)), iR_fr hR (fr_mo hf (fun y k q => by omega))⟩⟩
theorem a_most (h : INV K n V J O) {x1 x2 : Int32} : ActI G mX11_most mX12_most [(1, .int x1), (2, .int x2)] K n V J O := by
  obtain ⟨⟨hK, h96⟩, nT, nG, fl, ins, wt, nS, ad, kd, ky, x, nA, aa, ofn, qq, hT, hS, hA, hB, hPB, hX, hH, hW, hL, hTp, hD, hC, hY, hR⟩ := id h
  have hP : AP nS nA ad kd aa := fun i j hi hj => hPB i j hi (Nat.lt_succ_of_lt hj)
  obtain ⟨un, mo, l1, l2⟩ := id hL
  obtain ⟨r, V1, V2, mo', e1, e2, hf, m1, m2⟩ := p_most (G := G) (d := 97) (n := n)  hK hT.1 hT.2.1 l1 l2 (x1 := x1) (x2 := x2)
  exact ⟨r, K, n, V1, J, O, K, n, V2, J, O, e1, e2, hK, nle_rfl, ⟨⟨hK, h96⟩, nT, nG, fl, ins, wt, nS, ad, kd, ky, x, nA, aa, ofn, qq, bT_fr hT (fr_mo hf (fun y k q => by omega)), bS_lo hS (fun _ => rfl) (fr_mo hf (fun y k q => by omega)), bA_lo hA (fun _ => rfl) (fr_mo hf (fun y k q => by omega)), bB_lo hB rfl (fr_mo hf (fun y k q => by omega)), hPB, TX_lo hX (bS_96 hS) rfl (fr_mo hf (fun y k q => by omega)), ShR_fr hH (fun _ => rfl) (fr_mo hf (fun y k q => by omega)), iW_fr hW (fr_mo hf (fun y k q => by omega)), ⟨un, mo', m1, m2⟩, iP_fr hTp (fr_mo hf (fun y k q => by omega)), iD_fr hD (fr_mo hf (fun y k q => by omega)), iC_fr hC (fr_mo hf (fun y k q => by omega)), iY_fr hY (fr_mo hf (fun y k q => by omega)), iR_fr hR (fr_mo hf (fun y k q => by omega))⟩⟩
theorem a_undrift (h : INV K n V J O) : ActI G mX11_undrift mX12_undrift [] K n V J O := by
  obtain ⟨⟨hK, h96⟩, nT, nG, fl, ins, wt, nS, ad, kd, ky, x, nA, aa, ofn, qq, hT, hS, hA, hB, hPB, hX, hH, hW, hL, hTp, hD, hC, hY, hR⟩ := id h
  have hP : AP nS nA ad kd aa := fun i j hi hj => hPB i j hi (Nat.lt_succ_of_lt hj)
  obtain ⟨nD, A, B, d1, d2⟩ := id hD
  obtain ⟨r, V1, V2, e1, e2, hf, m1, m2⟩ := p_undrift (G := G) (dd := 100) (n := n)  hK d1 d2 
  exact ⟨r, K, n, V1, J, O, K, n, V2, J, O, e1, e2, hK, nle_rfl, ⟨⟨hK, h96⟩, nT, nG, fl, ins, wt, nS, ad, kd, ky, x, nA, aa, ofn, qq, bT_fr hT (fr_mo hf (fun y k q => by omega)), bS_lo hS (fun _ => rfl) (fr_mo hf (fun y k q => by omega)), bA_lo hA (fun _ => rfl) (fr_mo hf (fun y k q => by omega)), bB_lo hB rfl (fr_mo hf (fun y k q => by omega)), hPB, TX_lo hX (bS_96 hS) rfl (fr_mo hf (fun y k q => by omega)), ShR_fr hH (fun _ => rfl) (fr_mo hf (fun y k q => by omega)), iW_fr hW (fr_mo hf (fun y k q => by omega)), iL_fr hL (fr_mo hf (fun y k q => by omega)), iP_fr hTp (fr_mo hf (fun y k q => by omega)), ⟨0, A, B, m1, m2⟩, iC_fr hC (fr_mo hf (fun y k q => by omega)), iY_fr hY (fr_mo hf (fun y k q => by omega)), iR_fr hR (fr_mo hf (fun y k q => by omega))⟩⟩
theorem a_drift (h : INV K n V J O) {x1 x2 : Int32} : ActI G mX11_drift mX12_drift [(1, .int x1), (2, .int x2)] K n V J O := by
  obtain ⟨⟨hK, h96⟩, nT, nG, fl, ins, wt, nS, ad, kd, ky, x, nA, aa, ofn, qq, hT, hS, hA, hB, hPB, hX, hH, hW, hL, hTp, hD, hC, hY, hR⟩ := id h
  have hP : AP nS nA ad kd aa := fun i j hi hj => hPB i j hi (Nat.lt_succ_of_lt hj)
  obtain ⟨nD, A, B, d1, d2⟩ := id hD
  obtain ⟨r, V1, V2, nD', A', B', e1, e2, hf, m1, m2⟩ := p_drift (G := G) (dd := 99) (n := n)  hK d1 d2 (x1 := x1) (x2 := x2)
  exact ⟨r, K, n, V1, J, O, K, n, V2, J, O, e1, e2, hK, nle_rfl, ⟨⟨hK, h96⟩, nT, nG, fl, ins, wt, nS, ad, kd, ky, x, nA, aa, ofn, qq, bT_fr hT (fr_mo hf (fun y k q => by omega)), bS_lo hS (fun _ => rfl) (fr_mo hf (fun y k q => by omega)), bA_lo hA (fun _ => rfl) (fr_mo hf (fun y k q => by omega)), bB_lo hB rfl (fr_mo hf (fun y k q => by omega)), hPB, TX_lo hX (bS_96 hS) rfl (fr_mo hf (fun y k q => by omega)), ShR_fr hH (fun _ => rfl) (fr_mo hf (fun y k q => by omega)), iW_fr hW (fr_mo hf (fun y k q => by omega)), iL_fr hL (fr_mo hf (fun y k q => by omega)), iP_fr hTp (fr_mo hf (fun y k q => by omega)), ⟨nD', A', B', m1, m2⟩, iC_fr hC (fr_mo hf (fun y k q => by omega)), iY_fr hY (fr_mo hf (fun y k q => by omega)), iR_fr hR (fr_mo hf (fun y k q => by omega))⟩⟩
theorem a_next (h : INV K n V J O) {x1 : Int32} : ActI G mX11_next mX12_next [(1, .int x1)] K n V J O := by
  obtain ⟨⟨hK, h96⟩, nT, nG, fl, ins, wt, nS, ad, kd, ky, x, nA, aa, ofn, qq, hT, hS, hA, hB, hPB, hX, hH, hW, hL, hTp, hD, hC, hY, hR⟩ := id h
  have hP : AP nS nA ad kd aa := fun i j hi hj => hPB i j hi (Nat.lt_succ_of_lt hj)
  obtain ⟨nW, fz, pl, en, tk, qw, wi, w1⟩ := id hW
  obtain ⟨r, V1, V2, pl', qw', e1, e2, hf, m1⟩ := p_next (G := G) (d := 99) (n := n)  hK hT.1 hT.2.1 w1 (x1 := x1)
  exact ⟨r, K, n, V1, J, O, K, n, V2, J, O, e1, e2, hK, nle_rfl, ⟨⟨hK, h96⟩, nT, nG, fl, ins, wt, nS, ad, kd, ky, x, nA, aa, ofn, qq, bT_fr hT (fr_mo hf (fun y k q => by omega)), bS_lo hS (fun _ => rfl) (fr_mo hf (fun y k q => by omega)), bA_lo hA (fun _ => rfl) (fr_mo hf (fun y k q => by omega)), bB_lo hB rfl (fr_mo hf (fun y k q => by omega)), hPB, TX_lo hX (bS_96 hS) rfl (fr_mo hf (fun y k q => by omega)), ShR_fr hH (fun _ => rfl) (fr_mo hf (fun y k q => by omega)), ⟨nW, fz, pl', en, tk, qw', wi, m1⟩, iL_fr hL (fr_mo hf (fun y k q => by omega)), iP_fr hTp (fr_mo hf (fun y k q => by omega)), iD_fr hD (fr_mo hf (fun y k q => by omega)), iC_fr hC (fr_mo hf (fun y k q => by omega)), iY_fr hY (fr_mo hf (fun y k q => by omega)), iR_fr hR (fr_mo hf (fun y k q => by omega))⟩⟩
theorem a_walk (h : INV K n V J O) {x1 : Int32} : ActI G mX11_walk mX12_walk [(1, .int x1)] K n V J O := by
  obtain ⟨⟨hK, h96⟩, nT, nG, fl, ins, wt, nS, ad, kd, ky, x, nA, aa, ofn, qq, hT, hS, hA, hB, hPB, hX, hH, hW, hL, hTp, hD, hC, hY, hR⟩ := id h
  have hP : AP nS nA ad kd aa := fun i j hi hj => hPB i j hi (Nat.lt_succ_of_lt hj)
  obtain ⟨nW, fz, pl, en, tk, qw, wi, w1⟩ := id hW
  obtain ⟨r, V1, V2, nW', fz', pl', en', tk', qw', wi', e1, e2, hf, m1⟩ := p_walk (G := G) (d := 99) (n := n)  hK hT.1 hT.2.1 w1 (x1 := x1)
  exact ⟨r, K, n, V1, J, O, K, n, V2, J, O, e1, e2, hK, nle_rfl, ⟨⟨hK, h96⟩, nT, nG, fl, ins, wt, nS, ad, kd, ky, x, nA, aa, ofn, qq, bT_fr hT (fr_mo hf (fun y k q => by omega)), bS_lo hS (fun _ => rfl) (fr_mo hf (fun y k q => by omega)), bA_lo hA (fun _ => rfl) (fr_mo hf (fun y k q => by omega)), bB_lo hB rfl (fr_mo hf (fun y k q => by omega)), hPB, TX_lo hX (bS_96 hS) rfl (fr_mo hf (fun y k q => by omega)), ShR_fr hH (fun _ => rfl) (fr_mo hf (fun y k q => by omega)), ⟨nW', fz', pl', en', tk', qw', wi', m1⟩, iL_fr hL (fr_mo hf (fun y k q => by omega)), iP_fr hTp (fr_mo hf (fun y k q => by omega)), iD_fr hD (fr_mo hf (fun y k q => by omega)), iC_fr hC (fr_mo hf (fun y k q => by omega)), iY_fr hY (fr_mo hf (fun y k q => by omega)), iR_fr hR (fr_mo hf (fun y k q => by omega))⟩⟩
theorem a_leastLooks (h : INV K n V J O) {x1 : Int32} : ActI G mX11_leastLooks mX12_leastLooks [(1, .int x1)] K n V J O := by
  obtain ⟨⟨hK, h96⟩, nT, nG, fl, ins, wt, nS, ad, kd, ky, x, nA, aa, ofn, qq, hT, hS, hA, hB, hPB, hX, hH, hW, hL, hTp, hD, hC, hY, hR⟩ := id h
  have hP : AP nS nA ad kd aa := fun i j hi hj => hPB i j hi (Nat.lt_succ_of_lt hj)
  obtain ⟨m, kk, gg, rt, y1, y2⟩ := id hY
  obtain ⟨r, V1, V2, m', rt', e1, e2, hf, m1, m2⟩ := p_leastLooks (G := G) (dd := 96) (n := n)  hK y1 y2 (x1 := x1)
  exact ⟨r, K, n, V1, J, O, K, n, V2, J, O, e1, e2, hK, nle_rfl, ⟨⟨hK, h96⟩, nT, nG, fl, ins, wt, nS, ad, kd, ky, x, nA, aa, ofn, qq, bT_fr hT (fr_mo hf (fun y k q => by unfold PKc PKm at q; omega)), bS_lo hS (fun _ => rfl) (fr_mo hf (fun y k q => by unfold PKc PKm at q; omega)), bA_lo hA (fun _ => rfl) (fr_mo hf (fun y k q => by unfold PKc PKm at q; omega)), bB_lo hB rfl (fr_mo hf (fun y k q => by unfold PKc PKm at q; omega)), hPB, TX_lo hX (bS_96 hS) rfl (fr_mo hf (fun y k q => by unfold PKc PKm at q; omega)), ShR_fr hH (fun _ => rfl) (fr_mo hf (fun y k q => by unfold PKc PKm at q; omega)), iW_fr hW (fr_mo hf (fun y k q => by unfold PKc PKm at q; omega)), iL_fr hL (fr_mo hf (fun y k q => by unfold PKc PKm at q; omega)), iP_fr hTp (fr_mo hf (fun y k q => by unfold PKc PKm at q; omega)), iD_fr hD (fr_mo hf (fun y k q => by unfold PKc PKm at q; omega)), iC_fr hC (fr_mo hf (fun y k q => by unfold PKc PKm at q; omega)), ⟨m', kk, gg, rt', m1, m2⟩, iR_fr hR (fr_mo hf (fun y k q => by unfold PKc PKm at q; omega))⟩⟩
theorem a_key (h : INV K n V J O) {x1 x2 : Int32} : ActI G mX11_key mX12_key [(1, .int x1), (2, .int x2)] K n V J O := by
  obtain ⟨⟨hK, h96⟩, nT, nG, fl, ins, wt, nS, ad, kd, ky, x, nA, aa, ofn, qq, hT, hS, hA, hB, hPB, hX, hH, hW, hL, hTp, hD, hC, hY, hR⟩ := id h
  have hP : AP nS nA ad kd aa := fun i j hi hj => hPB i j hi (Nat.lt_succ_of_lt hj)
  obtain ⟨m, kk, gg, rt, y1, y2⟩ := id hY
  obtain ⟨r, V1, V2, m', kk', gg', e1, e2, hf, m1, m2⟩ := p_key (G := G) (dd := 98) (n := n)  hK y1 y2 (x1 := x1) (x2 := x2)
  exact ⟨r, K, n, V1, J, O, K, n, V2, J, O, e1, e2, hK, nle_rfl, ⟨⟨hK, h96⟩, nT, nG, fl, ins, wt, nS, ad, kd, ky, x, nA, aa, ofn, qq, bT_fr hT (fr_mo hf (fun y k q => by omega)), bS_lo hS (fun _ => rfl) (fr_mo hf (fun y k q => by omega)), bA_lo hA (fun _ => rfl) (fr_mo hf (fun y k q => by omega)), bB_lo hB rfl (fr_mo hf (fun y k q => by omega)), hPB, TX_lo hX (bS_96 hS) rfl (fr_mo hf (fun y k q => by omega)), ShR_fr hH (fun _ => rfl) (fr_mo hf (fun y k q => by omega)), iW_fr hW (fr_mo hf (fun y k q => by omega)), iL_fr hL (fr_mo hf (fun y k q => by omega)), iP_fr hTp (fr_mo hf (fun y k q => by omega)), iD_fr hD (fr_mo hf (fun y k q => by omega)), iC_fr hC (fr_mo hf (fun y k q => by omega)), ⟨m', kk', gg', rt, m1, m2⟩, iR_fr hR (fr_mo hf (fun y k q => by omega))⟩⟩
theorem a_uncell (h : INV K n V J O) : ActI G mX11_uncell mX12_uncell [] K n V J O := by
  obtain ⟨⟨hK, h96⟩, nT, nG, fl, ins, wt, nS, ad, kd, ky, x, nA, aa, ofn, qq, hT, hS, hA, hB, hPB, hX, hH, hW, hL, hTp, hD, hC, hY, hR⟩ := id h
  have hP : AP nS nA ad kd aa := fun i j hi hj => hPB i j hi (Nat.lt_succ_of_lt hj)
  obtain ⟨nC, cel, c1, c2⟩ := id hC
  obtain ⟨r, V1, V2, e1, e2, hf, m1, m2⟩ := p_uncell (G := G) (dd := 100) (n := n)  hK c1 c2 
  exact ⟨r, K, n, V1, J, O, K, n, V2, J, O, e1, e2, hK, nle_rfl, ⟨⟨hK, h96⟩, nT, nG, fl, ins, wt, nS, ad, kd, ky, x, nA, aa, ofn, qq, bT_fr hT (fr_mo hf (fun y k q => by omega)), bS_lo hS (fun _ => rfl) (fr_mo hf (fun y k q => by omega)), bA_lo hA (fun _ => rfl) (fr_mo hf (fun y k q => by omega)), bB_lo hB rfl (fr_mo hf (fun y k q => by omega)), hPB, TX_lo hX (bS_96 hS) rfl (fr_mo hf (fun y k q => by omega)), ShR_fr hH (fun _ => rfl) (fr_mo hf (fun y k q => by omega)), iW_fr hW (fr_mo hf (fun y k q => by omega)), iL_fr hL (fr_mo hf (fun y k q => by omega)), iP_fr hTp (fr_mo hf (fun y k q => by omega)), iD_fr hD (fr_mo hf (fun y k q => by omega)), ⟨0, cel, m1, m2⟩, iY_fr hY (fr_mo hf (fun y k q => by omega)), iR_fr hR (fr_mo hf (fun y k q => by omega))⟩⟩
theorem a_cell (h : INV K n V J O) {x1 : Int32} : ActI G mX11_cell mX12_cell [(1, .int x1)] K n V J O := by
  obtain ⟨⟨hK, h96⟩, nT, nG, fl, ins, wt, nS, ad, kd, ky, x, nA, aa, ofn, qq, hT, hS, hA, hB, hPB, hX, hH, hW, hL, hTp, hD, hC, hY, hR⟩ := id h
  have hP : AP nS nA ad kd aa := fun i j hi hj => hPB i j hi (Nat.lt_succ_of_lt hj)
  obtain ⟨nC, cel, c1, c2⟩ := id hC
  obtain ⟨r, V1, V2, nC', cel', e1, e2, hf, m1, m2⟩ := p_cell (G := G) (dd := 98) (n := n)  hK c1 c2 (x1 := x1)
  exact ⟨r, K, n, V1, J, O, K, n, V2, J, O, e1, e2, hK, nle_rfl, ⟨⟨hK, h96⟩, nT, nG, fl, ins, wt, nS, ad, kd, ky, x, nA, aa, ofn, qq, bT_fr hT (fr_mo hf (fun y k q => by omega)), bS_lo hS (fun _ => rfl) (fr_mo hf (fun y k q => by omega)), bA_lo hA (fun _ => rfl) (fr_mo hf (fun y k q => by omega)), bB_lo hB rfl (fr_mo hf (fun y k q => by omega)), hPB, TX_lo hX (bS_96 hS) rfl (fr_mo hf (fun y k q => by omega)), ShR_fr hH (fun _ => rfl) (fr_mo hf (fun y k q => by omega)), iW_fr hW (fr_mo hf (fun y k q => by omega)), iL_fr hL (fr_mo hf (fun y k q => by omega)), iP_fr hTp (fr_mo hf (fun y k q => by omega)), iD_fr hD (fr_mo hf (fun y k q => by omega)), ⟨nC', cel', m1, m2⟩, iY_fr hY (fr_mo hf (fun y k q => by omega)), iR_fr hR (fr_mo hf (fun y k q => by omega))⟩⟩
theorem a_misses (h : INV K n V J O) {x1 x2 x3 : Int32} : ActI G mX11_misses mX12_misses [(1, .int x1), (2, .int x2), (3, .int x3)] K n V J O := by
  obtain ⟨⟨hK, h96⟩, nT, nG, fl, ins, wt, nS, ad, kd, ky, x, nA, aa, ofn, qq, hT, hS, hA, hB, hPB, hX, hH, hW, hL, hTp, hD, hC, hY, hR⟩ := id h
  have hP : AP nS nA ad kd aa := fun i j hi hj => hPB i j hi (Nat.lt_succ_of_lt hj)
  obtain ⟨nC, cel, c1, c2⟩ := id hC
  obtain ⟨r, V1, V2, e1, e2, hf⟩ := p_misses (G := G) (dd := 97) (n := n)  hK c1 c2 (x1 := x1) (x2 := x2) (x3 := x3)
  exact ⟨r, K, n, V1, J, O, K, n, V2, J, O, e1, e2, hK, nle_rfl, ⟨⟨hK, h96⟩, nT, nG, fl, ins, wt, nS, ad, kd, ky, x, nA, aa, ofn, qq, bT_fr hT (fr_mo hf (fun y k q => by omega)), bS_lo hS (fun _ => rfl) (fr_mo hf (fun y k q => by omega)), bA_lo hA (fun _ => rfl) (fr_mo hf (fun y k q => by omega)), bB_lo hB rfl (fr_mo hf (fun y k q => by omega)), hPB, TX_lo hX (bS_96 hS) rfl (fr_mo hf (fun y k q => by omega)), ShR_fr hH (fun _ => rfl) (fr_mo hf (fun y k q => by omega)), iW_fr hW (fr_mo hf (fun y k q => by omega)), iL_fr hL (fr_mo hf (fun y k q => by omega)), iP_fr hTp (fr_mo hf (fun y k q => by omega)), iD_fr hD (fr_mo hf (fun y k q => by omega)), iC_fr hC (fr_mo hf (fun y k q => by omega)), iY_fr hY (fr_mo hf (fun y k q => by omega)), iR_fr hR (fr_mo hf (fun y k q => by omega))⟩⟩
theorem a_feed (h : INV K n V J O) {x1 x2 : Int32} : ActI G mX11_feed mX12_feed [(1, .int x1), (2, .int x2)] K n V J O := by
  obtain ⟨⟨hK, h96⟩, nT, nG, fl, ins, wt, nS, ad, kd, ky, x, nA, aa, ofn, qq, hT, hS, hA, hB, hPB, hX, hH, hW, hL, hTp, hD, hC, hY, hR⟩ := id h
  have hP : AP nS nA ad kd aa := fun i j hi hj => hPB i j hi (Nat.lt_succ_of_lt hj)
  obtain ⟨m, tp, t1, t2⟩ := id hTp
  obtain ⟨r, V1, V2, m', tp', e1, e2, hf, m1, m2⟩ := p_feed (G := G) (d := 99) (n := n)  hK t1 t2 (x1 := x1) (x2 := x2)
  exact ⟨r, K, n, V1, J, O, K, n, V2, J, O, e1, e2, hK, nle_rfl, ⟨⟨hK, h96⟩, nT, nG, fl, ins, wt, nS, ad, kd, ky, x, nA, aa, ofn, qq, bT_fr hT (fr_mo hf (fun y k q => by omega)), bS_lo hS (fun _ => rfl) (fr_mo hf (fun y k q => by omega)), bA_lo hA (fun _ => rfl) (fr_mo hf (fun y k q => by omega)), bB_lo hB rfl (fr_mo hf (fun y k q => by omega)), hPB, TX_lo hX (bS_96 hS) rfl (fr_mo hf (fun y k q => by omega)), ShR_fr hH (fun _ => rfl) (fr_mo hf (fun y k q => by omega)), iW_fr hW (fr_mo hf (fun y k q => by omega)), iL_fr hL (fr_mo hf (fun y k q => by omega)), ⟨m', tp', m1, m2⟩, iD_fr hD (fr_mo hf (fun y k q => by omega)), iC_fr hC (fr_mo hf (fun y k q => by omega)), iY_fr hY (fr_mo hf (fun y k q => by omega)), iR_fr hR (fr_mo hf (fun y k q => by omega))⟩⟩
theorem a_plan (h : INV K n V J O) {x1 x2 x3 : Int32} : ActI G mX11_plan mX12_plan [(1, .int x1), (2, .int x2), (3, .int x3)] K n V J O := by
  obtain ⟨⟨hK, h96⟩, nT, nG, fl, ins, wt, nS, ad, kd, ky, x, nA, aa, ofn, qq, hT, hS, hA, hB, hPB, hX, hH, hW, hL, hTp, hD, hC, hY, hR⟩ := id h
  have hP : AP nS nA ad kd aa := fun i j hi hj => hPB i j hi (Nat.lt_succ_of_lt hj)
  obtain ⟨r, V1, e1, e2, hf⟩ := p_plan (G := G) (d := 94) (n := n)  hK hS.1 hA.1 hA.2.1 (x1 := x1) (x2 := x2) (x3 := x3)
  exact ⟨r, K, n, V1, J, O, K, n, V1, J, O, e1, e2, hK, nle_rfl, ⟨⟨hK, h96⟩, nT, nG, fl, ins, wt, nS, ad, kd, ky, x, nA, aa, ofn, qq, bT_fr hT (fr_mo hf (fun y k q => by omega)), bS_lo hS (fun _ => rfl) (fr_mo hf (fun y k q => by omega)), bA_lo hA (fun _ => rfl) (fr_mo hf (fun y k q => by omega)), bB_lo hB rfl (fr_mo hf (fun y k q => by omega)), hPB, TX_lo hX (bS_96 hS) rfl (fr_mo hf (fun y k q => by omega)), ShR_fr hH (fun _ => rfl) (fr_mo hf (fun y k q => by omega)), iW_fr hW (fr_mo hf (fun y k q => by omega)), iL_fr hL (fr_mo hf (fun y k q => by omega)), iP_fr hTp (fr_mo hf (fun y k q => by omega)), iD_fr hD (fr_mo hf (fun y k q => by omega)), iC_fr hC (fr_mo hf (fun y k q => by omega)), iY_fr hY (fr_mo hf (fun y k q => by omega)), iR_fr hR (fr_mo hf (fun y k q => by omega))⟩⟩
theorem a_goesThrough (h : INV K n V J O) {x1 x2 x3 : Int32} : ActI G mX11_goesThrough mX12_goesThrough [(1, .int x1), (2, .int x2), (3, .int x3)] K n V J O := by
  obtain ⟨⟨hK, h96⟩, nT, nG, fl, ins, wt, nS, ad, kd, ky, x, nA, aa, ofn, qq, hT, hS, hA, hB, hPB, hX, hH, hW, hL, hTp, hD, hC, hY, hR⟩ := id h
  have hP : AP nS nA ad kd aa := fun i j hi hj => hPB i j hi (Nat.lt_succ_of_lt hj)
  obtain ⟨r, V1, e1, e2, hf⟩ := p_goes (G := G) (d := 94) (n := n)  hK hS.1 hA.1 hA.2.1 (x1 := x1) (x2 := x2) (x3 := x3)
  exact ⟨r, K, n, V1, J, O, K, n, V1, J, O, e1, e2, hK, nle_rfl, ⟨⟨hK, h96⟩, nT, nG, fl, ins, wt, nS, ad, kd, ky, x, nA, aa, ofn, qq, bT_fr hT (fr_mo hf (fun y k q => by omega)), bS_lo hS (fun _ => rfl) (fr_mo hf (fun y k q => by omega)), bA_lo hA (fun _ => rfl) (fr_mo hf (fun y k q => by omega)), bB_lo hB rfl (fr_mo hf (fun y k q => by omega)), hPB, TX_lo hX (bS_96 hS) rfl (fr_mo hf (fun y k q => by omega)), ShR_fr hH (fun _ => rfl) (fr_mo hf (fun y k q => by omega)), iW_fr hW (fr_mo hf (fun y k q => by omega)), iL_fr hL (fr_mo hf (fun y k q => by omega)), iP_fr hTp (fr_mo hf (fun y k q => by omega)), iD_fr hD (fr_mo hf (fun y k q => by omega)), iC_fr hC (fr_mo hf (fun y k q => by omega)), iY_fr hY (fr_mo hf (fun y k q => by omega)), iR_fr hR (fr_mo hf (fun y k q => by omega))⟩⟩
theorem a_leastPlan (h : INV K n V J O) {x1 x2 x3 : Int32} : ActI G mX11_leastPlan mX12_leastPlan [(1, .int x1), (2, .int x2), (3, .int x3)] K n V J O := by
  obtain ⟨⟨hK, h96⟩, nT, nG, fl, ins, wt, nS, ad, kd, ky, x, nA, aa, ofn, qq, hT, hS, hA, hB, hPB, hX, hH, hW, hL, hTp, hD, hC, hY, hR⟩ := id h
  have hP : AP nS nA ad kd aa := fun i j hi hj => hPB i j hi (Nat.lt_succ_of_lt hj)
  obtain ⟨r, V1, e1, e2, hf⟩ := p_leastPlan (G := G) (d := 93) (n := n)  hK hS.1 hA.1 hA.2.1 (x1 := x1) (x2 := x2) (x3 := x3)
  exact ⟨r, K, n, V1, J, O, K, n, V1, J, O, e1, e2, hK, nle_rfl, ⟨⟨hK, h96⟩, nT, nG, fl, ins, wt, nS, ad, kd, ky, x, nA, aa, ofn, qq, bT_fr hT (fr_mo hf (fun y k q => by omega)), bS_lo hS (fun _ => rfl) (fr_mo hf (fun y k q => by omega)), bA_lo hA (fun _ => rfl) (fr_mo hf (fun y k q => by omega)), bB_lo hB rfl (fr_mo hf (fun y k q => by omega)), hPB, TX_lo hX (bS_96 hS) rfl (fr_mo hf (fun y k q => by omega)), ShR_fr hH (fun _ => rfl) (fr_mo hf (fun y k q => by omega)), iW_fr hW (fr_mo hf (fun y k q => by omega)), iL_fr hL (fr_mo hf (fun y k q => by omega)), iP_fr hTp (fr_mo hf (fun y k q => by omega)), iD_fr hD (fr_mo hf (fun y k q => by omega)), iC_fr hC (fr_mo hf (fun y k q => by omega)), iY_fr hY (fr_mo hf (fun y k q => by omega)), iR_fr hR (fr_mo hf (fun y k q => by omega))⟩⟩
theorem a_set (h : INV K n V J O) {x1 x2 : Int32} {l3 : Int64} : ActI G mX11_set mX12_set [(1, .int x1), (2, .int x2), (3, .long l3)] K n V J O := by
  obtain ⟨⟨hK, h96⟩, nT, nG, fl, ins, wt, nS, ad, kd, ky, x, nA, aa, ofn, qq, hT, hS, hA, hB, hPB, hX, hH, hW, hL, hTp, hD, hC, hY, hR⟩ := id h
  have hP : AP nS nA ad kd aa := fun i j hi hj => hPB i j hi (Nat.lt_succ_of_lt hj)
  obtain ⟨sh, hH⟩ := id hH
  obtain ⟨r, J1, J2, e1, e2, m1⟩ := p_set (G := G) (d := 97) (n := n)  hK hS.1 hH (x1 := x1) (x2 := x2) (l3 := l3)
  exact ⟨r, K, n, V, J1, O, K, n, V, J2, O, e1, e2, hK, nle_rfl, ⟨⟨hK, h96⟩, nT, nG, fl, ins, wt, nS, ad, kd, ky, x, nA, aa, ofn, qq, hT, hS, hA, hB, hPB, hX, ⟨sh, m1⟩, hW, hL, hTp, hD, hC, hY, hR⟩⟩
theorem a_shift (h : INV K n V J O) {x1 x2 x3 x4 x5 : Int32} : ActI G mX11_shift mX12_shift [(1, .int x1), (2, .int x2), (3, .int x3), (4, .int x4), (5, .int x5)] K n V J O := by
  obtain ⟨⟨hK, h96⟩, nT, nG, fl, ins, wt, nS, ad, kd, ky, x, nA, aa, ofn, qq, hT, hS, hA, hB, hPB, hX, hH, hW, hL, hTp, hD, hC, hY, hR⟩ := id h
  have hP : AP nS nA ad kd aa := fun i j hi hj => hPB i j hi (Nat.lt_succ_of_lt hj)
  obtain ⟨sh, hH⟩ := id hH
  obtain ⟨r, J1, J2, e1, e2, m1⟩ := p_shift (G := G) (d := 97) (n := n)  hK hS.1 hH (x1 := x1) (x2 := x2) (x3 := x3) (x4 := x4) (x5 := x5)
  exact ⟨r, K, n, V, J1, O, K, n, V, J2, O, e1, e2, hK, nle_rfl, ⟨⟨hK, h96⟩, nT, nG, fl, ins, wt, nS, ad, kd, ky, x, nA, aa, ofn, qq, hT, hS, hA, hB, hPB, hX, ⟨sh, m1⟩, hW, hL, hTp, hD, hC, hY, hR⟩⟩
theorem a_keep (h : INV K n V J O) {x1 x2 : Int32} : ActI G mX11_keep mX12_keep [(1, .int x1), (2, .int x2)] K n V J O := by
  obtain ⟨⟨hK, h96⟩, nT, nG, fl, ins, wt, nS, ad, kd, ky, x, nA, aa, ofn, qq, hT, hS, hA, hB, hPB, hX, hH, hW, hL, hTp, hD, hC, hY, hR⟩ := id h
  have hP : AP nS nA ad kd aa := fun i j hi hj => hPB i j hi (Nat.lt_succ_of_lt hj)
  obtain ⟨sh, hH⟩ := id hH
  obtain ⟨r, V1, V2, O2, sh', e1, e2, hf, ho, m1⟩ := p_keep (G := G) (d := 97) (n := n)  hK hS.1 hH (x1 := x1) (x2 := x2)
  exact ⟨r, K, n, V1, J, O2, K, n, V2, J, O2, e1, e2, hK, nle_rfl, ⟨⟨hK, h96⟩, nT, nG, fl, ins, wt, nS, ad, kd, ky, x, nA, aa, ofn, qq, bT_fr hT (fr_mo hf (fun y k q => by omega)), bS_lo hS (fun _ => ho 33 _ (by decide)) (fr_mo hf (fun y k q => by omega)), bA_lo hA (fun _ => ho 32 _ (by decide)) (fr_mo hf (fun y k q => by omega)), bB_lo hB (ho 0 17 (by decide)) (fr_mo hf (fun y k q => by omega)), hPB, TX_lo hX (bS_96 hS) (ho 0 9 (by decide)) (fr_mo hf (fun y k q => by omega)), ⟨sh', m1⟩, iW_fr hW (fr_mo hf (fun y k q => by omega)), iL_fr hL (fr_mo hf (fun y k q => by omega)), iP_fr hTp (fr_mo hf (fun y k q => by omega)), iD_fr hD (fr_mo hf (fun y k q => by omega)), iC_fr hC (fr_mo hf (fun y k q => by omega)), iY_fr hY (fr_mo hf (fun y k q => by omega)), iR_fr hR (fr_mo hf (fun y k q => by omega))⟩⟩
theorem a_row (h : INV K n V J O) {x1 x2 x3 : Int32} : ActI G mX11_row mX12_row [(1, .int x1), (2, .int x2), (3, .int x3)] K n V J O := by
  obtain ⟨⟨hK, h96⟩, nT, nG, fl, ins, wt, nS, ad, kd, ky, x, nA, aa, ofn, qq, hT, hS, hA, hB, hPB, hX, hH, hW, hL, hTp, hD, hC, hY, hR⟩ := id h
  have hP : AP nS nA ad kd aa := fun i j hi hj => hPB i j hi (Nat.lt_succ_of_lt hj)
  obtain ⟨sh, hH⟩ := id hH
  obtain ⟨r, V1, V2, J1, J2, O2, sh', e1, e2, hf, ho, m1⟩ := p_row (G := G) (d := 97) (n := n)  hK hH (x1 := x1) (x2 := x2) (x3 := x3)
  exact ⟨r, K, n, V1, J1, O2, K, n, V2, J2, O2, e1, e2, hK, nle_rfl, ⟨⟨hK, h96⟩, nT, nG, fl, ins, wt, nS, ad, kd, ky, x, nA, aa, ofn, qq, bT_fr hT (fr_mo hf (fun y k q => by omega)), bS_lo hS (fun _ => ho 33 _ (by decide)) (fr_mo hf (fun y k q => by omega)), bA_lo hA (fun _ => ho 32 _ (by decide)) (fr_mo hf (fun y k q => by omega)), bB_lo hB (ho 0 17 (by decide)) (fr_mo hf (fun y k q => by omega)), hPB, TX_lo hX (bS_96 hS) (ho 0 9 (by decide)) (fr_mo hf (fun y k q => by omega)), ⟨sh', m1⟩, iW_fr hW (fr_mo hf (fun y k q => by omega)), iL_fr hL (fr_mo hf (fun y k q => by omega)), iP_fr hTp (fr_mo hf (fun y k q => by omega)), iD_fr hD (fr_mo hf (fun y k q => by omega)), iC_fr hC (fr_mo hf (fun y k q => by omega)), iY_fr hY (fr_mo hf (fun y k q => by omega)), iR_fr hR (fr_mo hf (fun y k q => by omega))⟩⟩
theorem a_take (h : INV K n V J O) {x1 : Int32} : ActI G mX11_take mX12_take [(1, .int x1)] K n V J O := by
  obtain ⟨⟨hK, h96⟩, nT, nG, fl, ins, wt, nS, ad, kd, ky, x, nA, aa, ofn, qq, hT, hS, hA, hB, hPB, hX, hH, hW, hL, hTp, hD, hC, hY, hR⟩ := id h
  have hP : AP nS nA ad kd aa := fun i j hi hj => hPB i j hi (Nat.lt_succ_of_lt hj)
  obtain ⟨r, V1, V2, nG', ins', wt', x', e1, e2, hf, m1, m2, m3, ms, m4⟩ := p_take (G := G) (d := 93) (n := n)  hK hT.1 hT.2.1 hT.2.2 hS.1 (x1 := x1)
  have h9 := bS_96 hS
  have hs : fr (fun y k => 96 ≤ y ∨ (5 ≤ y ∧ y ≤ 9) ∨ (y = 1 ∧ (k = 2 ∨ k = 6)) ∨ y = 58 ∨ y = 59 ∨ (y = 57 ∧ (k = 2 ∨ k = 32)) ∨ (72 ≤ y ∧ y ≤ 79)) V V2 := fr_mo hf (fun y k q => by
    unfold frK frQ at q
    rcases q with q | q | q | q | q | q | q
    · omega
    · omega
    · omega
    · omega
    · omega
    · exact Or.inl (frS_lo h9 q)
    · omega)
  have hs2 : fr (fun y k => inSt nS ad kd y ∨ (5 ≤ y ∧ y ≤ 9) ∨ (y = 1 ∧ (k = 2 ∨ k = 6)) ∨ y = 58 ∨ y = 59 ∨ (y = 57 ∧ (k = 2 ∨ k = 32)) ∨ (72 ≤ y ∧ y ≤ 79)) V V2 := fr_mo hf (fun y k q => by
    unfold frK frQ at q
    rcases q with q | q | q | q | q | q | q
    · omega
    · omega
    · omega
    · omega
    · omega
    · obtain ⟨i, hi, q⟩ := q
      have hz := sz_ge (kd := kd i)
      unfold frE at q
      exact Or.inl ⟨i, hi, by omega, by omega⟩
    · omega)
  have hA2 := bA_st hA hP (fun _ => rfl) (fr_mo hs2 (fun y k q => by
    rcases q with q | q
    · exact Or.inl q
    · exact Or.inr (by omega))) h9
  have hB2 := bB_g hB hPB rfl (fr_mo hs2 (fun y k q => by
    rcases q with q | q
    · exact Or.inr (Or.inl q)
    · exact Or.inr (Or.inr (by omega))))
  have hX2 := TX_dy hX hP hS.1.1.2.1 h9 (fr_mo hf (fun y k q => by
    unfold frK frQ at q
    rcases q with q | q | q | q | q | q | q
    · exact Or.inr (Or.inr (by omega))
    · exact Or.inr (Or.inr (by omega))
    · exact Or.inr (Or.inr (by omega))
    · exact Or.inr (Or.inr (by omega))
    · exact Or.inr (Or.inr (by omega))
    · obtain ⟨i, hi, q⟩ := q
      unfold frE at q
      exact Or.inr (Or.inl ⟨i, hi, by omega⟩)
    · exact Or.inr (Or.inr (by omega)))) (bA_96 hA)
  have hF2 : ∀ s, nS ≤ s → s < 10 → freeM s V2 := fun s h1 h2 => freeM_fr (hS.2.1 s h1 h2) (fr_mo hf (fun y k q => by
    unfold frK frQ at q
    rcases q with q | q | q | q | q | q | q
    · omega
    · omega
    · omega
    · omega
    · omega
    · have := frS_lo h9 q
      omega
    · omega))
  exact ⟨r, K, n, V1, J, O, K, n, V2, J, O, e1, e2, hK, nle_rfl, ⟨⟨hK, h96⟩, nT, nG', fl, ins', wt', nS, ad, kd, ky, x', nA, aa, ofn, qq, ⟨m1, m2, m3⟩, ⟨m4, hF2, hS.2.2⟩, hA2, hB2, hPB, hX2, ShR_fr hH (fun _ => rfl) (fr_mo hs (fun y k q => by omega)), iW_g hW ms (fr_mo hs (fun y k q => by omega)), iL_fr hL (fr_mo hs (fun y k q => by omega)), iP_fr hTp (fr_mo hs (fun y k q => by omega)), iD_fr hD (fr_mo hs (fun y k q => by omega)), iC_fr hC (fr_mo hs (fun y k q => by omega)), iY_fr hY (fr_mo hs (fun y k q => by omega)), iR_fr hR (fr_mo hs (fun y k q => by omega))⟩⟩
theorem a_put (h : INV K n V J O) {x1 x2 x3 x4 : Int32} : ActI G mX11_put mX12_put [(1, .int x1), (2, .int x2), (3, .int x3), (4, .int x4)] K n V J O := by
  obtain ⟨⟨hK, h96⟩, nT, nG, fl, ins, wt, nS, ad, kd, ky, x, nA, aa, ofn, qq, hT, hS, hA, hB, hPB, hX, hH, hW, hL, hTp, hD, hC, hY, hR⟩ := id h
  have hP : AP nS nA ad kd aa := fun i j hi hj => hPB i j hi (Nat.lt_succ_of_lt hj)
  obtain ⟨un, mo, l1, l2⟩ := id hL
  obtain ⟨r, V1, V2, nT', fl', ins', x', e1, e2, hf, m1, m2, m3, ms, m4⟩ := p_put (G := G) (d := 93) (n := n)  hK hT.1 hT.2.1 l1 l2 hT.2.2 hS.1 (x1 := x1) (x2 := x2) (x3 := x3) (x4 := x4)
  have h9 := bS_96 hS
  have hs : fr (fun y k => 96 ≤ y ∨ (5 ≤ y ∧ y ≤ 9) ∨ (y = 1 ∧ (k = 2 ∨ k = 6)) ∨ y = 58 ∨ y = 59 ∨ (y = 57 ∧ (k = 2 ∨ k = 32)) ∨ (72 ≤ y ∧ y ≤ 79)) V V2 := fr_mo hf (fun y k q => by
    unfold frK frQ at q
    rcases q with q | q | q | q | q | q | q
    · omega
    · omega
    · omega
    · omega
    · omega
    · exact Or.inl (frS_lo h9 q)
    · omega)
  have hs2 : fr (fun y k => inSt nS ad kd y ∨ (5 ≤ y ∧ y ≤ 9) ∨ (y = 1 ∧ (k = 2 ∨ k = 6)) ∨ y = 58 ∨ y = 59 ∨ (y = 57 ∧ (k = 2 ∨ k = 32)) ∨ (72 ≤ y ∧ y ≤ 79)) V V2 := fr_mo hf (fun y k q => by
    unfold frK frQ at q
    rcases q with q | q | q | q | q | q | q
    · omega
    · omega
    · omega
    · omega
    · omega
    · obtain ⟨i, hi, q⟩ := q
      have hz := sz_ge (kd := kd i)
      unfold frE at q
      exact Or.inl ⟨i, hi, by omega, by omega⟩
    · omega)
  have hA2 := bA_st hA hP (fun _ => rfl) (fr_mo hs2 (fun y k q => by
    rcases q with q | q
    · exact Or.inl q
    · exact Or.inr (by omega))) h9
  have hB2 := bB_g hB hPB rfl (fr_mo hs2 (fun y k q => by
    rcases q with q | q
    · exact Or.inr (Or.inl q)
    · exact Or.inr (Or.inr (by omega))))
  have hX2 := TX_dy hX hP hS.1.1.2.1 h9 (fr_mo hf (fun y k q => by
    unfold frK frQ at q
    rcases q with q | q | q | q | q | q | q
    · exact Or.inr (Or.inr (by omega))
    · exact Or.inr (Or.inr (by omega))
    · exact Or.inr (Or.inr (by omega))
    · exact Or.inr (Or.inr (by omega))
    · exact Or.inr (Or.inr (by omega))
    · obtain ⟨i, hi, q⟩ := q
      unfold frE at q
      exact Or.inr (Or.inl ⟨i, hi, by omega⟩)
    · exact Or.inr (Or.inr (by omega)))) (bA_96 hA)
  have hF2 : ∀ s, nS ≤ s → s < 10 → freeM s V2 := fun s h1 h2 => freeM_fr (hS.2.1 s h1 h2) (fr_mo hf (fun y k q => by
    unfold frK frQ at q
    rcases q with q | q | q | q | q | q | q
    · omega
    · omega
    · omega
    · omega
    · omega
    · have := frS_lo h9 q
      omega
    · omega))
  exact ⟨r, K, n, V1, J, O, K, n, V2, J, O, e1, e2, hK, nle_rfl, ⟨⟨hK, h96⟩, nT', nG, fl', ins', wt, nS, ad, kd, ky, x', nA, aa, ofn, qq, ⟨m1, m2, m3⟩, ⟨m4, hF2, hS.2.2⟩, hA2, hB2, hPB, hX2, ShR_fr hH (fun _ => rfl) (fr_mo hs (fun y k q => by omega)), iW_g hW ms (fr_mo hs (fun y k q => by omega)), iL_fr hL (fr_mo hs (fun y k q => by omega)), iP_fr hTp (fr_mo hs (fun y k q => by omega)), iD_fr hD (fr_mo hs (fun y k q => by omega)), iC_fr hC (fr_mo hs (fun y k q => by omega)), iY_fr hY (fr_mo hs (fun y k q => by omega)), iR_fr hR (fr_mo hs (fun y k q => by omega))⟩⟩
theorem a_things (h : INV K n V J O) {x1 x2 x3 : Int32} : ActI G mX11_things mX12_things [(1, .int x1), (2, .int x2), (3, .int x3)] K n V J O := by
  obtain ⟨⟨hK, h96⟩, nT, nG, fl, ins, wt, nS, ad, kd, ky, x, nA, aa, ofn, qq, hT, hS, hA, hB, hPB, hX, hH, hW, hL, hTp, hD, hC, hY, hR⟩ := id h
  have hP : AP nS nA ad kd aa := fun i j hi hj => hPB i j hi (Nat.lt_succ_of_lt hj)
  obtain ⟨un, mo, l1, l2⟩ := id hL
  obtain ⟨sh, hH⟩ := id hH
  obtain ⟨r, V1, V2, nT', fl', ins', x', e1, e2, hf, m1, m2, m3, ms, m4⟩ := p_things (G := G) (d := 92) (n := n)  hK hT.1 hT.2.1 l1 l2 hT.2.2 hS.1 hH (x1 := x1) (x2 := x2) (x3 := x3)
  have h9 := bS_96 hS
  have hs : fr (fun y k => 96 ≤ y ∨ (5 ≤ y ∧ y ≤ 9) ∨ (y = 1 ∧ (k = 2 ∨ k = 6)) ∨ y = 58 ∨ y = 59 ∨ (y = 57 ∧ (k = 2 ∨ k = 32)) ∨ (72 ≤ y ∧ y ≤ 79)) V V2 := fr_mo hf (fun y k q => by
    unfold frK frQ at q
    rcases q with q | q | q | q | q | q | q
    · omega
    · omega
    · omega
    · omega
    · omega
    · exact Or.inl (frS_lo h9 q)
    · omega)
  have hs2 : fr (fun y k => inSt nS ad kd y ∨ (5 ≤ y ∧ y ≤ 9) ∨ (y = 1 ∧ (k = 2 ∨ k = 6)) ∨ y = 58 ∨ y = 59 ∨ (y = 57 ∧ (k = 2 ∨ k = 32)) ∨ (72 ≤ y ∧ y ≤ 79)) V V2 := fr_mo hf (fun y k q => by
    unfold frK frQ at q
    rcases q with q | q | q | q | q | q | q
    · omega
    · omega
    · omega
    · omega
    · omega
    · obtain ⟨i, hi, q⟩ := q
      have hz := sz_ge (kd := kd i)
      unfold frE at q
      exact Or.inl ⟨i, hi, by omega, by omega⟩
    · omega)
  have hA2 := bA_st hA hP (fun _ => rfl) (fr_mo hs2 (fun y k q => by
    rcases q with q | q
    · exact Or.inl q
    · exact Or.inr (by omega))) h9
  have hB2 := bB_g hB hPB rfl (fr_mo hs2 (fun y k q => by
    rcases q with q | q
    · exact Or.inr (Or.inl q)
    · exact Or.inr (Or.inr (by omega))))
  have hX2 := TX_dy hX hP hS.1.1.2.1 h9 (fr_mo hf (fun y k q => by
    unfold frK frQ at q
    rcases q with q | q | q | q | q | q | q
    · exact Or.inr (Or.inr (by omega))
    · exact Or.inr (Or.inr (by omega))
    · exact Or.inr (Or.inr (by omega))
    · exact Or.inr (Or.inr (by omega))
    · exact Or.inr (Or.inr (by omega))
    · obtain ⟨i, hi, q⟩ := q
      unfold frE at q
      exact Or.inr (Or.inl ⟨i, hi, by omega⟩)
    · exact Or.inr (Or.inr (by omega)))) (bA_96 hA)
  have hF2 : ∀ s, nS ≤ s → s < 10 → freeM s V2 := fun s h1 h2 => freeM_fr (hS.2.1 s h1 h2) (fr_mo hf (fun y k q => by
    unfold frK frQ at q
    rcases q with q | q | q | q | q | q | q
    · omega
    · omega
    · omega
    · omega
    · omega
    · have := frS_lo h9 q
      omega
    · omega))
  exact ⟨r, K, n, V1, J, O, K, n, V2, J, O, e1, e2, hK, nle_rfl, ⟨⟨hK, h96⟩, nT', nG, fl', ins', wt, nS, ad, kd, ky, x', nA, aa, ofn, qq, ⟨m1, m2, m3⟩, ⟨m4, hF2, hS.2.2⟩, hA2, hB2, hPB, hX2, ShR_fr ⟨sh, hH⟩ (fun _ => rfl) (fr_mo hs (fun y k q => by omega)), iW_g hW ms (fr_mo hs (fun y k q => by omega)), iL_fr hL (fr_mo hs (fun y k q => by omega)), iP_fr hTp (fr_mo hs (fun y k q => by omega)), iD_fr hD (fr_mo hs (fun y k q => by omega)), iC_fr hC (fr_mo hs (fun y k q => by omega)), iY_fr hY (fr_mo hs (fun y k q => by omega)), iR_fr hR (fr_mo hs (fun y k q => by omega))⟩⟩
theorem a_nameAt (h : INV K n V J O) {x1 x2 : Int32} : ActI G mX11_nameAt mX12_nameAt [(1, .int x1), (2, .int x2)] K n V J O := by
  obtain ⟨⟨hK, h96⟩, nT, nG, fl, ins, wt, nS, ad, kd, ky, x, nA, aa, ofn, qq, hT, hS, hA, hB, hPB, hX, hH, hW, hL, hTp, hD, hC, hY, hR⟩ := id h
  have hP : AP nS nA ad kd aa := fun i j hi hj => hPB i j hi (Nat.lt_succ_of_lt hj)
  obtain ⟨r, V1, e1, e2, hf, m1⟩ := p_nameAt (G := G) (d := 96) (n := n)  hK hT.1 hT.2.1 hS.1 (x1 := x1) (x2 := x2)
  have h9 := bS_96 hS
  have hs : fr (fun y _ => 96 ≤ y) V V1 := fr_mo hf (fun y k q => frS_lo h9 q)
  have hs2 : fr (fun y _ => inSt nS ad kd y) V V1 := fr_mo hf (fun y k q => by
    obtain ⟨i, hi, q⟩ := q
    have hz := sz_ge (kd := kd i)
    unfold frE at q
    exact ⟨i, hi, by omega, by omega⟩)
  have hA2 := bA_st hA hP (fun _ => rfl) (fr_mo hs2 (fun y k q => Or.inl q)) h9
  have hB2 := bB_g hB hPB rfl (fr_mo hs2 (fun y k q => Or.inr (Or.inl q)))
  have hX2 := TX_dy hX hP hS.1.1.2.1 h9 (fr_mo hf (fun y k q => by
    obtain ⟨i, hi, q⟩ := q
    unfold frE at q
    exact Or.inr (Or.inl ⟨i, hi, by omega⟩))) (bA_96 hA)
  have hF2 : ∀ s, nS ≤ s → s < 10 → freeM s V1 := fun s h1 h2 => freeM_fr (hS.2.1 s h1 h2) (fr_mo hs (fun y k q => by omega))
  exact ⟨r, K, n, V1, J, O, K, n, V1, J, O, e1, e2, hK, nle_rfl, ⟨⟨hK, h96⟩, nT, nG, fl, ins, wt, nS, ad, kd, ky, x, nA, aa, ofn, qq, bT_fr hT (fr_mo hs (fun y k q => by omega)), ⟨m1, hF2, hS.2.2⟩, hA2, hB2, hPB, hX2, ShR_fr hH (fun _ => rfl) (fr_mo hs (fun y k q => by omega)), iW_fr hW (fr_mo hs (fun y k q => by omega)), iL_fr hL (fr_mo hs (fun y k q => by omega)), iP_fr hTp (fr_mo hs (fun y k q => by omega)), iD_fr hD (fr_mo hs (fun y k q => by omega)), iC_fr hC (fr_mo hs (fun y k q => by omega)), iY_fr hY (fr_mo hs (fun y k q => by omega)), iR_fr hR (fr_mo hs (fun y k q => by omega))⟩⟩
theorem a_often (h : INV K n V J O) {x1 x2 : Int32} : ActI G mX11_often mX12_often [(1, .int x1), (2, .int x2)] K n V J O := by
  obtain ⟨⟨hK, h96⟩, nT, nG, fl, ins, wt, nS, ad, kd, ky, x, nA, aa, ofn, qq, hT, hS, hA, hB, hPB, hX, hH, hW, hL, hTp, hD, hC, hY, hR⟩ := id h
  have hP : AP nS nA ad kd aa := fun i j hi hj => hPB i j hi (Nat.lt_succ_of_lt hj)
  obtain ⟨r, V1, V2, ofn', e1, e2, hf, m1⟩ := p_often (G := G) (d := 98) (n := n)  hK hA.1 (x1 := x1) (x2 := x2)
  have h9 := bA_96 hA
  have hs : fr (fun y k => 96 ≤ y ∨ y = 69 ∨ (y = 57 ∧ 27 ≤ k ∧ k ≤ 31)) V V2 := fr_mo hf (fun y k q => by
    rcases q with ⟨q1, i, hi, q2⟩ | q
    · have := h9 i hi
      omega
    · omega)
  have hs2 : fr (fun y k => inAk nA aa y ∨ y = 69 ∨ (y = 57 ∧ 27 ≤ k ∧ k ≤ 31)) V V2 := fr_mo hf (fun y k q => by
    rcases q with ⟨q1, i, hi, q2⟩ | q
    · exact Or.inl ⟨i, hi, by omega, by omega⟩
    · exact Or.inr (by omega))
  have hB2 := bB_g hB hPB rfl (fr_mo hs2 (fun y k q => q.imp id (fun q => Or.inr (by omega))))
  have hX2 := TX_dy hX hP hS.1.1.2.1 (bS_96 hS) (fr_mo hs2 (fun y k q => by
    rcases q with q | q
    · exact Or.inl q
    · exact Or.inr (Or.inr (by omega)))) h9
  have hS2 : bS nS nT n.1 ad kd ky fl ins K O x V2 := bS_g hS (Nat.le_refl _) (fun _ _ q => q) (fun _ => rfl) (fr_mo hs2 (fun y k q => by
    rcases q with ⟨j, hj, q1, q2⟩ | q
    · have h8 := h9 j hj
      refine ⟨by omega, by omega, by omega, fun i hi => ?_⟩
      have h1 := hP i j hi hj
      unfold apart at h1
      unfold sCl
      have hz := sz_ge (kd := kd i)
      omega
    · refine ⟨by omega, by omega, by omega, fun i hi => ?_⟩
      have := bS_96 hS i hi
      unfold sCl
      omega))
  have hA2 : bA nA n.1 aa ofn' qq K O V2 := by
    refine ⟨m1, AskR_0 hA.2.1 (fr_mo hf (fun y k q => ?_)), fun p h1 h2 => ?_, hA.2.2.2⟩
    · rcases q with ⟨q1, i, hi, q2⟩ | q
      · have h8 := h9 i hi
        refine ⟨fun j hj => ?_, by omega⟩
        have := AkO_ap hA.1 hi hj q2
        omega
      · refine ⟨fun j hj => ?_, by omega⟩
        have h8 := h9 j hj
        omega
    · rw [hs 68 p (by omega)]
      exact hA.2.2.1 p h1 h2
  exact ⟨r, K, n, V1, J, O, K, n, V2, J, O, e1, e2, hK, nle_rfl, ⟨⟨hK, h96⟩, nT, nG, fl, ins, wt, nS, ad, kd, ky, x, nA, aa, ofn', qq, bT_fr hT (fr_mo hs (fun y k q => by omega)), hS2, hA2, hB2, hPB, hX2, ShR_fr hH (fun _ => rfl) (fr_mo hs (fun y k q => by omega)), iW_fr hW (fr_mo hs (fun y k q => by omega)), iL_fr hL (fr_mo hs (fun y k q => by omega)), iP_fr hTp (fr_mo hs (fun y k q => by omega)), iD_fr hD (fr_mo hs (fun y k q => by omega)), iC_fr hC (fr_mo hs (fun y k q => by omega)), iY_fr hY (fr_mo hs (fun y k q => by omega)), iR_fr hR (fr_mo hs (fun y k q => by omega))⟩⟩
theorem a_answer (h : INV K n V J O) {x1 x2 x3 : Int32} : ActI G mX11_answer mX12_answer [(1, .int x1), (2, .int x2), (3, .int x3)] K n V J O := by
  obtain ⟨⟨hK, h96⟩, nT, nG, fl, ins, wt, nS, ad, kd, ky, x, nA, aa, ofn, qq, hT, hS, hA, hB, hPB, hX, hH, hW, hL, hTp, hD, hC, hY, hR⟩ := id h
  have hP : AP nS nA ad kd aa := fun i j hi hj => hPB i j hi (Nat.lt_succ_of_lt hj)
  obtain ⟨r, V1, V2, e1, e2, hf, m1⟩ := p_answer (G := G) (d := 96) (n := n)  hK hA.1 hA.2.1 hT.1 hT.2.1 (x1 := x1) (x2 := x2) (x3 := x3)
  have h9 := bA_96 hA
  have hs : fr (fun y k => 96 ≤ y ∨ y = 69 ∨ (y = 57 ∧ 27 ≤ k ∧ k ≤ 31)) V V2 := fr_mo hf (fun y k q => by
    rcases q with ⟨q1, i, hi, q2⟩ | q
    · have := h9 i hi
      omega
    · omega)
  have hs2 : fr (fun y k => inAk nA aa y ∨ y = 69 ∨ (y = 57 ∧ 27 ≤ k ∧ k ≤ 31)) V V2 := fr_mo hf (fun y k q => by
    rcases q with ⟨q1, i, hi, q2⟩ | q
    · exact Or.inl ⟨i, hi, by omega, by omega⟩
    · exact Or.inr (by omega))
  have hB2 := bB_g hB hPB rfl (fr_mo hs2 (fun y k q => q.imp id (fun q => Or.inr (by omega))))
  have hX2 := TX_dy hX hP hS.1.1.2.1 (bS_96 hS) (fr_mo hs2 (fun y k q => by
    rcases q with q | q
    · exact Or.inl q
    · exact Or.inr (Or.inr (by omega)))) h9
  have hS2 : bS nS nT n.1 ad kd ky fl ins K O x V2 := bS_g hS (Nat.le_refl _) (fun _ _ q => q) (fun _ => rfl) (fr_mo hs2 (fun y k q => by
    rcases q with ⟨j, hj, q1, q2⟩ | q
    · have h8 := h9 j hj
      refine ⟨by omega, by omega, by omega, fun i hi => ?_⟩
      have h1 := hP i j hi hj
      unfold apart at h1
      unfold sCl
      have hz := sz_ge (kd := kd i)
      omega
    · refine ⟨by omega, by omega, by omega, fun i hi => ?_⟩
      have := bS_96 hS i hi
      unfold sCl
      omega))
  have hA2 : bA nA n.1 aa ofn qq K O V2 := by
    refine ⟨AkO_fr hA.1 (fr_mo hf (fun y k q => ?_)), m1, fun p h1 h2 => ?_, hA.2.2.2⟩
    · rcases q with ⟨q1, i, hi, q2⟩ | q
      · have h8 := h9 i hi
        exact Or.inl ⟨by omega, fun z => by have := z.1; omega⟩
      · exact Or.inr (Or.inr (Or.inr (by omega)))
    · rw [hs 68 p (by omega)]
      exact hA.2.2.1 p h1 h2
  exact ⟨r, K, n, V1, J, O, K, n, V2, J, O, e1, e2, hK, nle_rfl, ⟨⟨hK, h96⟩, nT, nG, fl, ins, wt, nS, ad, kd, ky, x, nA, aa, ofn, qq, bT_fr hT (fr_mo hs (fun y k q => by omega)), hS2, hA2, hB2, hPB, hX2, ShR_fr hH (fun _ => rfl) (fr_mo hs (fun y k q => by omega)), iW_fr hW (fr_mo hs (fun y k q => by omega)), iL_fr hL (fr_mo hs (fun y k q => by omega)), iP_fr hTp (fr_mo hs (fun y k q => by omega)), iD_fr hD (fr_mo hs (fun y k q => by omega)), iC_fr hC (fr_mo hs (fun y k q => by omega)), iY_fr hY (fr_mo hs (fun y k q => by omega)), iR_fr hR (fr_mo hs (fun y k q => by omega))⟩⟩
theorem a_through (h : INV K n V J O) {x1 x2 x3 x4 : Int32} : ActI G mX11_through mX12_through [(1, .int x1), (2, .int x2), (3, .int x3), (4, .int x4)] K n V J O := by
  obtain ⟨⟨hK, h96⟩, nT, nG, fl, ins, wt, nS, ad, kd, ky, x, nA, aa, ofn, qq, hT, hS, hA, hB, hPB, hX, hH, hW, hL, hTp, hD, hC, hY, hR⟩ := id h
  have hP : AP nS nA ad kd aa := fun i j hi hj => hPB i j hi (Nat.lt_succ_of_lt hj)
  obtain ⟨r, V1, V2, e1, e2, hf, m1⟩ := p_through (G := G) (d := 13) (n := n)  hK hS.1 hA.1 hA.2.1 hP hT.1 hT.2.1 hR (x1 := x1) (x2 := x2) (x3 := x3) (x4 := x4)
  have h9 := bS_96 hS
  have h8 := bA_96 hA
  have hs : fr (fun y k => 96 ≤ y ∨ (y = 57 ∧ 27 ≤ k ∧ k ≤ 33) ∨ (y = 0 ∧ k = 8)) V V2 := fr_mo hf (fun y k q => q.imp (frC_lo h9 h8) id)
  have hX2 := TX_dy hX hP hS.1.1.2.1 h9 (fr_mo hf (fun y k q => by
    rcases q with (⟨i, hi, q1, q2⟩ | ⟨i, hi, q⟩) | q
    · exact Or.inl ⟨i, hi, by omega, by omega⟩
    · exact Or.inr (Or.inl ⟨i, hi, by omega⟩)
    · exact Or.inr (Or.inr (by omega)))) h8
  have hB2 := bB_g hB hPB rfl (fr_mo hf (fun y k q => by
    rcases q with (⟨i, hi, q1, q2⟩ | ⟨i, hi, q⟩) | q
    · exact Or.inl ⟨i, hi, by omega, by omega⟩
    · have hz := sz_ge (kd := kd i)
      exact Or.inr (Or.inl ⟨i, hi, by omega, by omega⟩)
    · exact Or.inr (Or.inr (by omega))))
  have hS2 : bS nS nT n.1 ad kd ky fl ins K O x V2 := ⟨StR_R hS.1 hA.1 hP hf, fun s h1 h2 => freeM_fr (hS.2.1 s h1 h2) (fr_mo hs (fun y k q => by omega)), hS.2.2⟩
  have hA2 : bA nA n.1 aa ofn qq K O V2 := ⟨AkO_R hA.1 h9 hP hf, AskR_R hA.2.1 hA.1 h9 hP hf, fun p h1 h2 => by rw [hs 68 p (by omega)]; exact hA.2.2.1 p h1 h2, hA.2.2.2⟩
  exact ⟨r, K, n, V1, J, O, K, n, V2, J, O, e1, e2, hK, nle_rfl, ⟨⟨hK, h96⟩, nT, nG, fl, ins, wt, nS, ad, kd, ky, x, nA, aa, ofn, qq, bT_fr hT (fr_mo hs (fun y k q => by omega)), hS2, hA2, hB2, hPB, hX2, ShR_fr hH (fun _ => rfl) (fr_mo hs (fun y k q => by omega)), iW_fr hW (fr_mo hs (fun y k q => by omega)), iL_fr hL (fr_mo hs (fun y k q => by omega)), iP_fr hTp (fr_mo hs (fun y k q => by omega)), iD_fr hD (fr_mo hs (fun y k q => by omega)), iC_fr hC (fr_mo hs (fun y k q => by omega)), iY_fr hY (fr_mo hs (fun y k q => by omega)), m1⟩⟩
theorem a_firstUnlike (h : INV K n V J O) {x1 x2 x3 : Int32} : ActI G mX11_firstUnlike mX12_firstUnlike [(1, .int x1), (2, .int x2), (3, .int x3)] K n V J O := by
  obtain ⟨⟨hK, h96⟩, nT, nG, fl, ins, wt, nS, ad, kd, ky, x, nA, aa, ofn, qq, hT, hS, hA, hB, hPB, hX, hH, hW, hL, hTp, hD, hC, hY, hR⟩ := id h
  have hP : AP nS nA ad kd aa := fun i j hi hj => hPB i j hi (Nat.lt_succ_of_lt hj)
  obtain ⟨r, V1, V2, e1, e2, hf, m1⟩ := p_firstUnlike (G := G) (d := 12) (n := n)  hK hS.1 hA.1 hA.2.1 hP hT.1 hT.2.1 hR (x1 := x1) (x2 := x2) (x3 := x3)
  have h9 := bS_96 hS
  have h8 := bA_96 hA
  have hs : fr (fun y k => 96 ≤ y ∨ (y = 57 ∧ 27 ≤ k ∧ k ≤ 33) ∨ (y = 0 ∧ k = 8)) V V2 := fr_mo hf (fun y k q => q.imp (frC_lo h9 h8) id)
  have hX2 := TX_dy hX hP hS.1.1.2.1 h9 (fr_mo hf (fun y k q => by
    rcases q with (⟨i, hi, q1, q2⟩ | ⟨i, hi, q⟩) | q
    · exact Or.inl ⟨i, hi, by omega, by omega⟩
    · exact Or.inr (Or.inl ⟨i, hi, by omega⟩)
    · exact Or.inr (Or.inr (by omega)))) h8
  have hB2 := bB_g hB hPB rfl (fr_mo hf (fun y k q => by
    rcases q with (⟨i, hi, q1, q2⟩ | ⟨i, hi, q⟩) | q
    · exact Or.inl ⟨i, hi, by omega, by omega⟩
    · have hz := sz_ge (kd := kd i)
      exact Or.inr (Or.inl ⟨i, hi, by omega, by omega⟩)
    · exact Or.inr (Or.inr (by omega))))
  have hS2 : bS nS nT n.1 ad kd ky fl ins K O x V2 := ⟨StR_R hS.1 hA.1 hP hf, fun s h1 h2 => freeM_fr (hS.2.1 s h1 h2) (fr_mo hs (fun y k q => by omega)), hS.2.2⟩
  have hA2 : bA nA n.1 aa ofn qq K O V2 := ⟨AkO_R hA.1 h9 hP hf, AskR_R hA.2.1 hA.1 h9 hP hf, fun p h1 h2 => by rw [hs 68 p (by omega)]; exact hA.2.2.1 p h1 h2, hA.2.2.2⟩
  exact ⟨r, K, n, V1, J, O, K, n, V2, J, O, e1, e2, hK, nle_rfl, ⟨⟨hK, h96⟩, nT, nG, fl, ins, wt, nS, ad, kd, ky, x, nA, aa, ofn, qq, bT_fr hT (fr_mo hs (fun y k q => by omega)), hS2, hA2, hB2, hPB, hX2, ShR_fr hH (fun _ => rfl) (fr_mo hs (fun y k q => by omega)), iW_fr hW (fr_mo hs (fun y k q => by omega)), iL_fr hL (fr_mo hs (fun y k q => by omega)), iP_fr hTp (fr_mo hs (fun y k q => by omega)), iD_fr hD (fr_mo hs (fun y k q => by omega)), iC_fr hC (fr_mo hs (fun y k q => by omega)), iY_fr hY (fr_mo hs (fun y k q => by omega)), m1⟩⟩
theorem a_act (h : INV K n V J O) {x1 x2 x3 : Int32} : ActI G mX11_act mX12_act [(1, .int x1), (2, .int x2), (3, .int x3)] K n V J O := by
  obtain ⟨⟨hK, h96⟩, nT, nG, fl, ins, wt, nS, ad, kd, ky, x, nA, aa, ofn, qq, hT, hS, hA, hB, hPB, hX, hH, hW, hL, hTp, hD, hC, hY, hR⟩ := id h
  have hP : AP nS nA ad kd aa := fun i j hi hj => hPB i j hi (Nat.lt_succ_of_lt hj)
  obtain ⟨T, hX⟩ := id hX
  obtain ⟨r, V1, V2, o, T', e1, e2, hf, m1⟩ := p_act (G := G) (d := 87) (n := n)  hK hS.1 hX (x1 := x1) (x2 := x2) (x3 := x3)
  have h9 := bS_96 hS
  have hs : fr (fun y k => 96 ≤ y ∨ y = 91 ∨ (y = 57 ∧ (k = 51 ∨ k = 52))) V V2 := fr_mo hf (fun y k q => by
    rcases q with ⟨i, hi, q⟩ | q
    · have := h9 i hi
      omega
    · omega)
  have o9 : ∀ {a k : Nat}, a ≠ 0 → up2 O 0 9 o a k = O a k := fun ha => up2_a ha
  have hA2 : bA nA n.1 aa ofn qq K (up2 O 0 9 o) V2 := bA_st hA hP (fun _ => o9 (by decide)) (fr_mo hf (fun y k q => by
    rcases q with ⟨i, hi, q⟩ | q
    · have hz := sz_ge (kd := kd i)
      exact Or.inl ⟨i, hi, by omega, by omega⟩
    · exact Or.inr (by omega))) h9
  have hB2 : bB nA n.1 aa K (up2 O 0 9 o) V2 := bB_g hB hPB (up2_k (by decide)) (fr_mo hf (fun y k q => by
    rcases q with ⟨i, hi, q⟩ | q
    · have hz := sz_ge (kd := kd i)
      exact Or.inr (Or.inl ⟨i, hi, by omega, by omega⟩)
    · exact Or.inr (Or.inr (by omega))))
  have hS2 : bS nS nT n.1 ad kd ky fl ins K (up2 O 0 9 o) x V2 := bS_g hS (Nat.le_refl _) (fun _ _ q => q) (fun _ => o9 (by decide)) (fr_mo hf (fun y k q => by
    rcases q with ⟨j, hj, q⟩ | q
    · have h8 := h9 j hj
      refine ⟨by omega, by omega, by omega, fun i hi => ?_⟩
      have hz := sz_ge (kd := kd i)
      have hz' := sz_ge (kd := kd j)
      unfold sCl
      by_cases e : i = j
      · rw [e] at hz ⊢
        omega
      · have := SD_ne hS.1.1.2.1 hi hj e
        omega
    · refine ⟨by omega, by omega, by omega, fun i hi => ?_⟩
      have := h9 i hi
      unfold sCl
      omega))
  exact ⟨r, K, n, V1, J, up2 O 0 9 o, K, n, V2, J, up2 O 0 9 o, e1, e2, hK, nle_rfl, ⟨⟨hK, h96⟩, nT, nG, fl, ins, wt, nS, ad, kd, ky, x, nA, aa, ofn, qq, bT_fr hT (fr_mo hs (fun y k q => by omega)), hS2, hA2, hB2, hPB, ⟨T', m1⟩, ShR_fr hH (fun _ => o9 (by decide)) (fr_mo hs (fun y k q => by omega)), iW_fr hW (fr_mo hs (fun y k q => by omega)), iL_fr hL (fr_mo hs (fun y k q => by omega)), iP_fr hTp (fr_mo hs (fun y k q => by omega)), iD_fr hD (fr_mo hs (fun y k q => by omega)), iC_fr hC (fr_mo hs (fun y k q => by omega)), iY_fr hY (fr_mo hs (fun y k q => by omega)), iR_fr hR (fr_mo hs (fun y k q => by omega))⟩⟩
theorem a_ask (h : INV K n V J O) : ActI G mX11_ask mX12_ask [] K n V J O := by
  obtain ⟨⟨hK, h96⟩, nT, nG, fl, ins, wt, nS, ad, kd, ky, x, nA, aa, ofn, qq, hT, hS, hA, hB, hPB, hX, hH, hW, hL, hTp, hD, hC, hY, hR⟩ := id h
  have hP : AP nS nA ad kd aa := fun i j hi hj => hPB i j hi (Nat.lt_succ_of_lt hj)
  obtain ⟨m, tp, t1, t2⟩ := id hTp
  obtain ⟨r, K', n', V1, V2, O', nA', aa', ofn', qq', m', e1, e2, ⟨hk, k1, k2, k3, k4⟩, hf, ho, t3, g1, g2, g3, g6, g7, g4, g5⟩ := p_ask (G := G) (d := 95) (n := n)  hK h96 t1 t2 hA.1 hA.2.1 hA.2.2.1 hB.1 hB.2 
  have hK2 : StK K' := fun i c hc => by
    have hi : i < 96 := (List.getElem?_eq_some_iff.mp hc).1
    rw [hk _ (by omega)]
    exact hK i c hc
  have h9 := bS_96 hS
  have hb9 := hB.1.1.2.2.1
  have hs : fr (fun y k => 96 ≤ y ∨ (y = 0 ∧ (k = 3 ∨ k = 5)) ∨ (63 ≤ y ∧ y ≤ 69) ∨ (y = 57 ∧ (k = 6 ∨ k = 14 ∨ k = 26))) V V2 := fr_mo hf (fun y k q => by unfold frAsk at q; omega)
  have hS2 : bS nS nT n'.1 ad kd ky fl ins K' O' x V2 := bS_g hS k1 (fun i hi z => IsSt_k z (by have h1 := hS.2.2 i hi; have h2 := stA_sz (hS.1.2.1 i hi).1.1.2.1; omega) hk) (fun _ => ho _ _ (by decide) (by omega)) (fr_mo hf (fun y k q => by
    unfold frAsk at q
    refine ⟨by omega, by omega, by omega, fun i hi => ?_⟩
    have h1 := hS.2.2 i hi
    have h2 := h9 i hi
    have h3 := hPB i nA hi (Nat.lt_succ_self _)
    unfold apart at h3
    unfold sCl
    have hz := sz_ge (kd := kd i)
    omega))
  have hX2 : ∃ T, TX nS ad O' T V2 := TX_g hX (Nat.le_refl _) (fun _ _ => rfl) (ho _ _ (by decide) (by omega)) (fr_mo hf (fun y k q => by
    unfold frAsk at q
    refine ⟨by omega, by omega, fun i hi => ?_⟩
    have h1 := hS.2.2 i hi
    have h2 := h9 i hi
    have h3 := hPB i nA hi (Nat.lt_succ_self _)
    unfold apart at h3
    have hz := sz_ge (kd := kd i)
    omega))
  have hP2 : AP nS (nA' + 1) ad kd aa' := fun i j hi hj => by
    by_cases hj2 : j ≤ nA
    · rw [g4 j hj2]
      exact hPB i j hi (by omega)
    · rw [g5 j (by omega) (by omega)]
      exact Or.inr (hS.2.2 i hi)
  exact ⟨r, K', n', V1, J, O', K', n', V2, J, O', e1, e2, hK2, ⟨⟨k1, k3⟩, ⟨Nat.le_refl _, Nat.le_refl _⟩, by omega, by omega⟩, ⟨⟨hK2, Nat.le_trans h96 k1⟩, nT, nG, fl, ins, wt, nS, ad, kd, ky, x, nA', aa', ofn', qq', bT_fr hT (fr_mo hs (fun y k q => by omega)), hS2, ⟨g1, g2, g3, fun i hi => Nat.le_trans (g7 i hi) (Nat.le_trans (Nat.le_add_right _ 4) g6.1.2.2.2)⟩, ⟨g6, g7⟩, hP2, hX2, ShR_fr hH (fun _ => ho _ _ (by decide) (by omega)) (fr_mo hs (fun y k q => by omega)), iW_fr hW (fr_mo hs (fun y k q => by omega)), iL_fr hL (fr_mo hs (fun y k q => by omega)), ⟨m', tp, t3⟩, iD_fr hD (fr_mo hs (fun y k q => by omega)), iC_fr hC (fr_mo hs (fun y k q => by omega)), iY_fr hY (fr_mo hs (fun y k q => by omega)), iR_fr hR (fr_mo hs (fun y k q => by omega))⟩⟩
theorem a_stone (h : INV K n V J O) {x1 x2 : Int32} : ActI G mX11_stone mX12_stone [(1, .int x1), (2, .int x2)] K n V J O := by
  obtain ⟨⟨hK, h96⟩, nT, nG, fl, ins, wt, nS, ad, kd, ky, x, nA, aa, ofn, qq, hT, hS, hA, hB, hPB, hX, hH, hW, hL, hTp, hD, hC, hY, hR⟩ := id h
  have hP : AP nS nA ad kd aa := fun i j hi hj => hPB i j hi (Nat.lt_succ_of_lt hj)
  obtain ⟨r, K', n', V1, V2, O', nS', ad', kd', ky', x', e1, e2, ⟨hk, k1, k2, k3, k4⟩, hf, ho, g1, g2, g3, g4, g5, g6⟩ := p_stone (G := G) (d := 93) (n := n)  hK h96 hT.1 hT.2.1 hS.1 hS.2.1 hS.2.2 (x1 := x1) (x2 := x2)
  have hK2 : StK K' := fun i c hc => by
    have hi : i < 96 := (List.getElem?_eq_some_iff.mp hc).1
    rw [hk _ (by omega)]
    exact hK i c hc
  have h8 := bA_96 hA
  have h9 := bS_96 hS
  have hs : fr (fun y k => 96 ≤ y ∨ (y = 0 ∧ k = 7) ∨ (70 ≤ y ∧ y ≤ 79) ∨ (y = 57 ∧ (k = 25 ∨ k = 32))) V V2 := fr_mo hf (fun y k q => by unfold frNew at q; omega)
  have hA2 : bA nA n'.1 aa ofn qq K' O' V2 := bA_g hA k1 (fun i hi z => IsAk_k z (hA.2.2.2 i hi) hk) (fun _ => ho _ _ (by decide)) (fr_mo hf (fun y k q => by
    unfold frNew at q
    refine ⟨by omega, by omega, by omega, fun i hi => ?_⟩
    have h1 := hA.2.2.2 i hi
    have h2 := h8 i hi
    unfold aCl
    omega))
  have hB2 : bB nA n'.1 aa K' O' V2 := bB_fr hB k1 (fun z => IsAk_k z hB.1.1.2.2.2 hk) (ho _ _ (by decide)) (fr_mo hf (fun y k q => by
    have h1 := hB.1.1.2.2.1
    have h2 := hB.1.1.2.2.2
    unfold frNew at q
    omega))
  have hX2 : ∃ T, TX nS' ad' O' T V2 := TX_g hX g6 (fun i hi => (g4 i hi).1) (ho _ _ (by decide)) (fr_mo hf (fun y k q => by
    unfold frNew at q
    refine ⟨by omega, by omega, fun i hi => ?_⟩
    have h1 := hS.2.2 i hi
    have h2 := h9 i hi
    have hz := sz_ge (kd := kd i)
    omega))
  have hP2 : AP nS' (nA + 1) ad' kd' aa := fun i j hi hj => by
    by_cases hi2 : i < nS
    · rw [(g4 i hi2).1, (g4 i hi2).2.1]
      exact hPB i j hi2 hj
    · rw [g5 i (by omega) hi]
      by_cases hj2 : j < nA
      · exact Or.inl (hA.2.2.2 j hj2)
      · rw [show j = nA by omega]
        exact Or.inl hB.1.1.2.2.2
  exact ⟨r, K', n', V1, J, O', K', n', V2, J, O', e1, e2, hK2, ⟨⟨k1, k3⟩, ⟨Nat.le_refl _, Nat.le_refl _⟩, by omega, by omega⟩, ⟨⟨hK2, Nat.le_trans h96 k1⟩, nT, nG, fl, ins, wt, nS', ad', kd', ky', x', nA, aa, ofn, qq, bT_fr hT (fr_mo hs (fun y k q => by omega)), ⟨g1, g2, g3⟩, hA2, hB2, hP2, hX2, ShR_g hH g6 g1.1.1 (fun i hi => (g4 i hi).1) (fun _ => ho _ _ (by decide)) (fr_mo hs (fun y k q => by omega)), iW_fr hW (fr_mo hs (fun y k q => by omega)), iL_fr hL (fr_mo hs (fun y k q => by omega)), iP_fr hTp (fr_mo hs (fun y k q => by omega)), iD_fr hD (fr_mo hs (fun y k q => by omega)), iC_fr hC (fr_mo hs (fun y k q => by omega)), iY_fr hY (fr_mo hs (fun y k q => by omega)), iR_fr hR (fr_mo hs (fun y k q => by omega))⟩⟩
end
