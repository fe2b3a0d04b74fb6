section
variable {G : Gp} {d : Nat} {K : SK} {n : Nat × Nat} {V V' : SV} {J J' : SJV} {O O' : SO} {r : Option Value}
theorem wX0_readFrom_0 {a0 : Nat} {a1 : Nat} {N1 : Nat} {x2 : Int32} (hK : StK K) (hq0 : IsAk K a0) (hn1 : K a1 = some (arI N1)) (hv : Ev G (d + 1) mX0_readFrom 10 [(0, .ref a0), (1, .ref a1), (2, .int x2), (3, .int (0 : Int32)), (4, .int (0 : Int32))] (K, n, (up2 V a0 4 (0 : Int32)), J, O) r (K, n, V', J, O)) : Ev G (d + 1) mX0_readFrom 0 [(0, .ref a0), (1, .ref a1), (2, .int x2)] (K, n, V, J, O) r (K, n, V', J, O) := by
  refine Ev.mk fun Q hq => ?_
  refine wp_aload_n (i := 0) dX0_readFrom_0 rfl rfl ?_
  refine wp_iconst (v := 0) dX0_readFrom_1 (by decide) ?_
  refine wz_putI dX0_readFrom_2 (ak_0 hq0) (w0_25 _ (by decide)) rfl ?_
  refine wp_iconst (v := 0) dX0_readFrom_5 (by decide) ?_
  refine wx_istore_n (ls' := [(0, .ref a0), (1, .ref a1), (2, .int x2), (3, .int (0 : Int32))]) (i := 3) dX0_readFrom_6 rfl (by decide) rfl ?_
  refine wp_iconst (v := 0) dX0_readFrom_7 (by decide) ?_
  refine wx_istore (ls' := [(0, .ref a0), (1, .ref a1), (2, .int x2), (3, .int (0 : Int32)), (4, .int (0 : Int32))]) dX0_readFrom_8 (by decide) rfl ?_
  exact hv Q hq
theorem wX0_readFrom_10 {a0 : Nat} {a1 : Nat} {N1 : Nat} {x2 : Int32} {x3 : Int32} {x4 : Int32} (hK : StK K) (hq0 : IsAk K a0) (hn1 : K a1 = some (arI N1)) (hv : ((x2 ≤ x4 → ((x3 ≠ (8 : Int32) → (r = some (.int x2) ∧ V' = V)) ∧ (x3 = (8 : Int32) → (r = some (.int (-1 : Int32)) ∧ V' = V)))) ∧ (¬ x2 ≤ x4 → (vp_in x4 N1 ∧ (∃ (v3 : Int32) (V2 : SV), Ev G d mX0_stateAfter 0 [(0, .ref a0), (1, .int x3), (2, .int (V a1 (x4).toNatClampNeg))] (K, n, V, J, O) (some (.int v3)) (K, n, V2, J, O) ∧ ((v3 ≠ (-1 : Int32) → Ev G (d + 1) mX0_readFrom 10 [(0, .ref a0), (1, .ref a1), (2, .int x2), (3, .int v3), (4, .int (x4 + 1))] (K, n, V2, J, O) r (K, n, V', J, O)) ∧ (v3 = (-1 : Int32) → (r = some (.int x4) ∧ V' = V2)))))))) : Ev G (d + 1) mX0_readFrom 10 [(0, .ref a0), (1, .ref a1), (2, .int x2), (3, .int x3), (4, .int x4)] (K, n, V, J, O) r (K, n, V', J, O) := by
  refine Ev.mk fun Q hq => ?_
  refine wp_iload dX0_readFrom_10 rfl ?_
  refine wp_iload_n (i := 2) dX0_readFrom_12 rfl rfl ?_
  refine wp_icmp_ge 40 dX0_readFrom_13 (by decide) (fun q => ?_) (fun q => ?_)
  · replace hv := hv.1 q
    refine wp_iload_n (i := 3) dX0_readFrom_40 rfl rfl ?_
    refine wp_bipush (v := 8) dX0_readFrom_41 (by decide) ?_
    refine wp_icmp_ne 50 dX0_readFrom_43 (by decide) (fun q => ?_) (fun q => ?_)
    · replace hv := hv.1 q
      refine wp_iload_n (i := 2) dX0_readFrom_50 rfl rfl ?_
      obtain ⟨rfl, rfl⟩ := hv
      exact wp_ireturn dX0_readFrom_51 rfl rfl rfl hq
    · replace hv := hv.2 q
      refine wp_iconst (v := -1) dX0_readFrom_46 (by decide) ?_
      refine wp_goto 51 dX0_readFrom_47 (by decide) ?_
      obtain ⟨rfl, rfl⟩ := hv
      exact wp_ireturn dX0_readFrom_51 rfl rfl rfl hq
  · replace hv := hv.2 q
    refine wp_aload_n (i := 0) dX0_readFrom_16 rfl rfl ?_
    refine wp_iload_n (i := 3) dX0_readFrom_17 rfl rfl ?_
    refine wp_aload_n (i := 1) dX0_readFrom_18 rfl rfl ?_
    refine wp_iload dX0_readFrom_19 rfl ?_
    obtain ⟨z1, hv⟩ := hv
    refine wz_iaload dX0_readFrom_21 hn1 z1 ?_
    obtain ⟨v3, V2, hE, hv⟩ := hv
    refine wz_callV (vs := [.int x3, .int (V a1 (x4).toNatClampNeg)]) (st := []) dX0_readFrom_22 (ak_0 hq0) rfl k0_28_0 hE rfl (Nat.le_of_ble_eq_true rfl) (Nat.le_of_ble_eq_true rfl) ?_
    change wp _ _ _ _ _ [.int v3] _ _ _
    refine wx_istore_n (ls' := [(0, .ref a0), (1, .ref a1), (2, .int x2), (3, .int v3), (4, .int x4)]) (i := 3) dX0_readFrom_25 rfl (by decide) rfl ?_
    refine wp_iload_n (i := 3) dX0_readFrom_26 rfl rfl ?_
    refine wp_iconst (v := -1) dX0_readFrom_27 (by decide) ?_
    refine wp_icmp_ne 34 dX0_readFrom_28 (by decide) (fun q => ?_) (fun q => ?_)
    · replace hv := hv.1 q
      refine wx_iinc (v := 1) (ls' := [(0, .ref a0), (1, .ref a1), (2, .int x2), (3, .int v3), (4, .int (x4 + 1))]) dX0_readFrom_34 rfl (by decide) (by decide) rfl ?_
      refine wp_goto 10 dX0_readFrom_37 (by decide) ?_
      exact hv Q hq
    · replace hv := hv.2 q
      refine wp_iload dX0_readFrom_31 rfl ?_
      obtain ⟨rfl, rfl⟩ := hv
      exact wp_ireturn dX0_readFrom_33 rfl rfl rfl hq
theorem wX0_stateAfter_0 {a0 : Nat} {x1 : Int32} {x2 : Int32} (hK : StK K) (hq0 : IsAk K a0) (hv : ((x1 = (0 : Int32) → ((x2 ≠ (58 : Int32) → (∃ (v2 : Int32) (V1 : SV), Ev G d mX0_readField 0 [(0, .ref a0), (1, .int x2)] (K, n, V, J, O) (some (.int v2)) (K, n, V1, J, O) ∧ (r = some (.int v2) ∧ V' = V1))) ∧ (x2 = (58 : Int32) → (r = some (.int (6 : Int32)) ∧ V' = V)))) ∧ (x1 = (1 : Int32) → (∃ (v4 : Int32) (V3 : SV), Ev G d mX0_readField 0 [(0, .ref a0), (1, .int x2)] (K, n, V, J, O) (some (.int v4)) (K, n, V3, J, O) ∧ (r = some (.int v4) ∧ V' = V3))) ∧ (x1 = (2 : Int32) → (∃ (v6 : Int32) (V5 : SV), Ev G d mX0_readSign 0 [(0, .ref a0), (1, .int x2)] (K, n, V, J, O) (some (.int v6)) (K, n, V5, J, O) ∧ (r = some (.int v6) ∧ V' = V5))) ∧ (x1 = (3 : Int32) → (∃ (v8 : Int32) (V7 : SV), Ev G d mX0_readValue 0 [(0, .ref a0), (1, .int x2)] (K, n, V, J, O) (some (.int v8)) (K, n, V7, J, O) ∧ (r = some (.int v8) ∧ V' = V7))) ∧ (x1 = (4 : Int32) → (∃ (v10 : Int32) (V9 : SV), Ev G d mX0_readDigit 0 [(0, .ref a0), (1, .int x2)] (K, n, V, J, O) (some (.int v10)) (K, n, V9, J, O) ∧ (r = some (.int v10) ∧ V' = V9))) ∧ (x1 = (5 : Int32) → ((x2 ≠ (38 : Int32) → ((x2 ≠ (58 : Int32) → (r = some (.int (-1 : Int32)) ∧ V' = V)) ∧ (x2 = (58 : Int32) → (r = some (.int (6 : Int32)) ∧ V' = V)))) ∧ (x2 = (38 : Int32) → (r = some (.int (1 : Int32)) ∧ V' = V)))) ∧ (x1 = (6 : Int32) → (∃ (v12 : Int32) (V11 : SV), Ev G d mX0_readOutcome 0 [(0, .ref a0), (1, .int x2)] (K, n, V, J, O) (some (.int v12)) (K, n, V11, J, O) ∧ (r = some (.int v12) ∧ V' = V11))) ∧ (x1 = (7 : Int32) → (∃ (v14 : Int32) (V13 : SV), Ev G d mX0_readOutField 0 [(0, .ref a0), (1, .int x2)] (K, n, V, J, O) (some (.int v14)) (K, n, V13, J, O) ∧ (r = some (.int v14) ∧ V' = V13))) ∧ ((¬ x1 = (0 : Int32) ∧ ¬ x1 = (1 : Int32) ∧ ¬ x1 = (2 : Int32) ∧ ¬ x1 = (3 : Int32) ∧ ¬ x1 = (4 : Int32) ∧ ¬ x1 = (5 : Int32) ∧ ¬ x1 = (6 : Int32) ∧ ¬ x1 = (7 : Int32)) → (r = some (.int (-1 : Int32)) ∧ V' = V)))) : Ev G (d + 1) mX0_stateAfter 0 [(0, .ref a0), (1, .int x1), (2, .int x2)] (K, n, V, J, O) r (K, n, V', J, O) := by
  refine Ev.mk fun Q hq => ?_
  refine wp_iload_n (i := 1) dX0_stateAfter_0 rfl rfl ?_
  by_cases q0 : x1 = (0 : Int32)
  · refine wx_tableIn (off := 47) (0 : Int32) q0 48 dX0_stateAfter_1 (by decide) (by decide) (by decide +kernel) (by decide) ?_
    replace hv := hv.1 q0
    refine wp_iload_n (i := 2) dX0_stateAfter_48 rfl rfl ?_
    refine wp_bipush (v := 58) dX0_stateAfter_49 (by decide) ?_
    refine wp_icmp_ne 59 dX0_stateAfter_51 (by decide) (fun q => ?_) (fun q => ?_)
    · replace hv := hv.1 q
      refine wp_aload_n (i := 0) dX0_stateAfter_59 rfl rfl ?_
      refine wp_iload_n (i := 2) dX0_stateAfter_60 rfl rfl ?_
      obtain ⟨v2, V1, hE, hv⟩ := hv
      refine wz_callV (vs := [.int x2]) (st := []) dX0_stateAfter_61 (ak_0 hq0) rfl k0_32_0 hE rfl (Nat.le_of_ble_eq_true rfl) (Nat.le_of_ble_eq_true rfl) ?_
      change wp _ _ _ _ _ [.int v2] _ _ _
      obtain ⟨rfl, rfl⟩ := hv
      exact wp_ireturn dX0_stateAfter_64 rfl rfl rfl hq
    · replace hv := hv.2 q
      refine wp_bipush (v := 6) dX0_stateAfter_54 (by decide) ?_
      refine wp_goto 64 dX0_stateAfter_56 (by decide) ?_
      obtain ⟨rfl, rfl⟩ := hv
      exact wp_ireturn dX0_stateAfter_64 rfl rfl rfl hq
  by_cases q1 : x1 = (1 : Int32)
  · refine wx_tableIn (off := 64) (1 : Int32) q1 65 dX0_stateAfter_1 (by decide) (by decide) (by decide +kernel) (by decide) ?_
    replace hv := hv.2.1 q1
    refine wp_aload_n (i := 0) dX0_stateAfter_65 rfl rfl ?_
    refine wp_iload_n (i := 2) dX0_stateAfter_66 rfl rfl ?_
    obtain ⟨v4, V3, hE, hv⟩ := hv
    refine wz_callV (vs := [.int x2]) (st := []) dX0_stateAfter_67 (ak_0 hq0) rfl k0_32_0 hE rfl (Nat.le_of_ble_eq_true rfl) (Nat.le_of_ble_eq_true rfl) ?_
    change wp _ _ _ _ _ [.int v4] _ _ _
    obtain ⟨rfl, rfl⟩ := hv
    exact wp_ireturn dX0_stateAfter_70 rfl rfl rfl hq
  by_cases q2 : x1 = (2 : Int32)
  · refine wx_tableIn (off := 70) (2 : Int32) q2 71 dX0_stateAfter_1 (by decide) (by decide) (by decide +kernel) (by decide) ?_
    replace hv := hv.2.2.1 q2
    refine wp_aload_n (i := 0) dX0_stateAfter_71 rfl rfl ?_
    refine wp_iload_n (i := 2) dX0_stateAfter_72 rfl rfl ?_
    obtain ⟨v6, V5, hE, hv⟩ := hv
    refine wz_callV (vs := [.int x2]) (st := []) dX0_stateAfter_73 (ak_0 hq0) rfl k0_36_0 hE rfl (Nat.le_of_ble_eq_true rfl) (Nat.le_of_ble_eq_true rfl) ?_
    change wp _ _ _ _ _ [.int v6] _ _ _
    obtain ⟨rfl, rfl⟩ := hv
    exact wp_ireturn dX0_stateAfter_76 rfl rfl rfl hq
  by_cases q3 : x1 = (3 : Int32)
  · refine wx_tableIn (off := 76) (3 : Int32) q3 77 dX0_stateAfter_1 (by decide) (by decide) (by decide +kernel) (by decide) ?_
    replace hv := hv.2.2.2.1 q3
    refine wp_aload_n (i := 0) dX0_stateAfter_77 rfl rfl ?_
    refine wp_iload_n (i := 2) dX0_stateAfter_78 rfl rfl ?_
    obtain ⟨v8, V7, hE, hv⟩ := hv
    refine wz_callV (vs := [.int x2]) (st := []) dX0_stateAfter_79 (ak_0 hq0) rfl k0_39_0 hE rfl (Nat.le_of_ble_eq_true rfl) (Nat.le_of_ble_eq_true rfl) ?_
    change wp _ _ _ _ _ [.int v8] _ _ _
    obtain ⟨rfl, rfl⟩ := hv
    exact wp_ireturn dX0_stateAfter_82 rfl rfl rfl hq
  by_cases q4 : x1 = (4 : Int32)
  · refine wx_tableIn (off := 82) (4 : Int32) q4 83 dX0_stateAfter_1 (by decide) (by decide) (by decide +kernel) (by decide) ?_
    replace hv := hv.2.2.2.2.1 q4
    refine wp_aload_n (i := 0) dX0_stateAfter_83 rfl rfl ?_
    refine wp_iload_n (i := 2) dX0_stateAfter_84 rfl rfl ?_
    obtain ⟨v10, V9, hE, hv⟩ := hv
    refine wz_callV (vs := [.int x2]) (st := []) dX0_stateAfter_85 (ak_0 hq0) rfl k0_42_0 hE rfl (Nat.le_of_ble_eq_true rfl) (Nat.le_of_ble_eq_true rfl) ?_
    change wp _ _ _ _ _ [.int v10] _ _ _
    obtain ⟨rfl, rfl⟩ := hv
    exact wp_ireturn dX0_stateAfter_88 rfl rfl rfl hq
  by_cases q5 : x1 = (5 : Int32)
  · refine wx_tableIn (off := 88) (5 : Int32) q5 89 dX0_stateAfter_1 (by decide) (by decide) (by decide +kernel) (by decide) ?_
    replace hv := hv.2.2.2.2.2.1 q5
    refine wp_iload_n (i := 2) dX0_stateAfter_89 rfl rfl ?_
    refine wp_bipush (v := 38) dX0_stateAfter_90 (by decide) ?_
    refine wp_icmp_ne 99 dX0_stateAfter_92 (by decide) (fun q => ?_) (fun q => ?_)
    · replace hv := hv.1 q
      refine wp_iload_n (i := 2) dX0_stateAfter_99 rfl rfl ?_
      refine wp_bipush (v := 58) dX0_stateAfter_100 (by decide) ?_
      refine wp_icmp_ne 110 dX0_stateAfter_102 (by decide) (fun q => ?_) (fun q => ?_)
      · replace hv := hv.1 q
        refine wp_iconst (v := -1) dX0_stateAfter_110 (by decide) ?_
        obtain ⟨rfl, rfl⟩ := hv
        exact wp_ireturn dX0_stateAfter_111 rfl rfl rfl hq
      · replace hv := hv.2 q
        refine wp_bipush (v := 6) dX0_stateAfter_105 (by decide) ?_
        refine wp_goto 111 dX0_stateAfter_107 (by decide) ?_
        obtain ⟨rfl, rfl⟩ := hv
        exact wp_ireturn dX0_stateAfter_111 rfl rfl rfl hq
    · replace hv := hv.2 q
      refine wp_iconst (v := 1) dX0_stateAfter_95 (by decide) ?_
      refine wp_goto 111 dX0_stateAfter_96 (by decide) ?_
      obtain ⟨rfl, rfl⟩ := hv
      exact wp_ireturn dX0_stateAfter_111 rfl rfl rfl hq
  by_cases q6 : x1 = (6 : Int32)
  · refine wx_tableIn (off := 111) (6 : Int32) q6 112 dX0_stateAfter_1 (by decide) (by decide) (by decide +kernel) (by decide) ?_
    replace hv := hv.2.2.2.2.2.2.1 q6
    refine wp_aload_n (i := 0) dX0_stateAfter_112 rfl rfl ?_
    refine wp_iload_n (i := 2) dX0_stateAfter_113 rfl rfl ?_
    obtain ⟨v12, V11, hE, hv⟩ := hv
    refine wz_callV (vs := [.int x2]) (st := []) dX0_stateAfter_114 (ak_0 hq0) rfl k0_45_0 hE rfl (Nat.le_of_ble_eq_true rfl) (Nat.le_of_ble_eq_true rfl) ?_
    change wp _ _ _ _ _ [.int v12] _ _ _
    obtain ⟨rfl, rfl⟩ := hv
    exact wp_ireturn dX0_stateAfter_117 rfl rfl rfl hq
  by_cases q7 : x1 = (7 : Int32)
  · refine wx_tableIn (off := 117) (7 : Int32) q7 118 dX0_stateAfter_1 (by decide) (by decide) (by decide +kernel) (by decide) ?_
    replace hv := hv.2.2.2.2.2.2.2.1 q7
    refine wp_aload_n (i := 0) dX0_stateAfter_118 rfl rfl ?_
    refine wp_iload_n (i := 2) dX0_stateAfter_119 rfl rfl ?_
    obtain ⟨v14, V13, hE, hv⟩ := hv
    refine wz_callV (vs := [.int x2]) (st := []) dX0_stateAfter_120 (ak_0 hq0) rfl k0_48_0 hE rfl (Nat.le_of_ble_eq_true rfl) (Nat.le_of_ble_eq_true rfl) ?_
    change wp _ _ _ _ _ [.int v14] _ _ _
    obtain ⟨rfl, rfl⟩ := hv
    exact wp_ireturn dX0_stateAfter_123 rfl rfl rfl hq
  refine wp_tableOut 124 dX0_stateAfter_1 (by have n0 := lv_neT q0 (show ((0 : Int32)).toInt = 0 by decide); have n1 := lv_neT q1 (show ((1 : Int32)).toInt = 1 by decide); have n2 := lv_neT q2 (show ((2 : Int32)).toInt = 2 by decide); have n3 := lv_neT q3 (show ((3 : Int32)).toInt = 3 by decide); have n4 := lv_neT q4 (show ((4 : Int32)).toInt = 4 by decide); have n5 := lv_neT q5 (show ((5 : Int32)).toInt = 5 by decide); have n6 := lv_neT q6 (show ((6 : Int32)).toInt = 6 by decide); have n7 := lv_neT q7 (show ((7 : Int32)).toInt = 7 by decide); omega) (by decide) ?_
  replace hv := hv.2.2.2.2.2.2.2.2 ⟨q0, q1, q2, q3, q4, q5, q6, q7⟩
  refine wp_iconst (v := -1) dX0_stateAfter_124 (by decide) ?_
  obtain ⟨rfl, rfl⟩ := hv
  exact wp_ireturn dX0_stateAfter_125 rfl rfl rfl hq
theorem wX0_readField_0 {a0 : Nat} {x1 : Int32} (hK : StK K) (hq0 : IsAk K a0) (hv : (∃ (v1 : Int32), Ev G d mX11_isWithin 0 [(0, .int x1), (1, .int (48 : Int32)), (2, .int (51 : Int32))] (K, n, V, J, O) (some (.int v1)) (K, n, V, J, O) ∧ ((v1 = 0 → (r = some (.int (-1 : Int32)) ∧ V' = V)) ∧ (¬ v1 = 0 → (((V a0 4) < (15 : Int32) → (vp_in (V a0 4) 15 ∧ (r = some (.int (2 : Int32)) ∧ V' = (up2 V (a0 + 1) ((V a0 4)).toNatClampNeg (x1 - (48 : Int32)))))) ∧ (¬ (V a0 4) < (15 : Int32) → (r = some (.int (-1 : Int32)) ∧ V' = V))))))) : Ev G (d + 1) mX0_readField 0 [(0, .ref a0), (1, .int x1)] (K, n, V, J, O) r (K, n, V', J, O) := by
  refine Ev.mk fun Q hq => ?_
  refine wp_iload_n (i := 1) dX0_readField_0 rfl rfl ?_
  refine wp_bipush (v := 48) dX0_readField_1 (by decide) ?_
  refine wp_bipush (v := 51) dX0_readField_3 (by decide) ?_
  obtain ⟨v1, hE, hv⟩ := hv
  refine wz_callSN (vs := [.int x1, .int (48 : Int32), .int (51 : Int32)]) (st := []) dX0_readField_5 k0_51 hE rfl (Nat.le_of_ble_eq_true rfl) (Nat.le_of_ble_eq_true rfl) ?_
  change wp _ _ _ _ _ [.int v1] _ _ _
  refine wp_if_eq 20 dX0_readField_8 (by decide) (fun q => ?_) (fun q => ?_)
  · replace hv := hv.1 q
    refine wp_iconst (v := -1) dX0_readField_20 (by decide) ?_
    obtain ⟨rfl, rfl⟩ := hv
    exact wp_ireturn dX0_readField_21 rfl rfl rfl hq
  · replace hv := hv.2 q
    refine wp_aload_n (i := 0) dX0_readField_11 rfl rfl ?_
    refine wz_getI dX0_readField_12 (ak_0 hq0) (f0_25 _ (by decide)) rfl ?_
    refine wp_bipush (v := 15) dX0_readField_15 (by decide) ?_
    refine wp_icmp_lt 22 dX0_readField_17 (by decide) (fun q => ?_) (fun q => ?_)
    · replace hv := hv.1 q
      refine wp_aload_n (i := 0) dX0_readField_22 rfl rfl ?_
      refine wz_getR (b := (a0 + 1)) dX0_readField_23 (ak_0 hq0) (f0_15 _ (by decide)) rfl ?_
      refine wp_aload_n (i := 0) dX0_readField_26 rfl rfl ?_
      refine wz_getI dX0_readField_27 (ak_0 hq0) (f0_25 _ (by decide)) rfl ?_
      refine wp_iload_n (i := 1) dX0_readField_30 rfl rfl ?_
      refine wp_bipush (v := 48) dX0_readField_31 (by decide) ?_
      refine wp_isub dX0_readField_33 ?_
      obtain ⟨z2, hv⟩ := hv
      refine wz_iastore dX0_readField_34 (ak_1 hq0) z2 ?_
      refine wp_iconst (v := 2) dX0_readField_35 (by decide) ?_
      obtain ⟨rfl, rfl⟩ := hv
      exact wp_ireturn dX0_readField_36 rfl rfl rfl hq
    · replace hv := hv.2 q
      refine wp_iconst (v := -1) dX0_readField_20 (by decide) ?_
      obtain ⟨rfl, rfl⟩ := hv
      exact wp_ireturn dX0_readField_21 rfl rfl rfl hq
theorem wX0_readSign_0 {a0 : Nat} {x1 : Int32} (hK : StK K) (hq0 : IsAk K a0) (hv : ((x1 = (61 : Int32) → (vp_in (V a0 4) 15 ∧ (r = some (.int (3 : Int32)) ∧ V' = (up2 V (a0 + 2) ((V a0 4)).toNatClampNeg x1)))) ∧ (¬ x1 = (61 : Int32) → ((x1 = (60 : Int32) → (vp_in (V a0 4) 15 ∧ (r = some (.int (3 : Int32)) ∧ V' = (up2 V (a0 + 2) ((V a0 4)).toNatClampNeg x1)))) ∧ (¬ x1 = (60 : Int32) → ((x1 = (62 : Int32) → (vp_in (V a0 4) 15 ∧ (r = some (.int (3 : Int32)) ∧ V' = (up2 V (a0 + 2) ((V a0 4)).toNatClampNeg x1)))) ∧ (¬ x1 = (62 : Int32) → (r = some (.int (-1 : Int32)) ∧ V' = V)))))))) : Ev G d mX0_readSign 0 [(0, .ref a0), (1, .int x1)] (K, n, V, J, O) r (K, n, V', J, O) := by
  refine Ev.mk fun Q hq => ?_
  refine wp_iload_n (i := 1) dX0_readSign_0 rfl rfl ?_
  refine wp_bipush (v := 61) dX0_readSign_1 (by decide) ?_
  refine wp_icmp_eq 20 dX0_readSign_3 (by decide) (fun q => ?_) (fun q => ?_)
  · replace hv := hv.1 q
    refine wp_aload_n (i := 0) dX0_readSign_20 rfl rfl ?_
    refine wz_getR (b := (a0 + 2)) dX0_readSign_21 (ak_0 hq0) (f0_19 _ (by decide)) rfl ?_
    refine wp_aload_n (i := 0) dX0_readSign_24 rfl rfl ?_
    refine wz_getI dX0_readSign_25 (ak_0 hq0) (f0_25 _ (by decide)) rfl ?_
    refine wp_iload_n (i := 1) dX0_readSign_28 rfl rfl ?_
    obtain ⟨z1, hv⟩ := hv
    refine wz_iastore dX0_readSign_29 (ak_2 hq0) z1 ?_
    refine wp_iconst (v := 3) dX0_readSign_30 (by decide) ?_
    obtain ⟨rfl, rfl⟩ := hv
    exact wp_ireturn dX0_readSign_31 rfl rfl rfl hq
  · replace hv := hv.2 q
    refine wp_iload_n (i := 1) dX0_readSign_6 rfl rfl ?_
    refine wp_bipush (v := 60) dX0_readSign_7 (by decide) ?_
    refine wp_icmp_eq 20 dX0_readSign_9 (by decide) (fun q => ?_) (fun q => ?_)
    · replace hv := hv.1 q
      refine wp_aload_n (i := 0) dX0_readSign_20 rfl rfl ?_
      refine wz_getR (b := (a0 + 2)) dX0_readSign_21 (ak_0 hq0) (f0_19 _ (by decide)) rfl ?_
      refine wp_aload_n (i := 0) dX0_readSign_24 rfl rfl ?_
      refine wz_getI dX0_readSign_25 (ak_0 hq0) (f0_25 _ (by decide)) rfl ?_
      refine wp_iload_n (i := 1) dX0_readSign_28 rfl rfl ?_
      obtain ⟨z2, hv⟩ := hv
      refine wz_iastore dX0_readSign_29 (ak_2 hq0) z2 ?_
      refine wp_iconst (v := 3) dX0_readSign_30 (by decide) ?_
      obtain ⟨rfl, rfl⟩ := hv
      exact wp_ireturn dX0_readSign_31 rfl rfl rfl hq
    · replace hv := hv.2 q
      refine wp_iload_n (i := 1) dX0_readSign_12 rfl rfl ?_
      refine wp_bipush (v := 62) dX0_readSign_13 (by decide) ?_
      refine wp_icmp_eq 20 dX0_readSign_15 (by decide) (fun q => ?_) (fun q => ?_)
      · replace hv := hv.1 q
        refine wp_aload_n (i := 0) dX0_readSign_20 rfl rfl ?_
        refine wz_getR (b := (a0 + 2)) dX0_readSign_21 (ak_0 hq0) (f0_19 _ (by decide)) rfl ?_
        refine wp_aload_n (i := 0) dX0_readSign_24 rfl rfl ?_
        refine wz_getI dX0_readSign_25 (ak_0 hq0) (f0_25 _ (by decide)) rfl ?_
        refine wp_iload_n (i := 1) dX0_readSign_28 rfl rfl ?_
        obtain ⟨z3, hv⟩ := hv
        refine wz_iastore dX0_readSign_29 (ak_2 hq0) z3 ?_
        refine wp_iconst (v := 3) dX0_readSign_30 (by decide) ?_
        obtain ⟨rfl, rfl⟩ := hv
        exact wp_ireturn dX0_readSign_31 rfl rfl rfl hq
      · replace hv := hv.2 q
        refine wp_iconst (v := -1) dX0_readSign_18 (by decide) ?_
        obtain ⟨rfl, rfl⟩ := hv
        exact wp_ireturn dX0_readSign_19 rfl rfl rfl hq
theorem wX0_readValue_0 {a0 : Nat} {x1 : Int32} (hK : StK K) (hq0 : IsAk K a0) (hv : (∃ (v1 : Int32), Ev G d mX11_isWithin 0 [(0, .int x1), (1, .int (48 : Int32)), (2, .int (57 : Int32))] (K, n, V, J, O) (some (.int v1)) (K, n, V, J, O) ∧ ((v1 = 0 → ((x1 = (97 : Int32) → ((x1 ≠ (97 : Int32) → (vp_in (V a0 4) 15 ∧ (r = some (.int (5 : Int32)) ∧ V' = (up2 (up2 V (a0 + 3) ((V a0 4)).toNatClampNeg (101 : Int32)) a0 4 (((up2 V (a0 + 3) ((V a0 4)).toNatClampNeg (101 : Int32)) a0 4) + (1 : Int32)))))) ∧ (x1 = (97 : Int32) → (vp_in (V a0 4) 15 ∧ (r = some (.int (5 : Int32)) ∧ V' = (up2 (up2 V (a0 + 3) ((V a0 4)).toNatClampNeg (100 : Int32)) a0 4 (((up2 V (a0 + 3) ((V a0 4)).toNatClampNeg (100 : Int32)) a0 4) + (1 : Int32)))))))) ∧ (¬ x1 = (97 : Int32) → ((x1 = (98 : Int32) → ((x1 ≠ (97 : Int32) → (vp_in (V a0 4) 15 ∧ (r = some (.int (5 : Int32)) ∧ V' = (up2 (up2 V (a0 + 3) ((V a0 4)).toNatClampNeg (101 : Int32)) a0 4 (((up2 V (a0 + 3) ((V a0 4)).toNatClampNeg (101 : Int32)) a0 4) + (1 : Int32)))))) ∧ (x1 = (97 : Int32) → (vp_in (V a0 4) 15 ∧ (r = some (.int (5 : Int32)) ∧ V' = (up2 (up2 V (a0 + 3) ((V a0 4)).toNatClampNeg (100 : Int32)) a0 4 (((up2 V (a0 + 3) ((V a0 4)).toNatClampNeg (100 : Int32)) a0 4) + (1 : Int32)))))))) ∧ (¬ x1 = (98 : Int32) → (r = some (.int (-1 : Int32)) ∧ V' = V)))))) ∧ (¬ v1 = 0 → (vp_in (V a0 4) 15 ∧ (r = some (.int (4 : Int32)) ∧ V' = (up2 V (a0 + 3) ((V a0 4)).toNatClampNeg ((x1 - (48 : Int32)) * (10 : Int32))))))))) : Ev G (d + 1) mX0_readValue 0 [(0, .ref a0), (1, .int x1)] (K, n, V, J, O) r (K, n, V', J, O) := by
  refine Ev.mk fun Q hq => ?_
  refine wp_iload_n (i := 1) dX0_readValue_0 rfl rfl ?_
  refine wp_bipush (v := 48) dX0_readValue_1 (by decide) ?_
  refine wp_bipush (v := 57) dX0_readValue_3 (by decide) ?_
  obtain ⟨v1, hE, hv⟩ := hv
  refine wz_callSN (vs := [.int x1, .int (48 : Int32), .int (57 : Int32)]) (st := []) dX0_readValue_5 k0_51 hE rfl (Nat.le_of_ble_eq_true rfl) (Nat.le_of_ble_eq_true rfl) ?_
  change wp _ _ _ _ _ [.int v1] _ _ _
  refine wp_if_eq 29 dX0_readValue_8 (by decide) (fun q => ?_) (fun q => ?_)
  · replace hv := hv.1 q
    refine wp_iload_n (i := 1) dX0_readValue_29 rfl rfl ?_
    refine wp_bipush (v := 97) dX0_readValue_30 (by decide) ?_
    refine wp_icmp_eq 43 dX0_readValue_32 (by decide) (fun q => ?_) (fun q => ?_)
    · replace hv := hv.1 q
      refine wp_aload_n (i := 0) dX0_readValue_43 rfl rfl ?_
      refine wz_getR (b := (a0 + 3)) dX0_readValue_44 (ak_0 hq0) (f0_22 _ (by decide)) rfl ?_
      refine wp_aload_n (i := 0) dX0_readValue_47 rfl rfl ?_
      refine wz_getI dX0_readValue_48 (ak_0 hq0) (f0_25 _ (by decide)) rfl ?_
      refine wp_iload_n (i := 1) dX0_readValue_51 rfl rfl ?_
      refine wp_bipush (v := 97) dX0_readValue_52 (by decide) ?_
      refine wp_icmp_ne 62 dX0_readValue_54 (by decide) (fun q => ?_) (fun q => ?_)
      · replace hv := hv.1 q
        refine wp_bipush (v := 101) dX0_readValue_62 (by decide) ?_
        obtain ⟨z2, hv⟩ := hv
        refine wz_iastore dX0_readValue_64 (ak_3 hq0) z2 ?_
        refine wp_aload_n (i := 0) dX0_readValue_65 rfl rfl ?_
        refine wp_dupR dX0_readValue_66 ?_
        refine wz_getI dX0_readValue_67 (ak_0 hq0) (f0_25 _ (by decide)) rfl ?_
        refine wp_iconst (v := 1) dX0_readValue_70 (by decide) ?_
        refine wp_iadd dX0_readValue_71 ?_
        refine wz_putI dX0_readValue_72 (ak_0 hq0) (w0_25 _ (by decide)) rfl ?_
        refine wp_iconst (v := 5) dX0_readValue_75 (by decide) ?_
        obtain ⟨rfl, rfl⟩ := hv
        exact wp_ireturn dX0_readValue_76 rfl rfl rfl hq
      · replace hv := hv.2 q
        refine wp_bipush (v := 100) dX0_readValue_57 (by decide) ?_
        refine wp_goto 64 dX0_readValue_59 (by decide) ?_
        obtain ⟨z3, hv⟩ := hv
        refine wz_iastore dX0_readValue_64 (ak_3 hq0) z3 ?_
        refine wp_aload_n (i := 0) dX0_readValue_65 rfl rfl ?_
        refine wp_dupR dX0_readValue_66 ?_
        refine wz_getI dX0_readValue_67 (ak_0 hq0) (f0_25 _ (by decide)) rfl ?_
        refine wp_iconst (v := 1) dX0_readValue_70 (by decide) ?_
        refine wp_iadd dX0_readValue_71 ?_
        refine wz_putI dX0_readValue_72 (ak_0 hq0) (w0_25 _ (by decide)) rfl ?_
        refine wp_iconst (v := 5) dX0_readValue_75 (by decide) ?_
        obtain ⟨rfl, rfl⟩ := hv
        exact wp_ireturn dX0_readValue_76 rfl rfl rfl hq
    · replace hv := hv.2 q
      refine wp_iload_n (i := 1) dX0_readValue_35 rfl rfl ?_
      refine wp_bipush (v := 98) dX0_readValue_36 (by decide) ?_
      refine wp_icmp_eq 43 dX0_readValue_38 (by decide) (fun q => ?_) (fun q => ?_)
      · replace hv := hv.1 q
        refine wp_aload_n (i := 0) dX0_readValue_43 rfl rfl ?_
        refine wz_getR (b := (a0 + 3)) dX0_readValue_44 (ak_0 hq0) (f0_22 _ (by decide)) rfl ?_
        refine wp_aload_n (i := 0) dX0_readValue_47 rfl rfl ?_
        refine wz_getI dX0_readValue_48 (ak_0 hq0) (f0_25 _ (by decide)) rfl ?_
        refine wp_iload_n (i := 1) dX0_readValue_51 rfl rfl ?_
        refine wp_bipush (v := 97) dX0_readValue_52 (by decide) ?_
        refine wp_icmp_ne 62 dX0_readValue_54 (by decide) (fun q => ?_) (fun q => ?_)
        · replace hv := hv.1 q
          refine wp_bipush (v := 101) dX0_readValue_62 (by decide) ?_
          obtain ⟨z4, hv⟩ := hv
          refine wz_iastore dX0_readValue_64 (ak_3 hq0) z4 ?_
          refine wp_aload_n (i := 0) dX0_readValue_65 rfl rfl ?_
          refine wp_dupR dX0_readValue_66 ?_
          refine wz_getI dX0_readValue_67 (ak_0 hq0) (f0_25 _ (by decide)) rfl ?_
          refine wp_iconst (v := 1) dX0_readValue_70 (by decide) ?_
          refine wp_iadd dX0_readValue_71 ?_
          refine wz_putI dX0_readValue_72 (ak_0 hq0) (w0_25 _ (by decide)) rfl ?_
          refine wp_iconst (v := 5) dX0_readValue_75 (by decide) ?_
          obtain ⟨rfl, rfl⟩ := hv
          exact wp_ireturn dX0_readValue_76 rfl rfl rfl hq
        · replace hv := hv.2 q
          refine wp_bipush (v := 100) dX0_readValue_57 (by decide) ?_
          refine wp_goto 64 dX0_readValue_59 (by decide) ?_
          obtain ⟨z5, hv⟩ := hv
          refine wz_iastore dX0_readValue_64 (ak_3 hq0) z5 ?_
          refine wp_aload_n (i := 0) dX0_readValue_65 rfl rfl ?_
          refine wp_dupR dX0_readValue_66 ?_
          refine wz_getI dX0_readValue_67 (ak_0 hq0) (f0_25 _ (by decide)) rfl ?_
          refine wp_iconst (v := 1) dX0_readValue_70 (by decide) ?_
          refine wp_iadd dX0_readValue_71 ?_
          refine wz_putI dX0_readValue_72 (ak_0 hq0) (w0_25 _ (by decide)) rfl ?_
          refine wp_iconst (v := 5) dX0_readValue_75 (by decide) ?_
          obtain ⟨rfl, rfl⟩ := hv
          exact wp_ireturn dX0_readValue_76 rfl rfl rfl hq
      · replace hv := hv.2 q
        refine wp_iconst (v := -1) dX0_readValue_41 (by decide) ?_
        obtain ⟨rfl, rfl⟩ := hv
        exact wp_ireturn dX0_readValue_42 rfl rfl rfl hq
  · replace hv := hv.2 q
    refine wp_aload_n (i := 0) dX0_readValue_11 rfl rfl ?_
    refine wz_getR (b := (a0 + 3)) dX0_readValue_12 (ak_0 hq0) (f0_22 _ (by decide)) rfl ?_
    refine wp_aload_n (i := 0) dX0_readValue_15 rfl rfl ?_
    refine wz_getI dX0_readValue_16 (ak_0 hq0) (f0_25 _ (by decide)) rfl ?_
    refine wp_iload_n (i := 1) dX0_readValue_19 rfl rfl ?_
    refine wp_bipush (v := 48) dX0_readValue_20 (by decide) ?_
    refine wp_isub dX0_readValue_22 ?_
    refine wp_bipush (v := 10) dX0_readValue_23 (by decide) ?_
    refine wp_imul dX0_readValue_25 ?_
    obtain ⟨z6, hv⟩ := hv
    refine wz_iastore dX0_readValue_26 (ak_3 hq0) z6 ?_
    refine wp_iconst (v := 4) dX0_readValue_27 (by decide) ?_
    obtain ⟨rfl, rfl⟩ := hv
    exact wp_ireturn dX0_readValue_28 rfl rfl rfl hq
theorem wX0_readDigit_0 {a0 : Nat} {x1 : Int32} (hK : StK K) (hq0 : IsAk K a0) (hv : (∃ (v1 : Int32), Ev G d mX11_isWithin 0 [(0, .int x1), (1, .int (48 : Int32)), (2, .int (57 : Int32))] (K, n, V, J, O) (some (.int v1)) (K, n, V, J, O) ∧ ((v1 ≠ 0 → (vp_in (V a0 4) 15 ∧ (vp_in (V a0 4) 15 ∧ (r = some (.int (5 : Int32)) ∧ V' = (up2 (up2 V (a0 + 3) ((V a0 4)).toNatClampNeg ((V (a0 + 3) ((V a0 4)).toNatClampNeg) + (x1 - (48 : Int32)))) a0 4 (((up2 V (a0 + 3) ((V a0 4)).toNatClampNeg ((V (a0 + 3) ((V a0 4)).toNatClampNeg) + (x1 - (48 : Int32)))) a0 4) + (1 : Int32))))))) ∧ (v1 = 0 → (r = some (.int (-1 : Int32)) ∧ V' = V))))) : Ev G (d + 1) mX0_readDigit 0 [(0, .ref a0), (1, .int x1)] (K, n, V, J, O) r (K, n, V', J, O) := by
  refine Ev.mk fun Q hq => ?_
  refine wp_iload_n (i := 1) dX0_readDigit_0 rfl rfl ?_
  refine wp_bipush (v := 48) dX0_readDigit_1 (by decide) ?_
  refine wp_bipush (v := 57) dX0_readDigit_3 (by decide) ?_
  obtain ⟨v1, hE, hv⟩ := hv
  refine wz_callSN (vs := [.int x1, .int (48 : Int32), .int (57 : Int32)]) (st := []) dX0_readDigit_5 k0_51 hE rfl (Nat.le_of_ble_eq_true rfl) (Nat.le_of_ble_eq_true rfl) ?_
  change wp _ _ _ _ _ [.int v1] _ _ _
  refine wp_if_ne 13 dX0_readDigit_8 (by decide) (fun q => ?_) (fun q => ?_)
  · replace hv := hv.1 q
    refine wp_aload_n (i := 0) dX0_readDigit_13 rfl rfl ?_
    refine wz_getR (b := (a0 + 3)) dX0_readDigit_14 (ak_0 hq0) (f0_22 _ (by decide)) rfl ?_
    refine wp_aload_n (i := 0) dX0_readDigit_17 rfl rfl ?_
    refine wz_getI dX0_readDigit_18 (ak_0 hq0) (f0_25 _ (by decide)) rfl ?_
    refine wp_dup2 dX0_readDigit_21 ?_
    obtain ⟨z2, hv⟩ := hv
    refine wz_iaload dX0_readDigit_22 (ak_3 hq0) z2 ?_
    refine wp_iload_n (i := 1) dX0_readDigit_23 rfl rfl ?_
    refine wp_bipush (v := 48) dX0_readDigit_24 (by decide) ?_
    refine wp_isub dX0_readDigit_26 ?_
    refine wp_iadd dX0_readDigit_27 ?_
    obtain ⟨z3, hv⟩ := hv
    refine wz_iastore dX0_readDigit_28 (ak_3 hq0) z3 ?_
    refine wp_aload_n (i := 0) dX0_readDigit_29 rfl rfl ?_
    refine wp_dupR dX0_readDigit_30 ?_
    refine wz_getI dX0_readDigit_31 (ak_0 hq0) (f0_25 _ (by decide)) rfl ?_
    refine wp_iconst (v := 1) dX0_readDigit_34 (by decide) ?_
    refine wp_iadd dX0_readDigit_35 ?_
    refine wz_putI dX0_readDigit_36 (ak_0 hq0) (w0_25 _ (by decide)) rfl ?_
    refine wp_iconst (v := 5) dX0_readDigit_39 (by decide) ?_
    obtain ⟨rfl, rfl⟩ := hv
    exact wp_ireturn dX0_readDigit_40 rfl rfl rfl hq
  · replace hv := hv.2 q
    refine wp_iconst (v := -1) dX0_readDigit_11 (by decide) ?_
    obtain ⟨rfl, rfl⟩ := hv
    exact wp_ireturn dX0_readDigit_12 rfl rfl rfl hq
theorem wX0_readOutcome_0 {a0 : Nat} {x1 : Int32} (hK : StK K) (hq0 : IsAk K a0) (hv : ((x1 ≠ (110 : Int32) → ((x1 = (109 : Int32) → (r = some (.int (7 : Int32)) ∧ V' = (up2 V a0 5 x1))) ∧ (¬ x1 = (109 : Int32) → ((x1 = (120 : Int32) → (r = some (.int (7 : Int32)) ∧ V' = (up2 V a0 5 x1))) ∧ (¬ x1 = (120 : Int32) → ((x1 ≠ (115 : Int32) → (r = some (.int (-1 : Int32)) ∧ V' = (up2 V a0 5 x1))) ∧ (x1 = (115 : Int32) → (r = some (.int (7 : Int32)) ∧ V' = (up2 V a0 5 x1))))))))) ∧ (x1 = (110 : Int32) → (r = some (.int (8 : Int32)) ∧ V' = (up2 V a0 5 x1))))) : Ev G d mX0_readOutcome 0 [(0, .ref a0), (1, .int x1)] (K, n, V, J, O) r (K, n, V', J, O) := by
  refine Ev.mk fun Q hq => ?_
  refine wp_aload_n (i := 0) dX0_readOutcome_0 rfl rfl ?_
  refine wp_iload_n (i := 1) dX0_readOutcome_1 rfl rfl ?_
  refine wz_putI dX0_readOutcome_2 (ak_0 hq0) (w0_55 _ (by decide)) rfl ?_
  refine wp_iload_n (i := 1) dX0_readOutcome_5 rfl rfl ?_
  refine wp_bipush (v := 110) dX0_readOutcome_6 (by decide) ?_
  refine wp_icmp_ne 14 dX0_readOutcome_8 (by decide) (fun q => ?_) (fun q => ?_)
  · replace hv := hv.1 q
    refine wp_iload_n (i := 1) dX0_readOutcome_14 rfl rfl ?_
    refine wp_bipush (v := 109) dX0_readOutcome_15 (by decide) ?_
    refine wp_icmp_eq 32 dX0_readOutcome_17 (by decide) (fun q => ?_) (fun q => ?_)
    · replace hv := hv.1 q
      refine wp_bipush (v := 7) dX0_readOutcome_32 (by decide) ?_
      refine wp_goto 38 dX0_readOutcome_34 (by decide) ?_
      obtain ⟨rfl, rfl⟩ := hv
      exact wp_ireturn dX0_readOutcome_38 rfl rfl rfl hq
    · replace hv := hv.2 q
      refine wp_iload_n (i := 1) dX0_readOutcome_20 rfl rfl ?_
      refine wp_bipush (v := 120) dX0_readOutcome_21 (by decide) ?_
      refine wp_icmp_eq 32 dX0_readOutcome_23 (by decide) (fun q => ?_) (fun q => ?_)
      · replace hv := hv.1 q
        refine wp_bipush (v := 7) dX0_readOutcome_32 (by decide) ?_
        refine wp_goto 38 dX0_readOutcome_34 (by decide) ?_
        obtain ⟨rfl, rfl⟩ := hv
        exact wp_ireturn dX0_readOutcome_38 rfl rfl rfl hq
      · replace hv := hv.2 q
        refine wp_iload_n (i := 1) dX0_readOutcome_26 rfl rfl ?_
        refine wp_bipush (v := 115) dX0_readOutcome_27 (by decide) ?_
        refine wp_icmp_ne 37 dX0_readOutcome_29 (by decide) (fun q => ?_) (fun q => ?_)
        · replace hv := hv.1 q
          refine wp_iconst (v := -1) dX0_readOutcome_37 (by decide) ?_
          obtain ⟨rfl, rfl⟩ := hv
          exact wp_ireturn dX0_readOutcome_38 rfl rfl rfl hq
        · replace hv := hv.2 q
          refine wp_bipush (v := 7) dX0_readOutcome_32 (by decide) ?_
          refine wp_goto 38 dX0_readOutcome_34 (by decide) ?_
          obtain ⟨rfl, rfl⟩ := hv
          exact wp_ireturn dX0_readOutcome_38 rfl rfl rfl hq
  · replace hv := hv.2 q
    refine wp_bipush (v := 8) dX0_readOutcome_11 (by decide) ?_
    obtain ⟨rfl, rfl⟩ := hv
    exact wp_ireturn dX0_readOutcome_13 rfl rfl rfl hq
theorem wX0_readOutField_0 {a0 : Nat} {x1 : Int32} (hK : StK K) (hq0 : IsAk K a0) (hv : (∃ (v1 : Int32), Ev G d mX11_isWithin 0 [(0, .int x1), (1, .int (48 : Int32)), (2, .int (51 : Int32))] (K, n, V, J, O) (some (.int v1)) (K, n, V, J, O) ∧ ((v1 ≠ 0 → (r = some (.int (8 : Int32)) ∧ V' = (up2 V a0 6 (x1 - (48 : Int32))))) ∧ (v1 = 0 → (r = some (.int (-1 : Int32)) ∧ V' = V))))) : Ev G (d + 1) mX0_readOutField 0 [(0, .ref a0), (1, .int x1)] (K, n, V, J, O) r (K, n, V', J, O) := by
  refine Ev.mk fun Q hq => ?_
  refine wp_iload_n (i := 1) dX0_readOutField_0 rfl rfl ?_
  refine wp_bipush (v := 48) dX0_readOutField_1 (by decide) ?_
  refine wp_bipush (v := 51) dX0_readOutField_3 (by decide) ?_
  obtain ⟨v1, hE, hv⟩ := hv
  refine wz_callSN (vs := [.int x1, .int (48 : Int32), .int (51 : Int32)]) (st := []) dX0_readOutField_5 k0_51 hE rfl (Nat.le_of_ble_eq_true rfl) (Nat.le_of_ble_eq_true rfl) ?_
  change wp _ _ _ _ _ [.int v1] _ _ _
  refine wp_if_ne 13 dX0_readOutField_8 (by decide) (fun q => ?_) (fun q => ?_)
  · replace hv := hv.1 q
    refine wp_aload_n (i := 0) dX0_readOutField_13 rfl rfl ?_
    refine wp_iload_n (i := 1) dX0_readOutField_14 rfl rfl ?_
    refine wp_bipush (v := 48) dX0_readOutField_15 (by decide) ?_
    refine wp_isub dX0_readOutField_17 ?_
    refine wz_putI dX0_readOutField_18 (ak_0 hq0) (w0_58 _ (by decide)) rfl ?_
    refine wp_bipush (v := 8) dX0_readOutField_21 (by decide) ?_
    obtain ⟨rfl, rfl⟩ := hv
    exact wp_ireturn dX0_readOutField_23 rfl rfl rfl hq
  · replace hv := hv.2 q
    refine wp_iconst (v := -1) dX0_readOutField_11 (by decide) ?_
    obtain ⟨rfl, rfl⟩ := hv
    exact wp_ireturn dX0_readOutField_12 rfl rfl rfl hq
theorem wX0_begin_0 {a0 : Nat} {x1 : Int32} {x2 : Int32} (hK : StK K) (hq0 : IsAk K a0) (hv : (r = none ∧ V' = (up2 (up2 (up2 (up2 (up2 (up2 V a0 7 x1) a0 8 x2) a0 9 (0 : Int32)) a0 10 (0 : Int32)) a0 11 (-1 : Int32)) a0 12 (0 : Int32)))) : Ev G d mX0_begin 0 [(0, .ref a0), (1, .int x1), (2, .int x2)] (K, n, V, J, O) r (K, n, V', J, O) := by
  refine Ev.mk fun Q hq => ?_
  refine wp_aload_n (i := 0) dX0_begin_0 rfl rfl ?_
  refine wp_iload_n (i := 1) dX0_begin_1 rfl rfl ?_
  refine wz_putI dX0_begin_2 (ak_0 hq0) (w0_61 _ (by decide)) rfl ?_
  refine wp_aload_n (i := 0) dX0_begin_5 rfl rfl ?_
  refine wp_iload_n (i := 2) dX0_begin_6 rfl rfl ?_
  refine wz_putI dX0_begin_7 (ak_0 hq0) (w0_64 _ (by decide)) rfl ?_
  refine wp_aload_n (i := 0) dX0_begin_10 rfl rfl ?_
  refine wp_iconst (v := 0) dX0_begin_11 (by decide) ?_
  refine wz_putI dX0_begin_12 (ak_0 hq0) (w0_67 _ (by decide)) rfl ?_
  refine wp_aload_n (i := 0) dX0_begin_15 rfl rfl ?_
  refine wp_iconst (v := 0) dX0_begin_16 (by decide) ?_
  refine wz_putI dX0_begin_17 (ak_0 hq0) (w0_70 _ (by decide)) rfl ?_
  refine wp_aload_n (i := 0) dX0_begin_20 rfl rfl ?_
  refine wp_iconst (v := -1) dX0_begin_21 (by decide) ?_
  refine wz_putI dX0_begin_22 (ak_0 hq0) (w0_73 _ (by decide)) rfl ?_
  refine wp_aload_n (i := 0) dX0_begin_25 rfl rfl ?_
  refine wp_iconst (v := 0) dX0_begin_26 (by decide) ?_
  refine wz_putI dX0_begin_27 (ak_0 hq0) (w0_76 _ (by decide)) rfl ?_
  obtain ⟨rfl, rfl⟩ := hv
  exact wp_return dX0_begin_30 rfl rfl hq
theorem wX0_see_0 {a0 : Nat} {x2 : Int32} (hK : StK K) (hq0 : IsAk K a0) (hv : Ev G (d + 1) mX0_see 2 [(0, .ref a0), (1, .ref 1), (2, .int x2), (3, .int (0 : Int32))] (K, n, V, J, O) r (K, n, V', J, O)) : Ev G (d + 1) mX0_see 0 [(0, .ref a0), (1, .ref 1), (2, .int x2)] (K, n, V, J, O) r (K, n, V', J, O) := by
  refine Ev.mk fun Q hq => ?_
  refine wp_iconst (v := 0) dX0_see_0 (by decide) ?_
  refine wx_istore_n (ls' := [(0, .ref a0), (1, .ref 1), (2, .int x2), (3, .int (0 : Int32))]) (i := 3) dX0_see_1 rfl (by decide) rfl ?_
  exact hv Q hq
theorem wX0_see_2 {a0 : Nat} {x2 : Int32} {x3 : Int32} (hK : StK K) (hq0 : IsAk K a0) (hv : (((V a0 4) ≤ x3 → (∃ (v1 : Int32), Ev G d mX8_value 0 [(0, .ref 1), (1, .int x2), (2, .int (V a0 6))] (K, n, V, J, O) (some (.int v1)) (K, n, V, J, O) ∧ (((V a0 11) = (-1 : Int32) → (r = none ∧ V' = (up2 (up2 (up2 (up2 V a0 9 ((V a0 9) + (1 : Int32))) a0 10 ((V a0 10) + v1)) a0 11 x2) a0 12 v1))) ∧ (¬ (V a0 11) = (-1 : Int32) → (∃ (v2 : Int32), Ev G d mX0_isBetter 0 [(0, .ref a0), (1, .int v1), (2, .int x2)] (K, n, (up2 (up2 V a0 9 ((V a0 9) + (1 : Int32))) a0 10 ((V a0 10) + v1)), J, O) (some (.int v2)) (K, n, (up2 (up2 V a0 9 ((V a0 9) + (1 : Int32))) a0 10 ((V a0 10) + v1)), J, O) ∧ ((v2 = 0 → (r = none ∧ V' = (up2 (up2 V a0 9 ((V a0 9) + (1 : Int32))) a0 10 ((V a0 10) + v1)))) ∧ (¬ v2 = 0 → (r = none ∧ V' = (up2 (up2 (up2 (up2 V a0 9 ((V a0 9) + (1 : Int32))) a0 10 ((V a0 10) + v1)) a0 11 x2) a0 12 v1))))))))) ∧ (¬ (V a0 4) ≤ x3 → (vp_in x3 15 ∧ (∃ (v4 : Int32), Ev G d mX8_value 0 [(0, .ref 1), (1, .int x2), (2, .int (V (a0 + 1) (x3).toNatClampNeg))] (K, n, V, J, O) (some (.int v4)) (K, n, V, J, O) ∧ (∃ (v5 : Int32), Ev G d mX0_holds 0 [(0, .ref a0), (1, .int x3), (2, .int v4)] (K, n, V, J, O) (some (.int v5)) (K, n, V, J, O) ∧ ((v5 ≠ 0 → Ev G (d + 1) mX0_see 2 [(0, .ref a0), (1, .ref 1), (2, .int x2), (3, .int (x3 + 1))] (K, n, V, J, O) r (K, n, V', J, O)) ∧ (v5 = 0 → (r = none ∧ V' = V))))))))) : Ev G (d + 1) mX0_see 2 [(0, .ref a0), (1, .ref 1), (2, .int x2), (3, .int x3)] (K, n, V, J, O) r (K, n, V', J, O) := by
  refine Ev.mk fun Q hq => ?_
  refine wp_iload_n (i := 3) dX0_see_2 rfl rfl ?_
  refine wp_aload_n (i := 0) dX0_see_3 rfl rfl ?_
  refine wz_getI dX0_see_4 (ak_0 hq0) (f0_25 _ (by decide)) rfl ?_
  refine wp_icmp_ge 36 dX0_see_7 (by decide) (fun q => ?_) (fun q => ?_)
  · replace hv := hv.1 q
    refine wp_aload_n (i := 1) dX0_see_36 rfl rfl ?_
    refine wp_iload_n (i := 2) dX0_see_37 rfl rfl ?_
    refine wp_aload_n (i := 0) dX0_see_38 rfl rfl ?_
    refine wz_getI dX0_see_39 (ak_0 hq0) (f0_58 _ (by decide)) rfl ?_
    obtain ⟨v1, hE, hv⟩ := hv
    refine wz_callV (vs := [.int x2, .int (V a0 6)]) (st := []) dX0_see_42 (k1 hK) rfl k0_79_8 hE rfl (Nat.le_of_ble_eq_true rfl) (Nat.le_of_ble_eq_true rfl) ?_
    change wp _ _ _ _ _ [.int v1] _ _ _
    refine wx_istore_n (ls' := [(0, .ref a0), (1, .ref 1), (2, .int x2), (3, .int v1)]) (i := 3) dX0_see_45 rfl (by decide) rfl ?_
    refine wp_aload_n (i := 0) dX0_see_46 rfl rfl ?_
    refine wp_dupR dX0_see_47 ?_
    refine wz_getI dX0_see_48 (ak_0 hq0) (f0_67 _ (by decide)) rfl ?_
    refine wp_iconst (v := 1) dX0_see_51 (by decide) ?_
    refine wp_iadd dX0_see_52 ?_
    refine wz_putI dX0_see_53 (ak_0 hq0) (w0_67 _ (by decide)) rfl ?_
    refine wp_aload_n (i := 0) dX0_see_56 rfl rfl ?_
    refine wp_dupR dX0_see_57 ?_
    refine wz_getIe (v := (V a0 10)) dX0_see_58 (ak_0 hq0) (f0_70 _ (by decide)) rfl (up2_k (by decide)) ?_
    refine wp_iload_n (i := 3) dX0_see_61 rfl rfl ?_
    refine wp_iadd dX0_see_62 ?_
    refine wz_putI dX0_see_63 (ak_0 hq0) (w0_70 _ (by decide)) rfl ?_
    refine wp_aload_n (i := 0) dX0_see_66 rfl rfl ?_
    refine wz_getIe (v := (V a0 11)) dX0_see_67 (ak_0 hq0) (f0_73 _ (by decide)) rfl (Eq.trans (up2_k (by decide)) (up2_k (by decide))) ?_
    refine wp_iconst (v := -1) dX0_see_70 (by decide) ?_
    refine wp_icmp_eq 83 dX0_see_71 (by decide) (fun q => ?_) (fun q => ?_)
    · replace hv := hv.1 q
      refine wp_aload_n (i := 0) dX0_see_83 rfl rfl ?_
      refine wp_iload_n (i := 2) dX0_see_84 rfl rfl ?_
      refine wz_putI dX0_see_85 (ak_0 hq0) (w0_73 _ (by decide)) rfl ?_
      refine wp_aload_n (i := 0) dX0_see_88 rfl rfl ?_
      refine wp_iload_n (i := 3) dX0_see_89 rfl rfl ?_
      refine wz_putI dX0_see_90 (ak_0 hq0) (w0_76 _ (by decide)) rfl ?_
      obtain ⟨rfl, rfl⟩ := hv
      exact wp_return dX0_see_93 rfl rfl hq
    · replace hv := hv.2 q
      refine wp_aload_n (i := 0) dX0_see_74 rfl rfl ?_
      refine wp_iload_n (i := 3) dX0_see_75 rfl rfl ?_
      refine wp_iload_n (i := 2) dX0_see_76 rfl rfl ?_
      obtain ⟨v2, hE, hv⟩ := hv
      refine wz_callV (vs := [.int v1, .int x2]) (st := []) dX0_see_77 (ak_0 hq0) rfl k0_88_0 hE rfl (Nat.le_of_ble_eq_true rfl) (Nat.le_of_ble_eq_true rfl) ?_
      change wp _ _ _ _ _ [.int v2] _ _ _
      refine wp_if_eq 93 dX0_see_80 (by decide) (fun q => ?_) (fun q => ?_)
      · replace hv := hv.1 q
        obtain ⟨rfl, rfl⟩ := hv
        exact wp_return dX0_see_93 rfl rfl hq
      · replace hv := hv.2 q
        refine wp_aload_n (i := 0) dX0_see_83 rfl rfl ?_
        refine wp_iload_n (i := 2) dX0_see_84 rfl rfl ?_
        refine wz_putI dX0_see_85 (ak_0 hq0) (w0_73 _ (by decide)) rfl ?_
        refine wp_aload_n (i := 0) dX0_see_88 rfl rfl ?_
        refine wp_iload_n (i := 3) dX0_see_89 rfl rfl ?_
        refine wz_putI dX0_see_90 (ak_0 hq0) (w0_76 _ (by decide)) rfl ?_
        obtain ⟨rfl, rfl⟩ := hv
        exact wp_return dX0_see_93 rfl rfl hq
  · replace hv := hv.2 q
    refine wp_aload_n (i := 0) dX0_see_10 rfl rfl ?_
    refine wp_iload_n (i := 3) dX0_see_11 rfl rfl ?_
    refine wp_aload_n (i := 1) dX0_see_12 rfl rfl ?_
    refine wp_iload_n (i := 2) dX0_see_13 rfl rfl ?_
    refine wp_aload_n (i := 0) dX0_see_14 rfl rfl ?_
    refine wz_getR (b := (a0 + 1)) dX0_see_15 (ak_0 hq0) (f0_15 _ (by decide)) rfl ?_
    refine wp_iload_n (i := 3) dX0_see_18 rfl rfl ?_
    obtain ⟨z3, hv⟩ := hv
    refine wz_iaload dX0_see_19 (ak_1 hq0) z3 ?_
    obtain ⟨v4, hE, hv⟩ := hv
    refine wz_callV (vs := [.int x2, .int (V (a0 + 1) (x3).toNatClampNeg)]) (st := [.int x3, .ref a0]) dX0_see_20 (k1 hK) rfl k0_79_8 hE rfl (Nat.le_of_ble_eq_true rfl) (Nat.le_of_ble_eq_true rfl) ?_
    change wp _ _ _ _ _ [.int v4, .int x3, .ref a0] _ _ _
    obtain ⟨v5, hE, hv⟩ := hv
    refine wz_callV (vs := [.int x3, .int v4]) (st := []) dX0_see_23 (ak_0 hq0) rfl k0_84_0 hE rfl (Nat.le_of_ble_eq_true rfl) (Nat.le_of_ble_eq_true rfl) ?_
    change wp _ _ _ _ _ [.int v5] _ _ _
    refine wp_if_ne 30 dX0_see_26 (by decide) (fun q => ?_) (fun q => ?_)
    · replace hv := hv.1 q
      refine wx_iinc (v := 1) (ls' := [(0, .ref a0), (1, .ref 1), (2, .int x2), (3, .int (x3 + 1))]) dX0_see_30 rfl (by decide) (by decide) rfl ?_
      refine wp_goto 2 dX0_see_33 (by decide) ?_
      exact hv Q hq
    · replace hv := hv.2 q
      obtain ⟨rfl, rfl⟩ := hv
      exact wp_return dX0_see_29 rfl rfl hq
theorem wX0_holds_0 {a0 : Nat} {x1 : Int32} {x2 : Int32} (hK : StK K) (hq0 : IsAk K a0) (hv : (vp_in x1 15 ∧ (((V (a0 + 2) (x1).toNatClampNeg) = (60 : Int32) → (∃ (v2 : Int32), Ev G d mX0_wanted 0 [(0, .ref a0), (1, .int x1)] (K, n, V, J, O) (some (.int v2)) (K, n, V, J, O) ∧ ((v2 ≤ x2 → r = some (.int (0 : Int32))) ∧ (¬ v2 ≤ x2 → r = some (.int (1 : Int32)))))) ∧ ((V (a0 + 2) (x1).toNatClampNeg) = (61 : Int32) → (∃ (v3 : Int32), Ev G d mX0_wanted 0 [(0, .ref a0), (1, .int x1)] (K, n, V, J, O) (some (.int v3)) (K, n, V, J, O) ∧ ((x2 ≠ v3 → r = some (.int (0 : Int32))) ∧ (x2 = v3 → r = some (.int (1 : Int32)))))) ∧ ((¬ (V (a0 + 2) (x1).toNatClampNeg) = (60 : Int32) ∧ ¬ (V (a0 + 2) (x1).toNatClampNeg) = (61 : Int32)) → (∃ (v4 : Int32), Ev G d mX0_wanted 0 [(0, .ref a0), (1, .int x1)] (K, n, V, J, O) (some (.int v4)) (K, n, V, J, O) ∧ ((x2 ≤ v4 → r = some (.int (0 : Int32))) ∧ (¬ x2 ≤ v4 → r = some (.int (1 : Int32))))))))) : Ev G (d + 1) mX0_holds 0 [(0, .ref a0), (1, .int x1), (2, .int x2)] (K, n, V, J, O) r (K, n, V, J, O) := by
  refine Ev.mk fun Q hq => ?_
  refine wp_aload_n (i := 0) dX0_holds_0 rfl rfl ?_
  refine wz_getR (b := (a0 + 2)) dX0_holds_1 (ak_0 hq0) (f0_19 _ (by decide)) rfl ?_
  refine wp_iload_n (i := 1) dX0_holds_4 rfl rfl ?_
  obtain ⟨z1, hv⟩ := hv
  refine wz_iaload dX0_holds_5 (ak_2 hq0) z1 ?_
  by_cases q0 : (V (a0 + 2) (x1).toNatClampNeg) = (60 : Int32)
  · refine wx_lookup (off := 41) (60 : Int32) q0 47 dX0_holds_6 (by decide +kernel) (by decide +kernel) (by decide) ?_
    replace hv := hv.1 q0
    refine wp_iload_n (i := 2) dX0_holds_47 rfl rfl ?_
    refine wp_aload_n (i := 0) dX0_holds_48 rfl rfl ?_
    refine wp_iload_n (i := 1) dX0_holds_49 rfl rfl ?_
    obtain ⟨v2, hE, hv⟩ := hv
    refine wz_callV (vs := [.int x1]) (st := [.int x2]) dX0_holds_50 (ak_0 hq0) rfl k0_91_0 hE rfl (Nat.le_of_ble_eq_true rfl) (Nat.le_of_ble_eq_true rfl) ?_
    change wp _ _ _ _ _ [.int v2, .int x2] _ _ _
    refine wp_icmp_ge 60 dX0_holds_53 (by decide) (fun q => ?_) (fun q => ?_)
    · replace hv := hv.1 q
      refine wp_iconst (v := 0) dX0_holds_60 (by decide) ?_
      obtain rfl := hv
      exact wp_ireturn dX0_holds_61 rfl (by decide) rfl hq
    · replace hv := hv.2 q
      refine wp_iconst (v := 1) dX0_holds_56 (by decide) ?_
      refine wp_goto 61 dX0_holds_57 (by decide) ?_
      obtain rfl := hv
      exact wp_ireturn dX0_holds_61 rfl (by decide) rfl hq
  by_cases q1 : (V (a0 + 2) (x1).toNatClampNeg) = (61 : Int32)
  · refine wx_lookup (off := 26) (61 : Int32) q1 32 dX0_holds_6 (by decide +kernel) (by decide +kernel) (by decide) ?_
    replace hv := hv.2.1 q1
    refine wp_iload_n (i := 2) dX0_holds_32 rfl rfl ?_
    refine wp_aload_n (i := 0) dX0_holds_33 rfl rfl ?_
    refine wp_iload_n (i := 1) dX0_holds_34 rfl rfl ?_
    obtain ⟨v3, hE, hv⟩ := hv
    refine wz_callV (vs := [.int x1]) (st := [.int x2]) dX0_holds_35 (ak_0 hq0) rfl k0_91_0 hE rfl (Nat.le_of_ble_eq_true rfl) (Nat.le_of_ble_eq_true rfl) ?_
    change wp _ _ _ _ _ [.int v3, .int x2] _ _ _
    refine wp_icmp_ne 45 dX0_holds_38 (by decide) (fun q => ?_) (fun q => ?_)
    · replace hv := hv.1 q
      refine wp_iconst (v := 0) dX0_holds_45 (by decide) ?_
      obtain rfl := hv
      exact wp_ireturn dX0_holds_46 rfl (by decide) rfl hq
    · replace hv := hv.2 q
      refine wp_iconst (v := 1) dX0_holds_41 (by decide) ?_
      refine wp_goto 46 dX0_holds_42 (by decide) ?_
      obtain rfl := hv
      exact wp_ireturn dX0_holds_46 rfl (by decide) rfl hq
  refine wp_lookup (off := 56) 62 dX0_holds_6 (by decide +kernel) (by show Op.lookupswitch.offset [(60, 41), (61, 26)] 56 _ = _; rw [lv_osw q0 (show ((60 : Int32)).toInt = 60 by decide), lv_osw q1 (show ((61 : Int32)).toInt = 61 by decide)]; try rfl) (by decide) ?_
  replace hv := hv.2.2 ⟨q0, q1⟩
  refine wp_iload_n (i := 2) dX0_holds_62 rfl rfl ?_
  refine wp_aload_n (i := 0) dX0_holds_63 rfl rfl ?_
  refine wp_iload_n (i := 1) dX0_holds_64 rfl rfl ?_
  obtain ⟨v4, hE, hv⟩ := hv
  refine wz_callV (vs := [.int x1]) (st := [.int x2]) dX0_holds_65 (ak_0 hq0) rfl k0_91_0 hE rfl (Nat.le_of_ble_eq_true rfl) (Nat.le_of_ble_eq_true rfl) ?_
  change wp _ _ _ _ _ [.int v4, .int x2] _ _ _
  refine wp_icmp_le 75 dX0_holds_68 (by decide) (fun q => ?_) (fun q => ?_)
  · replace hv := hv.1 q
    refine wp_iconst (v := 0) dX0_holds_75 (by decide) ?_
    obtain rfl := hv
    exact wp_ireturn dX0_holds_76 rfl (by decide) rfl hq
  · replace hv := hv.2 q
    refine wp_iconst (v := 1) dX0_holds_71 (by decide) ?_
    refine wp_goto 76 dX0_holds_72 (by decide) ?_
    obtain rfl := hv
    exact wp_ireturn dX0_holds_76 rfl (by decide) rfl hq
theorem wX0_isBetter_0 {a0 : Nat} {x1 : Int32} {x2 : Int32} (hK : StK K) (hq0 : IsAk K a0) (hv : ((x1 ≠ (V a0 12) → (((V a0 5) ≠ (109 : Int32) → ((x1 ≤ (V a0 12) → r = some (.int (0 : Int32))) ∧ (¬ x1 ≤ (V a0 12) → r = some (.int (1 : Int32))))) ∧ ((V a0 5) = (109 : Int32) → (((V a0 12) ≤ x1 → r = some (.int (0 : Int32))) ∧ (¬ (V a0 12) ≤ x1 → r = some (.int (1 : Int32))))))) ∧ (x1 = (V a0 12) → (((V a0 11) ≤ x2 → r = some (.int (0 : Int32))) ∧ (¬ (V a0 11) ≤ x2 → r = some (.int (1 : Int32))))))) : Ev G d mX0_isBetter 0 [(0, .ref a0), (1, .int x1), (2, .int x2)] (K, n, V, J, O) r (K, n, V, J, O) := by
  refine Ev.mk fun Q hq => ?_
  refine wp_iload_n (i := 1) dX0_isBetter_0 rfl rfl ?_
  refine wp_aload_n (i := 0) dX0_isBetter_1 rfl rfl ?_
  refine wz_getI dX0_isBetter_2 (ak_0 hq0) (f0_76 _ (by decide)) rfl ?_
  refine wp_icmp_ne 22 dX0_isBetter_5 (by decide) (fun q => ?_) (fun q => ?_)
  · replace hv := hv.1 q
    refine wp_aload_n (i := 0) dX0_isBetter_22 rfl rfl ?_
    refine wz_getI dX0_isBetter_23 (ak_0 hq0) (f0_55 _ (by decide)) rfl ?_
    refine wp_bipush (v := 109) dX0_isBetter_26 (by decide) ?_
    refine wp_icmp_ne 47 dX0_isBetter_28 (by decide) (fun q => ?_) (fun q => ?_)
    · replace hv := hv.1 q
      refine wp_iload_n (i := 1) dX0_isBetter_47 rfl rfl ?_
      refine wp_aload_n (i := 0) dX0_isBetter_48 rfl rfl ?_
      refine wz_getI dX0_isBetter_49 (ak_0 hq0) (f0_76 _ (by decide)) rfl ?_
      refine wp_icmp_le 59 dX0_isBetter_52 (by decide) (fun q => ?_) (fun q => ?_)
      · replace hv := hv.1 q
        refine wp_iconst (v := 0) dX0_isBetter_59 (by decide) ?_
        obtain rfl := hv
        exact wp_ireturn dX0_isBetter_60 rfl (by decide) rfl hq
      · replace hv := hv.2 q
        refine wp_iconst (v := 1) dX0_isBetter_55 (by decide) ?_
        refine wp_goto 60 dX0_isBetter_56 (by decide) ?_
        obtain rfl := hv
        exact wp_ireturn dX0_isBetter_60 rfl (by decide) rfl hq
    · replace hv := hv.2 q
      refine wp_iload_n (i := 1) dX0_isBetter_31 rfl rfl ?_
      refine wp_aload_n (i := 0) dX0_isBetter_32 rfl rfl ?_
      refine wz_getI dX0_isBetter_33 (ak_0 hq0) (f0_76 _ (by decide)) rfl ?_
      refine wp_icmp_ge 43 dX0_isBetter_36 (by decide) (fun q => ?_) (fun q => ?_)
      · replace hv := hv.1 q
        refine wp_iconst (v := 0) dX0_isBetter_43 (by decide) ?_
        refine wp_goto 60 dX0_isBetter_44 (by decide) ?_
        obtain rfl := hv
        exact wp_ireturn dX0_isBetter_60 rfl (by decide) rfl hq
      · replace hv := hv.2 q
        refine wp_iconst (v := 1) dX0_isBetter_39 (by decide) ?_
        refine wp_goto 60 dX0_isBetter_40 (by decide) ?_
        obtain rfl := hv
        exact wp_ireturn dX0_isBetter_60 rfl (by decide) rfl hq
  · replace hv := hv.2 q
    refine wp_iload_n (i := 2) dX0_isBetter_8 rfl rfl ?_
    refine wp_aload_n (i := 0) dX0_isBetter_9 rfl rfl ?_
    refine wz_getI dX0_isBetter_10 (ak_0 hq0) (f0_73 _ (by decide)) rfl ?_
    refine wp_icmp_ge 20 dX0_isBetter_13 (by decide) (fun q => ?_) (fun q => ?_)
    · replace hv := hv.1 q
      refine wp_iconst (v := 0) dX0_isBetter_20 (by decide) ?_
      obtain rfl := hv
      exact wp_ireturn dX0_isBetter_21 rfl (by decide) rfl hq
    · replace hv := hv.2 q
      refine wp_iconst (v := 1) dX0_isBetter_16 (by decide) ?_
      refine wp_goto 21 dX0_isBetter_17 (by decide) ?_
      obtain rfl := hv
      exact wp_ireturn dX0_isBetter_21 rfl (by decide) rfl hq
theorem wX0_result_0 {a0 : Nat} (hK : StK K) (hq0 : IsAk K a0) (hv : (((V a0 5) = (110 : Int32) → r = some (.int (V a0 9))) ∧ ((V a0 5) = (115 : Int32) → r = some (.int (V a0 10))) ∧ ((¬ (V a0 5) = (110 : Int32) ∧ ¬ (V a0 5) = (115 : Int32)) → r = some (.int (V a0 11))))) : Ev G d mX0_result 0 [(0, .ref a0)] (K, n, V, J, O) r (K, n, V, J, O) := by
  refine Ev.mk fun Q hq => ?_
  refine wp_aload_n (i := 0) dX0_result_0 rfl rfl ?_
  refine wz_getI dX0_result_1 (ak_0 hq0) (f0_55 _ (by decide)) rfl ?_
  by_cases q0 : (V a0 5) = (110 : Int32)
  · refine wx_lookup (off := 28) (110 : Int32) q0 32 dX0_result_4 (by decide +kernel) (by decide +kernel) (by decide) ?_
    replace hv := hv.1 q0
    refine wp_aload_n (i := 0) dX0_result_32 rfl rfl ?_
    refine wz_getI dX0_result_33 (ak_0 hq0) (f0_67 _ (by decide)) rfl ?_
    obtain rfl := hv
    exact wp_ireturn dX0_result_36 rfl rfl rfl hq
  by_cases q1 : (V a0 5) = (115 : Int32)
  · refine wx_lookup (off := 33) (115 : Int32) q1 37 dX0_result_4 (by decide +kernel) (by decide +kernel) (by decide) ?_
    replace hv := hv.2.1 q1
    refine wp_aload_n (i := 0) dX0_result_37 rfl rfl ?_
    refine wz_getI dX0_result_38 (ak_0 hq0) (f0_70 _ (by decide)) rfl ?_
    obtain rfl := hv
    exact wp_ireturn dX0_result_41 rfl rfl rfl hq
  refine wp_lookup (off := 38) 42 dX0_result_4 (by decide +kernel) (by show Op.lookupswitch.offset [(110, 28), (115, 33)] 38 _ = _; rw [lv_osw q0 (show ((110 : Int32)).toInt = 110 by decide), lv_osw q1 (show ((115 : Int32)).toInt = 115 by decide)]; try rfl) (by decide) ?_
  replace hv := hv.2.2 ⟨q0, q1⟩
  refine wp_aload_n (i := 0) dX0_result_42 rfl rfl ?_
  refine wz_getI dX0_result_43 (ak_0 hq0) (f0_73 _ (by decide)) rfl ?_
  obtain rfl := hv
  exact wp_ireturn dX0_result_46 rfl rfl rfl hq
theorem wX0_wanted_0 {a0 : Nat} {x1 : Int32} (hK : StK K) (hq0 : IsAk K a0) (hv : (vp_in x1 15 ∧ (((V (a0 + 3) (x1).toNatClampNeg) ≠ (100 : Int32) → (vp_in x1 15 ∧ (((V (a0 + 3) (x1).toNatClampNeg) ≠ (101 : Int32) → (vp_in x1 15 ∧ r = some (.int (V (a0 + 3) (x1).toNatClampNeg)))) ∧ ((V (a0 + 3) (x1).toNatClampNeg) = (101 : Int32) → r = some (.int (V a0 8)))))) ∧ ((V (a0 + 3) (x1).toNatClampNeg) = (100 : Int32) → r = some (.int (V a0 7)))))) : Ev G d mX0_wanted 0 [(0, .ref a0), (1, .int x1)] (K, n, V, J, O) r (K, n, V, J, O) := by
  refine Ev.mk fun Q hq => ?_
  refine wp_aload_n (i := 0) dX0_wanted_0 rfl rfl ?_
  refine wz_getR (b := (a0 + 3)) dX0_wanted_1 (ak_0 hq0) (f0_22 _ (by decide)) rfl ?_
  refine wp_iload_n (i := 1) dX0_wanted_4 rfl rfl ?_
  obtain ⟨z1, hv⟩ := hv
  refine wz_iaload dX0_wanted_5 (ak_3 hq0) z1 ?_
  refine wp_bipush (v := 100) dX0_wanted_6 (by decide) ?_
  refine wp_icmp_ne 18 dX0_wanted_8 (by decide) (fun q => ?_) (fun q => ?_)
  · replace hv := hv.1 q
    refine wp_aload_n (i := 0) dX0_wanted_18 rfl rfl ?_
    refine wz_getR (b := (a0 + 3)) dX0_wanted_19 (ak_0 hq0) (f0_22 _ (by decide)) rfl ?_
    refine wp_iload_n (i := 1) dX0_wanted_22 rfl rfl ?_
    obtain ⟨z2, hv⟩ := hv
    refine wz_iaload dX0_wanted_23 (ak_3 hq0) z2 ?_
    refine wp_bipush (v := 101) dX0_wanted_24 (by decide) ?_
    refine wp_icmp_ne 36 dX0_wanted_26 (by decide) (fun q => ?_) (fun q => ?_)
    · replace hv := hv.1 q
      refine wp_aload_n (i := 0) dX0_wanted_36 rfl rfl ?_
      refine wz_getR (b := (a0 + 3)) dX0_wanted_37 (ak_0 hq0) (f0_22 _ (by decide)) rfl ?_
      refine wp_iload_n (i := 1) dX0_wanted_40 rfl rfl ?_
      obtain ⟨z3, hv⟩ := hv
      refine wz_iaload dX0_wanted_41 (ak_3 hq0) z3 ?_
      obtain rfl := hv
      exact wp_ireturn dX0_wanted_42 rfl rfl rfl hq
    · replace hv := hv.2 q
      refine wp_aload_n (i := 0) dX0_wanted_29 rfl rfl ?_
      refine wz_getI dX0_wanted_30 (ak_0 hq0) (f0_64 _ (by decide)) rfl ?_
      refine wp_goto 42 dX0_wanted_33 (by decide) ?_
      obtain rfl := hv
      exact wp_ireturn dX0_wanted_42 rfl rfl rfl hq
  · replace hv := hv.2 q
    refine wp_aload_n (i := 0) dX0_wanted_11 rfl rfl ?_
    refine wz_getI dX0_wanted_12 (ak_0 hq0) (f0_61 _ (by decide)) rfl ?_
    refine wp_goto 42 dX0_wanted_15 (by decide) ?_
    obtain rfl := hv
    exact wp_ireturn dX0_wanted_42 rfl rfl rfl hq
theorem wX0_lowEnd_0 {a0 : Nat} {x1 : Int32} (hK : StK K) (hq0 : IsAk K a0) (hv : Ev G (d + 1) mX0_lowEnd 4 [(0, .ref a0), (1, .int x1), (2, .int (0 : Int32)), (3, .int (0 : Int32))] (K, n, V, J, O) r (K, n, V, J, O)) : Ev G (d + 1) mX0_lowEnd 0 [(0, .ref a0), (1, .int x1)] (K, n, V, J, O) r (K, n, V, J, O) := by
  refine Ev.mk fun Q hq => ?_
  refine wp_iconst (v := 0) dX0_lowEnd_0 (by decide) ?_
  refine wx_istore_n (ls' := [(0, .ref a0), (1, .int x1), (2, .int (0 : Int32))]) (i := 2) dX0_lowEnd_1 rfl (by decide) rfl ?_
  refine wp_iconst (v := 0) dX0_lowEnd_2 (by decide) ?_
  refine wx_istore_n (ls' := [(0, .ref a0), (1, .int x1), (2, .int (0 : Int32)), (3, .int (0 : Int32))]) (i := 3) dX0_lowEnd_3 rfl (by decide) rfl ?_
  exact hv Q hq
theorem wX0_lowEnd_4 {a0 : Nat} {x1 : Int32} {x2 : Int32} {x3 : Int32} (hK : StK K) (hq0 : IsAk K a0) (hv : (((V a0 4) ≤ x3 → r = some (.int x2)) ∧ (¬ (V a0 4) ≤ x3 → (vp_in x3 15 ∧ (((V (a0 + 1) (x3).toNatClampNeg) ≠ x1 → Ev G (d + 1) mX0_lowEnd 4 [(0, .ref a0), (1, .int x1), (2, .int x2), (3, .int (x3 + 1))] (K, n, V, J, O) r (K, n, V, J, O)) ∧ ((V (a0 + 1) (x3).toNatClampNeg) = x1 → (vp_in x3 15 ∧ (((V (a0 + 2) (x3).toNatClampNeg) = (60 : Int32) → Ev G (d + 1) mX0_lowEnd 4 [(0, .ref a0), (1, .int x1), (2, .int x2), (3, .int (x3 + 1))] (K, n, V, J, O) r (K, n, V, J, O)) ∧ (¬ (V (a0 + 2) (x3).toNatClampNeg) = (60 : Int32) → (vp_in x3 15 ∧ (((V (a0 + 2) (x3).toNatClampNeg) ≠ (62 : Int32) → (∃ (v4 : Int32), Ev G d mX0_wanted 0 [(0, .ref a0), (1, .int x3)] (K, n, V, J, O) (some (.int v4)) (K, n, V, J, O) ∧ Ev G (d + 1) mX0_lowEnd 4 [(0, .ref a0), (1, .int x1), (2, .int (if x2 < v4 then v4 else x2)), (3, .int (x3 + 1))] (K, n, V, J, O) r (K, n, V, J, O))) ∧ ((V (a0 + 2) (x3).toNatClampNeg) = (62 : Int32) → (∃ (v5 : Int32), Ev G d mX0_wanted 0 [(0, .ref a0), (1, .int x3)] (K, n, V, J, O) (some (.int v5)) (K, n, V, J, O) ∧ Ev G (d + 1) mX0_lowEnd 4 [(0, .ref a0), (1, .int x1), (2, .int (if x2 < (v5 + (1 : Int32)) then (v5 + (1 : Int32)) else x2)), (3, .int (x3 + 1))] (K, n, V, J, O) r (K, n, V, J, O)))))))))))))) : Ev G (d + 1) mX0_lowEnd 4 [(0, .ref a0), (1, .int x1), (2, .int x2), (3, .int x3)] (K, n, V, J, O) r (K, n, V, J, O) := by
  refine Ev.mk fun Q hq => ?_
  refine wp_iload_n (i := 3) dX0_lowEnd_4 rfl rfl ?_
  refine wp_aload_n (i := 0) dX0_lowEnd_5 rfl rfl ?_
  refine wz_getI dX0_lowEnd_6 (ak_0 hq0) (f0_25 _ (by decide)) rfl ?_
  refine wp_icmp_ge 70 dX0_lowEnd_9 (by decide) (fun q => ?_) (fun q => ?_)
  · replace hv := hv.1 q
    refine wp_iload_n (i := 2) dX0_lowEnd_70 rfl rfl ?_
    obtain rfl := hv
    exact wp_ireturn dX0_lowEnd_71 rfl rfl rfl hq
  · replace hv := hv.2 q
    refine wp_aload_n (i := 0) dX0_lowEnd_12 rfl rfl ?_
    refine wz_getR (b := (a0 + 1)) dX0_lowEnd_13 (ak_0 hq0) (f0_15 _ (by decide)) rfl ?_
    refine wp_iload_n (i := 3) dX0_lowEnd_16 rfl rfl ?_
    obtain ⟨z1, hv⟩ := hv
    refine wz_iaload dX0_lowEnd_17 (ak_1 hq0) z1 ?_
    refine wp_iload_n (i := 1) dX0_lowEnd_18 rfl rfl ?_
    refine wp_icmp_ne 64 dX0_lowEnd_19 (by decide) (fun q => ?_) (fun q => ?_)
    · replace hv := hv.1 q
      refine wx_iinc (v := 1) (ls' := [(0, .ref a0), (1, .int x1), (2, .int x2), (3, .int (x3 + 1))]) dX0_lowEnd_64 rfl (by decide) (by decide) rfl ?_
      refine wp_goto 4 dX0_lowEnd_67 (by decide) ?_
      exact hv Q hq
    · replace hv := hv.2 q
      refine wp_aload_n (i := 0) dX0_lowEnd_22 rfl rfl ?_
      refine wz_getR (b := (a0 + 2)) dX0_lowEnd_23 (ak_0 hq0) (f0_19 _ (by decide)) rfl ?_
      refine wp_iload_n (i := 3) dX0_lowEnd_26 rfl rfl ?_
      obtain ⟨z2, hv⟩ := hv
      refine wz_iaload dX0_lowEnd_27 (ak_2 hq0) z2 ?_
      refine wp_bipush (v := 60) dX0_lowEnd_28 (by decide) ?_
      refine wp_icmp_eq 64 dX0_lowEnd_30 (by decide) (fun q => ?_) (fun q => ?_)
      · replace hv := hv.1 q
        refine wx_iinc (v := 1) (ls' := [(0, .ref a0), (1, .int x1), (2, .int x2), (3, .int (x3 + 1))]) dX0_lowEnd_64 rfl (by decide) (by decide) rfl ?_
        refine wp_goto 4 dX0_lowEnd_67 (by decide) ?_
        exact hv Q hq
      · replace hv := hv.2 q
        refine wp_iload_n (i := 2) dX0_lowEnd_33 rfl rfl ?_
        refine wp_aload_n (i := 0) dX0_lowEnd_34 rfl rfl ?_
        refine wz_getR (b := (a0 + 2)) dX0_lowEnd_35 (ak_0 hq0) (f0_19 _ (by decide)) rfl ?_
        refine wp_iload_n (i := 3) dX0_lowEnd_38 rfl rfl ?_
        obtain ⟨z3, hv⟩ := hv
        refine wz_iaload dX0_lowEnd_39 (ak_2 hq0) z3 ?_
        refine wp_bipush (v := 62) dX0_lowEnd_40 (by decide) ?_
        refine wp_icmp_ne 55 dX0_lowEnd_42 (by decide) (fun q => ?_) (fun q => ?_)
        · replace hv := hv.1 q
          refine wp_aload_n (i := 0) dX0_lowEnd_55 rfl rfl ?_
          refine wp_iload_n (i := 3) dX0_lowEnd_56 rfl rfl ?_
          obtain ⟨v4, hE, hv⟩ := hv
          refine wz_callV (vs := [.int x3]) (st := [.int x2]) dX0_lowEnd_57 (ak_0 hq0) rfl k0_91_0 hE rfl (Nat.le_of_ble_eq_true rfl) (Nat.le_of_ble_eq_true rfl) ?_
          change wp _ _ _ _ _ [.int v4, .int x2] _ _ _
          refine wp_mmax dX0_lowEnd_60 ma0_94 mmax1 mth2 mmax3 (Nat.le_of_ble_eq_true rfl) ⟨Nat.le_refl _, Nat.le_refl _⟩ ?_
          refine wx_istore_n (ls' := [(0, .ref a0), (1, .int x1), (2, .int (if x2 < v4 then v4 else x2)), (3, .int x3)]) (i := 2) dX0_lowEnd_63 rfl (by decide) rfl ?_
          refine wx_iinc (v := 1) (ls' := [(0, .ref a0), (1, .int x1), (2, .int (if x2 < v4 then v4 else x2)), (3, .int (x3 + 1))]) dX0_lowEnd_64 rfl (by decide) (by decide) rfl ?_
          refine wp_goto 4 dX0_lowEnd_67 (by decide) ?_
          exact hv Q hq
        · replace hv := hv.2 q
          refine wp_aload_n (i := 0) dX0_lowEnd_45 rfl rfl ?_
          refine wp_iload_n (i := 3) dX0_lowEnd_46 rfl rfl ?_
          obtain ⟨v5, hE, hv⟩ := hv
          refine wz_callV (vs := [.int x3]) (st := [.int x2]) dX0_lowEnd_47 (ak_0 hq0) rfl k0_91_0 hE rfl (Nat.le_of_ble_eq_true rfl) (Nat.le_of_ble_eq_true rfl) ?_
          change wp _ _ _ _ _ [.int v5, .int x2] _ _ _
          refine wp_iconst (v := 1) dX0_lowEnd_50 (by decide) ?_
          refine wp_iadd dX0_lowEnd_51 ?_
          refine wp_goto 60 dX0_lowEnd_52 (by decide) ?_
          refine wp_mmax dX0_lowEnd_60 ma0_94 mmax1 mth2 mmax3 (Nat.le_of_ble_eq_true rfl) ⟨Nat.le_refl _, Nat.le_refl _⟩ ?_
          refine wx_istore_n (ls' := [(0, .ref a0), (1, .int x1), (2, .int (if x2 < (v5 + (1 : Int32)) then (v5 + (1 : Int32)) else x2)), (3, .int x3)]) (i := 2) dX0_lowEnd_63 rfl (by decide) rfl ?_
          refine wx_iinc (v := 1) (ls' := [(0, .ref a0), (1, .int x1), (2, .int (if x2 < (v5 + (1 : Int32)) then (v5 + (1 : Int32)) else x2)), (3, .int (x3 + 1))]) dX0_lowEnd_64 rfl (by decide) (by decide) rfl ?_
          refine wp_goto 4 dX0_lowEnd_67 (by decide) ?_
          exact hv Q hq
theorem wX0_highEnd_0 {a0 : Nat} {x1 : Int32} (hK : StK K) (hq0 : IsAk K a0) (hv : Ev G (d + 1) mX0_highEnd 5 [(0, .ref a0), (1, .int x1), (2, .int (99 : Int32)), (3, .int (0 : Int32))] (K, n, V, J, O) r (K, n, V, J, O)) : Ev G (d + 1) mX0_highEnd 0 [(0, .ref a0), (1, .int x1)] (K, n, V, J, O) r (K, n, V, J, O) := by
  refine Ev.mk fun Q hq => ?_
  refine wp_bipush (v := 99) dX0_highEnd_0 (by decide) ?_
  refine wx_istore_n (ls' := [(0, .ref a0), (1, .int x1), (2, .int (99 : Int32))]) (i := 2) dX0_highEnd_2 rfl (by decide) rfl ?_
  refine wp_iconst (v := 0) dX0_highEnd_3 (by decide) ?_
  refine wx_istore_n (ls' := [(0, .ref a0), (1, .int x1), (2, .int (99 : Int32)), (3, .int (0 : Int32))]) (i := 3) dX0_highEnd_4 rfl (by decide) rfl ?_
  exact hv Q hq
theorem wX0_highEnd_5 {a0 : Nat} {x1 : Int32} {x2 : Int32} {x3 : Int32} (hK : StK K) (hq0 : IsAk K a0) (hv : (((V a0 4) ≤ x3 → r = some (.int x2)) ∧ (¬ (V a0 4) ≤ x3 → (vp_in x3 15 ∧ (((V (a0 + 1) (x3).toNatClampNeg) ≠ x1 → Ev G (d + 1) mX0_highEnd 5 [(0, .ref a0), (1, .int x1), (2, .int x2), (3, .int (x3 + 1))] (K, n, V, J, O) r (K, n, V, J, O)) ∧ ((V (a0 + 1) (x3).toNatClampNeg) = x1 → (vp_in x3 15 ∧ (((V (a0 + 2) (x3).toNatClampNeg) = (62 : Int32) → Ev G (d + 1) mX0_highEnd 5 [(0, .ref a0), (1, .int x1), (2, .int x2), (3, .int (x3 + 1))] (K, n, V, J, O) r (K, n, V, J, O)) ∧ (¬ (V (a0 + 2) (x3).toNatClampNeg) = (62 : Int32) → (vp_in x3 15 ∧ (((V (a0 + 2) (x3).toNatClampNeg) ≠ (60 : Int32) → (∃ (v4 : Int32), Ev G d mX0_wanted 0 [(0, .ref a0), (1, .int x3)] (K, n, V, J, O) (some (.int v4)) (K, n, V, J, O) ∧ Ev G (d + 1) mX0_highEnd 5 [(0, .ref a0), (1, .int x1), (2, .int (if v4 < x2 then v4 else x2)), (3, .int (x3 + 1))] (K, n, V, J, O) r (K, n, V, J, O))) ∧ ((V (a0 + 2) (x3).toNatClampNeg) = (60 : Int32) → (∃ (v5 : Int32), Ev G d mX0_wanted 0 [(0, .ref a0), (1, .int x3)] (K, n, V, J, O) (some (.int v5)) (K, n, V, J, O) ∧ Ev G (d + 1) mX0_highEnd 5 [(0, .ref a0), (1, .int x1), (2, .int (if (v5 - (1 : Int32)) < x2 then (v5 - (1 : Int32)) else x2)), (3, .int (x3 + 1))] (K, n, V, J, O) r (K, n, V, J, O)))))))))))))) : Ev G (d + 1) mX0_highEnd 5 [(0, .ref a0), (1, .int x1), (2, .int x2), (3, .int x3)] (K, n, V, J, O) r (K, n, V, J, O) := by
  refine Ev.mk fun Q hq => ?_
  refine wp_iload_n (i := 3) dX0_highEnd_5 rfl rfl ?_
  refine wp_aload_n (i := 0) dX0_highEnd_6 rfl rfl ?_
  refine wz_getI dX0_highEnd_7 (ak_0 hq0) (f0_25 _ (by decide)) rfl ?_
  refine wp_icmp_ge 71 dX0_highEnd_10 (by decide) (fun q => ?_) (fun q => ?_)
  · replace hv := hv.1 q
    refine wp_iload_n (i := 2) dX0_highEnd_71 rfl rfl ?_
    obtain rfl := hv
    exact wp_ireturn dX0_highEnd_72 rfl rfl rfl hq
  · replace hv := hv.2 q
    refine wp_aload_n (i := 0) dX0_highEnd_13 rfl rfl ?_
    refine wz_getR (b := (a0 + 1)) dX0_highEnd_14 (ak_0 hq0) (f0_15 _ (by decide)) rfl ?_
    refine wp_iload_n (i := 3) dX0_highEnd_17 rfl rfl ?_
    obtain ⟨z1, hv⟩ := hv
    refine wz_iaload dX0_highEnd_18 (ak_1 hq0) z1 ?_
    refine wp_iload_n (i := 1) dX0_highEnd_19 rfl rfl ?_
    refine wp_icmp_ne 65 dX0_highEnd_20 (by decide) (fun q => ?_) (fun q => ?_)
    · replace hv := hv.1 q
      refine wx_iinc (v := 1) (ls' := [(0, .ref a0), (1, .int x1), (2, .int x2), (3, .int (x3 + 1))]) dX0_highEnd_65 rfl (by decide) (by decide) rfl ?_
      refine wp_goto 5 dX0_highEnd_68 (by decide) ?_
      exact hv Q hq
    · replace hv := hv.2 q
      refine wp_aload_n (i := 0) dX0_highEnd_23 rfl rfl ?_
      refine wz_getR (b := (a0 + 2)) dX0_highEnd_24 (ak_0 hq0) (f0_19 _ (by decide)) rfl ?_
      refine wp_iload_n (i := 3) dX0_highEnd_27 rfl rfl ?_
      obtain ⟨z2, hv⟩ := hv
      refine wz_iaload dX0_highEnd_28 (ak_2 hq0) z2 ?_
      refine wp_bipush (v := 62) dX0_highEnd_29 (by decide) ?_
      refine wp_icmp_eq 65 dX0_highEnd_31 (by decide) (fun q => ?_) (fun q => ?_)
      · replace hv := hv.1 q
        refine wx_iinc (v := 1) (ls' := [(0, .ref a0), (1, .int x1), (2, .int x2), (3, .int (x3 + 1))]) dX0_highEnd_65 rfl (by decide) (by decide) rfl ?_
        refine wp_goto 5 dX0_highEnd_68 (by decide) ?_
        exact hv Q hq
      · replace hv := hv.2 q
        refine wp_iload_n (i := 2) dX0_highEnd_34 rfl rfl ?_
        refine wp_aload_n (i := 0) dX0_highEnd_35 rfl rfl ?_
        refine wz_getR (b := (a0 + 2)) dX0_highEnd_36 (ak_0 hq0) (f0_19 _ (by decide)) rfl ?_
        refine wp_iload_n (i := 3) dX0_highEnd_39 rfl rfl ?_
        obtain ⟨z3, hv⟩ := hv
        refine wz_iaload dX0_highEnd_40 (ak_2 hq0) z3 ?_
        refine wp_bipush (v := 60) dX0_highEnd_41 (by decide) ?_
        refine wp_icmp_ne 56 dX0_highEnd_43 (by decide) (fun q => ?_) (fun q => ?_)
        · replace hv := hv.1 q
          refine wp_aload_n (i := 0) dX0_highEnd_56 rfl rfl ?_
          refine wp_iload_n (i := 3) dX0_highEnd_57 rfl rfl ?_
          obtain ⟨v4, hE, hv⟩ := hv
          refine wz_callV (vs := [.int x3]) (st := [.int x2]) dX0_highEnd_58 (ak_0 hq0) rfl k0_91_0 hE rfl (Nat.le_of_ble_eq_true rfl) (Nat.le_of_ble_eq_true rfl) ?_
          change wp _ _ _ _ _ [.int v4, .int x2] _ _ _
          refine wp_mmin dX0_highEnd_61 ma0_99 mmin1 mth2 mmin3 (Nat.le_of_ble_eq_true rfl) ⟨Nat.le_refl _, Nat.le_refl _⟩ ?_
          refine wx_istore_n (ls' := [(0, .ref a0), (1, .int x1), (2, .int (if v4 < x2 then v4 else x2)), (3, .int x3)]) (i := 2) dX0_highEnd_64 rfl (by decide) rfl ?_
          refine wx_iinc (v := 1) (ls' := [(0, .ref a0), (1, .int x1), (2, .int (if v4 < x2 then v4 else x2)), (3, .int (x3 + 1))]) dX0_highEnd_65 rfl (by decide) (by decide) rfl ?_
          refine wp_goto 5 dX0_highEnd_68 (by decide) ?_
          exact hv Q hq
        · replace hv := hv.2 q
          refine wp_aload_n (i := 0) dX0_highEnd_46 rfl rfl ?_
          refine wp_iload_n (i := 3) dX0_highEnd_47 rfl rfl ?_
          obtain ⟨v5, hE, hv⟩ := hv
          refine wz_callV (vs := [.int x3]) (st := [.int x2]) dX0_highEnd_48 (ak_0 hq0) rfl k0_91_0 hE rfl (Nat.le_of_ble_eq_true rfl) (Nat.le_of_ble_eq_true rfl) ?_
          change wp _ _ _ _ _ [.int v5, .int x2] _ _ _
          refine wp_iconst (v := 1) dX0_highEnd_51 (by decide) ?_
          refine wp_isub dX0_highEnd_52 ?_
          refine wp_goto 61 dX0_highEnd_53 (by decide) ?_
          refine wp_mmin dX0_highEnd_61 ma0_99 mmin1 mth2 mmin3 (Nat.le_of_ble_eq_true rfl) ⟨Nat.le_refl _, Nat.le_refl _⟩ ?_
          refine wx_istore_n (ls' := [(0, .ref a0), (1, .int x1), (2, .int (if (v5 - (1 : Int32)) < x2 then (v5 - (1 : Int32)) else x2)), (3, .int x3)]) (i := 2) dX0_highEnd_64 rfl (by decide) rfl ?_
          refine wx_iinc (v := 1) (ls' := [(0, .ref a0), (1, .int x1), (2, .int (if (v5 - (1 : Int32)) < x2 then (v5 - (1 : Int32)) else x2)), (3, .int (x3 + 1))]) dX0_highEnd_65 rfl (by decide) (by decide) rfl ?_
          refine wp_goto 5 dX0_highEnd_68 (by decide) ?_
          exact hv Q hq
theorem wX0_isAbout_0 {a0 : Nat} {x1 : Int32} (hK : StK K) (hq0 : IsAk K a0) (hv : Ev G d mX0_isAbout 2 [(0, .ref a0), (1, .int x1), (2, .int (0 : Int32))] (K, n, V, J, O) r (K, n, V, J, O)) : Ev G d mX0_isAbout 0 [(0, .ref a0), (1, .int x1)] (K, n, V, J, O) r (K, n, V, J, O) := by
  refine Ev.mk fun Q hq => ?_
  refine wp_iconst (v := 0) dX0_isAbout_0 (by decide) ?_
  refine wx_istore_n (ls' := [(0, .ref a0), (1, .int x1), (2, .int (0 : Int32))]) (i := 2) dX0_isAbout_1 rfl (by decide) rfl ?_
  exact hv Q hq
theorem wX0_isAbout_2 {a0 : Nat} {x1 : Int32} {x2 : Int32} (hK : StK K) (hq0 : IsAk K a0) (hv : (((V a0 4) ≤ x2 → r = some (.int (0 : Int32))) ∧ (¬ (V a0 4) ≤ x2 → (vp_in x2 15 ∧ (((V (a0 + 1) (x2).toNatClampNeg) ≠ x1 → Ev G d mX0_isAbout 2 [(0, .ref a0), (1, .int x1), (2, .int (x2 + 1))] (K, n, V, J, O) r (K, n, V, J, O)) ∧ ((V (a0 + 1) (x2).toNatClampNeg) = x1 → r = some (.int (1 : Int32)))))))) : Ev G d mX0_isAbout 2 [(0, .ref a0), (1, .int x1), (2, .int x2)] (K, n, V, J, O) r (K, n, V, J, O) := by
  refine Ev.mk fun Q hq => ?_
  refine wp_iload_n (i := 2) dX0_isAbout_2 rfl rfl ?_
  refine wp_aload_n (i := 0) dX0_isAbout_3 rfl rfl ?_
  refine wz_getI dX0_isAbout_4 (ak_0 hq0) (f0_25 _ (by decide)) rfl ?_
  refine wp_icmp_ge 28 dX0_isAbout_7 (by decide) (fun q => ?_) (fun q => ?_)
  · replace hv := hv.1 q
    refine wp_iconst (v := 0) dX0_isAbout_28 (by decide) ?_
    obtain rfl := hv
    exact wp_ireturn dX0_isAbout_29 rfl (by decide) rfl hq
  · replace hv := hv.2 q
    refine wp_aload_n (i := 0) dX0_isAbout_10 rfl rfl ?_
    refine wz_getR (b := (a0 + 1)) dX0_isAbout_11 (ak_0 hq0) (f0_15 _ (by decide)) rfl ?_
    refine wp_iload_n (i := 2) dX0_isAbout_14 rfl rfl ?_
    obtain ⟨z1, hv⟩ := hv
    refine wz_iaload dX0_isAbout_15 (ak_1 hq0) z1 ?_
    refine wp_iload_n (i := 1) dX0_isAbout_16 rfl rfl ?_
    refine wp_icmp_ne 22 dX0_isAbout_17 (by decide) (fun q => ?_) (fun q => ?_)
    · replace hv := hv.1 q
      refine wx_iinc (v := 1) (ls' := [(0, .ref a0), (1, .int x1), (2, .int (x2 + 1))]) dX0_isAbout_22 rfl (by decide) (by decide) rfl ?_
      refine wp_goto 2 dX0_isAbout_25 (by decide) ?_
      exact hv Q hq
    · replace hv := hv.2 q
      refine wp_iconst (v := 1) dX0_isAbout_20 (by decide) ?_
      obtain rfl := hv
      exact wp_ireturn dX0_isAbout_21 rfl (by decide) rfl hq
theorem wX0_hasEqual_0 {a0 : Nat} {x1 : Int32} (hK : StK K) (hq0 : IsAk K a0) (hv : (∃ (v1 : Int32), Ev G d mX0_equalAt 0 [(0, .ref a0), (1, .int x1)] (K, n, V, J, O) (some (.int v1)) (K, n, V, J, O) ∧ ((v1 = (-1 : Int32) → r = some (.int (0 : Int32))) ∧ (¬ v1 = (-1 : Int32) → r = some (.int (1 : Int32)))))) : Ev G (d + 1) mX0_hasEqual 0 [(0, .ref a0), (1, .int x1)] (K, n, V, J, O) r (K, n, V, J, O) := by
  refine Ev.mk fun Q hq => ?_
  refine wp_aload_n (i := 0) dX0_hasEqual_0 rfl rfl ?_
  refine wp_iload_n (i := 1) dX0_hasEqual_1 rfl rfl ?_
  obtain ⟨v1, hE, hv⟩ := hv
  refine wz_callV (vs := [.int x1]) (st := []) dX0_hasEqual_2 (ak_0 hq0) rfl k0_102_0 hE rfl (Nat.le_of_ble_eq_true rfl) (Nat.le_of_ble_eq_true rfl) ?_
  change wp _ _ _ _ _ [.int v1] _ _ _
  refine wp_iconst (v := -1) dX0_hasEqual_5 (by decide) ?_
  refine wp_icmp_eq 13 dX0_hasEqual_6 (by decide) (fun q => ?_) (fun q => ?_)
  · replace hv := hv.1 q
    refine wp_iconst (v := 0) dX0_hasEqual_13 (by decide) ?_
    obtain rfl := hv
    exact wp_ireturn dX0_hasEqual_14 rfl (by decide) rfl hq
  · replace hv := hv.2 q
    refine wp_iconst (v := 1) dX0_hasEqual_9 (by decide) ?_
    refine wp_goto 14 dX0_hasEqual_10 (by decide) ?_
    obtain rfl := hv
    exact wp_ireturn dX0_hasEqual_14 rfl (by decide) rfl hq
theorem wX0_firstEqual_0 {a0 : Nat} {x1 : Int32} (hK : StK K) (hq0 : IsAk K a0) (hv : (∃ (v1 : Int32), Ev G d mX0_equalAt 0 [(0, .ref a0), (1, .int x1)] (K, n, V, J, O) (some (.int v1)) (K, n, V, J, O) ∧ ((v1 ≠ (-1 : Int32) → (∃ (v2 : Int32), Ev G d mX0_wanted 0 [(0, .ref a0), (1, .int v1)] (K, n, V, J, O) (some (.int v2)) (K, n, V, J, O) ∧ r = some (.int v2))) ∧ (v1 = (-1 : Int32) → r = some (.int (0 : Int32)))))) : Ev G (d + 1) mX0_firstEqual 0 [(0, .ref a0), (1, .int x1)] (K, n, V, J, O) r (K, n, V, J, O) := by
  refine Ev.mk fun Q hq => ?_
  refine wp_aload_n (i := 0) dX0_firstEqual_0 rfl rfl ?_
  refine wp_iload_n (i := 1) dX0_firstEqual_1 rfl rfl ?_
  obtain ⟨v1, hE, hv⟩ := hv
  refine wz_callV (vs := [.int x1]) (st := []) dX0_firstEqual_2 (ak_0 hq0) rfl k0_102_0 hE rfl (Nat.le_of_ble_eq_true rfl) (Nat.le_of_ble_eq_true rfl) ?_
  change wp _ _ _ _ _ [.int v1] _ _ _
  refine wx_istore_n (ls' := [(0, .ref a0), (1, .int x1), (2, .int v1)]) (i := 2) dX0_firstEqual_5 rfl (by decide) rfl ?_
  refine wp_iload_n (i := 2) dX0_firstEqual_6 rfl rfl ?_
  refine wp_iconst (v := -1) dX0_firstEqual_7 (by decide) ?_
  refine wp_icmp_ne 15 dX0_firstEqual_8 (by decide) (fun q => ?_) (fun q => ?_)
  · replace hv := hv.1 q
    refine wp_aload_n (i := 0) dX0_firstEqual_15 rfl rfl ?_
    refine wp_iload_n (i := 2) dX0_firstEqual_16 rfl rfl ?_
    obtain ⟨v2, hE, hv⟩ := hv
    refine wz_callV (vs := [.int v1]) (st := []) dX0_firstEqual_17 (ak_0 hq0) rfl k0_91_0 hE rfl (Nat.le_of_ble_eq_true rfl) (Nat.le_of_ble_eq_true rfl) ?_
    change wp _ _ _ _ _ [.int v2] _ _ _
    obtain rfl := hv
    exact wp_ireturn dX0_firstEqual_20 rfl rfl rfl hq
  · replace hv := hv.2 q
    refine wp_iconst (v := 0) dX0_firstEqual_11 (by decide) ?_
    refine wp_goto 20 dX0_firstEqual_12 (by decide) ?_
    obtain rfl := hv
    exact wp_ireturn dX0_firstEqual_20 rfl rfl rfl hq
theorem wX0_equalAt_0 {a0 : Nat} {x1 : Int32} (hK : StK K) (hq0 : IsAk K a0) (hv : Ev G d mX0_equalAt 2 [(0, .ref a0), (1, .int x1), (2, .int (0 : Int32))] (K, n, V, J, O) r (K, n, V, J, O)) : Ev G d mX0_equalAt 0 [(0, .ref a0), (1, .int x1)] (K, n, V, J, O) r (K, n, V, J, O) := by
  refine Ev.mk fun Q hq => ?_
  refine wp_iconst (v := 0) dX0_equalAt_0 (by decide) ?_
  refine wx_istore_n (ls' := [(0, .ref a0), (1, .int x1), (2, .int (0 : Int32))]) (i := 2) dX0_equalAt_1 rfl (by decide) rfl ?_
  exact hv Q hq
theorem wX0_equalAt_2 {a0 : Nat} {x1 : Int32} {x2 : Int32} (hK : StK K) (hq0 : IsAk K a0) (hv : (((V a0 4) ≤ x2 → r = some (.int (-1 : Int32))) ∧ (¬ (V a0 4) ≤ x2 → (vp_in x2 15 ∧ (((V (a0 + 1) (x2).toNatClampNeg) ≠ x1 → Ev G d mX0_equalAt 2 [(0, .ref a0), (1, .int x1), (2, .int (x2 + 1))] (K, n, V, J, O) r (K, n, V, J, O)) ∧ ((V (a0 + 1) (x2).toNatClampNeg) = x1 → (vp_in x2 15 ∧ (((V (a0 + 2) (x2).toNatClampNeg) ≠ (61 : Int32) → Ev G d mX0_equalAt 2 [(0, .ref a0), (1, .int x1), (2, .int (x2 + 1))] (K, n, V, J, O) r (K, n, V, J, O)) ∧ ((V (a0 + 2) (x2).toNatClampNeg) = (61 : Int32) → r = some (.int x2)))))))))) : Ev G d mX0_equalAt 2 [(0, .ref a0), (1, .int x1), (2, .int x2)] (K, n, V, J, O) r (K, n, V, J, O) := by
  refine Ev.mk fun Q hq => ?_
  refine wp_iload_n (i := 2) dX0_equalAt_2 rfl rfl ?_
  refine wp_aload_n (i := 0) dX0_equalAt_3 rfl rfl ?_
  refine wz_getI dX0_equalAt_4 (ak_0 hq0) (f0_25 _ (by decide)) rfl ?_
  refine wp_icmp_ge 39 dX0_equalAt_7 (by decide) (fun q => ?_) (fun q => ?_)
  · replace hv := hv.1 q
    refine wp_iconst (v := -1) dX0_equalAt_39 (by decide) ?_
    obtain rfl := hv
    exact wp_ireturn dX0_equalAt_40 rfl rfl rfl hq
  · replace hv := hv.2 q
    refine wp_aload_n (i := 0) dX0_equalAt_10 rfl rfl ?_
    refine wz_getR (b := (a0 + 1)) dX0_equalAt_11 (ak_0 hq0) (f0_15 _ (by decide)) rfl ?_
    refine wp_iload_n (i := 2) dX0_equalAt_14 rfl rfl ?_
    obtain ⟨z1, hv⟩ := hv
    refine wz_iaload dX0_equalAt_15 (ak_1 hq0) z1 ?_
    refine wp_iload_n (i := 1) dX0_equalAt_16 rfl rfl ?_
    refine wp_icmp_ne 33 dX0_equalAt_17 (by decide) (fun q => ?_) (fun q => ?_)
    · replace hv := hv.1 q
      refine wx_iinc (v := 1) (ls' := [(0, .ref a0), (1, .int x1), (2, .int (x2 + 1))]) dX0_equalAt_33 rfl (by decide) (by decide) rfl ?_
      refine wp_goto 2 dX0_equalAt_36 (by decide) ?_
      exact hv Q hq
    · replace hv := hv.2 q
      refine wp_aload_n (i := 0) dX0_equalAt_20 rfl rfl ?_
      refine wz_getR (b := (a0 + 2)) dX0_equalAt_21 (ak_0 hq0) (f0_19 _ (by decide)) rfl ?_
      refine wp_iload_n (i := 2) dX0_equalAt_24 rfl rfl ?_
      obtain ⟨z2, hv⟩ := hv
      refine wz_iaload dX0_equalAt_25 (ak_2 hq0) z2 ?_
      refine wp_bipush (v := 61) dX0_equalAt_26 (by decide) ?_
      refine wp_icmp_ne 33 dX0_equalAt_28 (by decide) (fun q => ?_) (fun q => ?_)
      · replace hv := hv.1 q
        refine wx_iinc (v := 1) (ls' := [(0, .ref a0), (1, .int x1), (2, .int (x2 + 1))]) dX0_equalAt_33 rfl (by decide) (by decide) rfl ?_
        refine wp_goto 2 dX0_equalAt_36 (by decide) ?_
        exact hv Q hq
      · replace hv := hv.2 q
        refine wp_iload_n (i := 2) dX0_equalAt_31 rfl rfl ?_
        obtain rfl := hv
        exact wp_ireturn dX0_equalAt_32 rfl rfl rfl hq
theorem wX0_isLeastOfAll_0 {a0 : Nat} {x1 : Int32} (hK : StK K) (hq0 : IsAk K a0) (hv : (((V a0 4) ≠ 0 → r = some (.int (0 : Int32))) ∧ ((V a0 4) = 0 → (((V a0 5) ≠ (109 : Int32) → r = some (.int (0 : Int32))) ∧ ((V a0 5) = (109 : Int32) → (((V a0 6) ≠ x1 → r = some (.int (0 : Int32))) ∧ ((V a0 6) = x1 → r = some (.int (1 : Int32))))))))) : Ev G d mX0_isLeastOfAll 0 [(0, .ref a0), (1, .int x1)] (K, n, V, J, O) r (K, n, V, J, O) := by
  refine Ev.mk fun Q hq => ?_
  refine wp_aload_n (i := 0) dX0_isLeastOfAll_0 rfl rfl ?_
  refine wz_getI dX0_isLeastOfAll_1 (ak_0 hq0) (f0_25 _ (by decide)) rfl ?_
  refine wp_if_ne 28 dX0_isLeastOfAll_4 (by decide) (fun q => ?_) (fun q => ?_)
  · replace hv := hv.1 q
    refine wp_iconst (v := 0) dX0_isLeastOfAll_28 (by decide) ?_
    obtain rfl := hv
    exact wp_ireturn dX0_isLeastOfAll_29 rfl (by decide) rfl hq
  · replace hv := hv.2 q
    refine wp_aload_n (i := 0) dX0_isLeastOfAll_7 rfl rfl ?_
    refine wz_getI dX0_isLeastOfAll_8 (ak_0 hq0) (f0_55 _ (by decide)) rfl ?_
    refine wp_bipush (v := 109) dX0_isLeastOfAll_11 (by decide) ?_
    refine wp_icmp_ne 28 dX0_isLeastOfAll_13 (by decide) (fun q => ?_) (fun q => ?_)
    · replace hv := hv.1 q
      refine wp_iconst (v := 0) dX0_isLeastOfAll_28 (by decide) ?_
      obtain rfl := hv
      exact wp_ireturn dX0_isLeastOfAll_29 rfl (by decide) rfl hq
    · replace hv := hv.2 q
      refine wp_aload_n (i := 0) dX0_isLeastOfAll_16 rfl rfl ?_
      refine wz_getI dX0_isLeastOfAll_17 (ak_0 hq0) (f0_58 _ (by decide)) rfl ?_
      refine wp_iload_n (i := 1) dX0_isLeastOfAll_20 rfl rfl ?_
      refine wp_icmp_ne 28 dX0_isLeastOfAll_21 (by decide) (fun q => ?_) (fun q => ?_)
      · replace hv := hv.1 q
        refine wp_iconst (v := 0) dX0_isLeastOfAll_28 (by decide) ?_
        obtain rfl := hv
        exact wp_ireturn dX0_isLeastOfAll_29 rfl (by decide) rfl hq
      · replace hv := hv.2 q
        refine wp_iconst (v := 1) dX0_isLeastOfAll_24 (by decide) ?_
        refine wp_goto 29 dX0_isLeastOfAll_25 (by decide) ?_
        obtain rfl := hv
        exact wp_ireturn dX0_isLeastOfAll_29 rfl (by decide) rfl hq
theorem wX0_isCount_0 {a0 : Nat} (hK : StK K) (hq0 : IsAk K a0) (hv : (((V a0 5) ≠ (110 : Int32) → r = some (.int (0 : Int32))) ∧ ((V a0 5) = (110 : Int32) → r = some (.int (1 : Int32))))) : Ev G d mX0_isCount 0 [(0, .ref a0)] (K, n, V, J, O) r (K, n, V, J, O) := by
  refine Ev.mk fun Q hq => ?_
  refine wp_aload_n (i := 0) dX0_isCount_0 rfl rfl ?_
  refine wz_getI dX0_isCount_1 (ak_0 hq0) (f0_55 _ (by decide)) rfl ?_
  refine wp_bipush (v := 110) dX0_isCount_4 (by decide) ?_
  refine wp_icmp_ne 13 dX0_isCount_6 (by decide) (fun q => ?_) (fun q => ?_)
  · replace hv := hv.1 q
    refine wp_iconst (v := 0) dX0_isCount_13 (by decide) ?_
    obtain rfl := hv
    exact wp_ireturn dX0_isCount_14 rfl (by decide) rfl hq
  · replace hv := hv.2 q
    refine wp_iconst (v := 1) dX0_isCount_9 (by decide) ?_
    refine wp_goto 14 dX0_isCount_10 (by decide) ?_
    obtain rfl := hv
    exact wp_ireturn dX0_isCount_14 rfl (by decide) rfl hq
theorem wX0_isCountOfOneValue_0 {a0 : Nat} {x1 : Int32} (hK : StK K) (hq0 : IsAk K a0) (hv : (∃ (v1 : Int32), Ev G d mX0_isCount 0 [(0, .ref a0)] (K, n, V, J, O) (some (.int v1)) (K, n, V, J, O) ∧ ((v1 = 0 → r = some (.int (0 : Int32))) ∧ (¬ v1 = 0 → (((V a0 4) ≠ (1 : Int32) → r = some (.int (0 : Int32))) ∧ ((V a0 4) = (1 : Int32) → (∃ (v2 : Int32), Ev G d mX0_hasEqual 0 [(0, .ref a0), (1, .int x1)] (K, n, V, J, O) (some (.int v2)) (K, n, V, J, O) ∧ ((v2 = 0 → r = some (.int (0 : Int32))) ∧ (¬ v2 = 0 → r = some (.int (1 : Int32))))))))))) : Ev G (d + 1) mX0_isCountOfOneValue 0 [(0, .ref a0), (1, .int x1)] (K, n, V, J, O) r (K, n, V, J, O) := by
  refine Ev.mk fun Q hq => ?_
  refine wp_aload_n (i := 0) dX0_isCountOfOneValue_0 rfl rfl ?_
  obtain ⟨v1, hE, hv⟩ := hv
  refine wz_callV (vs := []) (st := []) dX0_isCountOfOneValue_1 (ak_0 hq0) rfl k0_105_0 hE rfl (Nat.le_of_ble_eq_true rfl) (Nat.le_of_ble_eq_true rfl) ?_
  change wp _ _ _ _ _ [.int v1] _ _ _
  refine wp_if_eq 27 dX0_isCountOfOneValue_4 (by decide) (fun q => ?_) (fun q => ?_)
  · replace hv := hv.1 q
    refine wp_iconst (v := 0) dX0_isCountOfOneValue_27 (by decide) ?_
    obtain rfl := hv
    exact wp_ireturn dX0_isCountOfOneValue_28 rfl (by decide) rfl hq
  · replace hv := hv.2 q
    refine wp_aload_n (i := 0) dX0_isCountOfOneValue_7 rfl rfl ?_
    refine wz_getI dX0_isCountOfOneValue_8 (ak_0 hq0) (f0_25 _ (by decide)) rfl ?_
    refine wp_iconst (v := 1) dX0_isCountOfOneValue_11 (by decide) ?_
    refine wp_icmp_ne 27 dX0_isCountOfOneValue_12 (by decide) (fun q => ?_) (fun q => ?_)
    · replace hv := hv.1 q
      refine wp_iconst (v := 0) dX0_isCountOfOneValue_27 (by decide) ?_
      obtain rfl := hv
      exact wp_ireturn dX0_isCountOfOneValue_28 rfl (by decide) rfl hq
    · replace hv := hv.2 q
      refine wp_aload_n (i := 0) dX0_isCountOfOneValue_15 rfl rfl ?_
      refine wp_iload_n (i := 1) dX0_isCountOfOneValue_16 rfl rfl ?_
      obtain ⟨v2, hE, hv⟩ := hv
      refine wz_callV (vs := [.int x1]) (st := []) dX0_isCountOfOneValue_17 (ak_0 hq0) rfl k0_109_0 hE rfl (Nat.le_of_ble_eq_true rfl) (Nat.le_of_ble_eq_true rfl) ?_
      change wp _ _ _ _ _ [.int v2] _ _ _
      refine wp_if_eq 27 dX0_isCountOfOneValue_20 (by decide) (fun q => ?_) (fun q => ?_)
      · replace hv := hv.1 q
        refine wp_iconst (v := 0) dX0_isCountOfOneValue_27 (by decide) ?_
        obtain rfl := hv
        exact wp_ireturn dX0_isCountOfOneValue_28 rfl (by decide) rfl hq
      · replace hv := hv.2 q
        refine wp_iconst (v := 1) dX0_isCountOfOneValue_23 (by decide) ?_
        refine wp_goto 28 dX0_isCountOfOneValue_24 (by decide) ?_
        obtain rfl := hv
        exact wp_ireturn dX0_isCountOfOneValue_28 rfl (by decide) rfl hq
theorem wX0_isFromSums_0 {a0 : Nat} {x1 : Int32} (hK : StK K) (hq0 : IsAk K a0) (hv : Ev G (d + 1) mX0_isFromSums 2 [(0, .ref a0), (1, .int x1), (2, .int (0 : Int32))] (K, n, V, J, O) r (K, n, V, J, O)) : Ev G (d + 1) mX0_isFromSums 0 [(0, .ref a0), (1, .int x1)] (K, n, V, J, O) r (K, n, V, J, O) := by
  refine Ev.mk fun Q hq => ?_
  refine wp_iconst (v := 0) dX0_isFromSums_0 (by decide) ?_
  refine wx_istore_n (ls' := [(0, .ref a0), (1, .int x1), (2, .int (0 : Int32))]) (i := 2) dX0_isFromSums_1 rfl (by decide) rfl ?_
  exact hv Q hq
theorem wX0_isFromSums_2 {a0 : Nat} {x1 : Int32} {x2 : Int32} (hK : StK K) (hq0 : IsAk K a0) (hv : (((V a0 4) ≤ x2 → (∃ (v1 : Int32), Ev G d mX0_isCount 0 [(0, .ref a0)] (K, n, V, J, O) (some (.int v1)) (K, n, V, J, O) ∧ ((v1 ≠ 0 → r = some (.int (1 : Int32))) ∧ (v1 = 0 → (((V a0 5) ≠ (115 : Int32) → r = some (.int (0 : Int32))) ∧ ((V a0 5) = (115 : Int32) → (((V a0 6) ≠ x1 → r = some (.int (0 : Int32))) ∧ ((V a0 6) = x1 → r = some (.int (1 : Int32)))))))))) ∧ (¬ (V a0 4) ≤ x2 → (vp_in x2 15 ∧ (((V (a0 + 1) (x2).toNatClampNeg) = x1 → Ev G (d + 1) mX0_isFromSums 2 [(0, .ref a0), (1, .int x1), (2, .int (x2 + 1))] (K, n, V, J, O) r (K, n, V, J, O)) ∧ (¬ (V (a0 + 1) (x2).toNatClampNeg) = x1 → r = some (.int (0 : Int32)))))))) : Ev G (d + 1) mX0_isFromSums 2 [(0, .ref a0), (1, .int x1), (2, .int x2)] (K, n, V, J, O) r (K, n, V, J, O) := by
  refine Ev.mk fun Q hq => ?_
  refine wp_iload_n (i := 2) dX0_isFromSums_2 rfl rfl ?_
  refine wp_aload_n (i := 0) dX0_isFromSums_3 rfl rfl ?_
  refine wz_getI dX0_isFromSums_4 (ak_0 hq0) (f0_25 _ (by decide)) rfl ?_
  refine wp_icmp_ge 28 dX0_isFromSums_7 (by decide) (fun q => ?_) (fun q => ?_)
  · replace hv := hv.1 q
    refine wp_aload_n (i := 0) dX0_isFromSums_28 rfl rfl ?_
    obtain ⟨v1, hE, hv⟩ := hv
    refine wz_callV (vs := []) (st := []) dX0_isFromSums_29 (ak_0 hq0) rfl k0_105_0 hE rfl (Nat.le_of_ble_eq_true rfl) (Nat.le_of_ble_eq_true rfl) ?_
    change wp _ _ _ _ _ [.int v1] _ _ _
    refine wp_if_ne 52 dX0_isFromSums_32 (by decide) (fun q => ?_) (fun q => ?_)
    · replace hv := hv.1 q
      refine wp_iconst (v := 1) dX0_isFromSums_52 (by decide) ?_
      refine wp_goto 57 dX0_isFromSums_53 (by decide) ?_
      obtain rfl := hv
      exact wp_ireturn dX0_isFromSums_57 rfl (by decide) rfl hq
    · replace hv := hv.2 q
      refine wp_aload_n (i := 0) dX0_isFromSums_35 rfl rfl ?_
      refine wz_getI dX0_isFromSums_36 (ak_0 hq0) (f0_55 _ (by decide)) rfl ?_
      refine wp_bipush (v := 115) dX0_isFromSums_39 (by decide) ?_
      refine wp_icmp_ne 56 dX0_isFromSums_41 (by decide) (fun q => ?_) (fun q => ?_)
      · replace hv := hv.1 q
        refine wp_iconst (v := 0) dX0_isFromSums_56 (by decide) ?_
        obtain rfl := hv
        exact wp_ireturn dX0_isFromSums_57 rfl (by decide) rfl hq
      · replace hv := hv.2 q
        refine wp_aload_n (i := 0) dX0_isFromSums_44 rfl rfl ?_
        refine wz_getI dX0_isFromSums_45 (ak_0 hq0) (f0_58 _ (by decide)) rfl ?_
        refine wp_iload_n (i := 1) dX0_isFromSums_48 rfl rfl ?_
        refine wp_icmp_ne 56 dX0_isFromSums_49 (by decide) (fun q => ?_) (fun q => ?_)
        · replace hv := hv.1 q
          refine wp_iconst (v := 0) dX0_isFromSums_56 (by decide) ?_
          obtain rfl := hv
          exact wp_ireturn dX0_isFromSums_57 rfl (by decide) rfl hq
        · replace hv := hv.2 q
          refine wp_iconst (v := 1) dX0_isFromSums_52 (by decide) ?_
          refine wp_goto 57 dX0_isFromSums_53 (by decide) ?_
          obtain rfl := hv
          exact wp_ireturn dX0_isFromSums_57 rfl (by decide) rfl hq
  · replace hv := hv.2 q
    refine wp_aload_n (i := 0) dX0_isFromSums_10 rfl rfl ?_
    refine wz_getR (b := (a0 + 1)) dX0_isFromSums_11 (ak_0 hq0) (f0_15 _ (by decide)) rfl ?_
    refine wp_iload_n (i := 2) dX0_isFromSums_14 rfl rfl ?_
    obtain ⟨z2, hv⟩ := hv
    refine wz_iaload dX0_isFromSums_15 (ak_1 hq0) z2 ?_
    refine wp_iload_n (i := 1) dX0_isFromSums_16 rfl rfl ?_
    refine wp_icmp_eq 22 dX0_isFromSums_17 (by decide) (fun q => ?_) (fun q => ?_)
    · replace hv := hv.1 q
      refine wx_iinc (v := 1) (ls' := [(0, .ref a0), (1, .int x1), (2, .int (x2 + 1))]) dX0_isFromSums_22 rfl (by decide) (by decide) rfl ?_
      refine wp_goto 2 dX0_isFromSums_25 (by decide) ?_
      exact hv Q hq
    · replace hv := hv.2 q
      refine wp_iconst (v := 0) dX0_isFromSums_20 (by decide) ?_
      obtain rfl := hv
      exact wp_ireturn dX0_isFromSums_21 rfl (by decide) rfl hq
theorem wX1_kind_0 {a0 : Nat} {ky0 : Nat} (hK : StK K) (ha0 : IsSt K a0 1 ky0) (hv : r = some (.int (6 : Int32))) : Ev G d mX1_kind 0 [(0, .ref a0)] (K, n, V, J, O) r (K, n, V, J, O) := by
  refine Ev.mk fun Q hq => ?_
  refine wp_bipush (v := 6) dX1_kind_0 (by decide) ?_
  obtain rfl := hv
  exact wp_ireturn dX1_kind_2 rfl rfl rfl hq
theorem wX1_bitsOf_0 {x0 : Int32} (hK : StK K)  (hv : r = some (.int (((1 : Int32) <<< (((x0 * (7 : Int32)) - (x0 * (7 : Int32)) / (32 : Int32) * (32 : Int32)) &&& 31)) ||| ((1 : Int32) <<< (((x0 * (11 : Int32)) - (x0 * (11 : Int32)) / (32 : Int32) * (32 : Int32)) &&& 31))))) : Ev G d mX1_bitsOf 0 [(0, .int x0)] (K, n, V, J, O) r (K, n, V, J, O) := by
  refine Ev.mk fun Q hq => ?_
  refine wp_iconst (v := 1) dX1_bitsOf_0 (by decide) ?_
  refine wp_iload_n (i := 0) dX1_bitsOf_1 rfl rfl ?_
  refine wp_bipush (v := 7) dX1_bitsOf_2 (by decide) ?_
  refine wp_imul dX1_bitsOf_4 ?_
  refine wp_bipush (v := 32) dX1_bitsOf_5 (by decide) ?_
  refine wp_irem dX1_bitsOf_7 (by decide) ?_
  refine wp_ishl dX1_bitsOf_8 ?_
  refine wp_iconst (v := 1) dX1_bitsOf_9 (by decide) ?_
  refine wp_iload_n (i := 0) dX1_bitsOf_10 rfl rfl ?_
  refine wp_bipush (v := 11) dX1_bitsOf_11 (by decide) ?_
  refine wp_imul dX1_bitsOf_13 ?_
  refine wp_bipush (v := 32) dX1_bitsOf_14 (by decide) ?_
  refine wp_irem dX1_bitsOf_16 (by decide) ?_
  refine wp_ishl dX1_bitsOf_17 ?_
  refine wp_ior dX1_bitsOf_18 ?_
  obtain rfl := hv
  exact wp_ireturn dX1_bitsOf_19 rfl rfl rfl hq
theorem wX1_putName_0 {a0 : Nat} {ky0 : Nat} {x1 : Int32} (hK : StK K) (ha0 : IsSt K a0 1 ky0) (hv : (vp_in x1 80 ∧ (∃ (v2 : Int32), Ev G d mX1_bitsOf 0 [(0, .int ((up2 V a0 8 ((V a0 8) + (2 : Int32))) (4 + 1 + ky0) (x1).toNatClampNeg))] (K, n, (up2 V a0 8 ((V a0 8) + (2 : Int32))), J, O) (some (.int v2)) (K, n, (up2 V a0 8 ((V a0 8) + (2 : Int32))), J, O) ∧ (r = none ∧ V' = (up2 (up2 V a0 8 ((V a0 8) + (2 : Int32))) a0 11 ((V a0 11) ||| v2)))))) : Ev G (d + 1) mX1_putName 0 [(0, .ref a0), (1, .int x1)] (K, n, V, J, O) r (K, n, V', J, O) := by
  refine Ev.mk fun Q hq => ?_
  refine wp_aload_n (i := 0) dX1_putName_0 rfl rfl ?_
  refine wp_dupR dX1_putName_1 ?_
  refine wz_getI dX1_putName_2 (st_0 ha0) (f1_9 _ (by decide)) rfl ?_
  refine wp_iconst (v := 2) dX1_putName_5 (by decide) ?_
  refine wp_iadd dX1_putName_6 ?_
  refine wz_putI dX1_putName_7 (st_0 ha0) (w1_9 _ (by decide)) rfl ?_
  refine wp_aload_n (i := 0) dX1_putName_10 rfl rfl ?_
  refine wp_dupR dX1_putName_11 ?_
  refine wz_getIe (v := (V a0 11)) dX1_putName_12 (st_0 ha0) (f1_15 _ (by decide)) rfl (up2_k (by decide)) ?_
  refine wp_aload_n (i := 0) dX1_putName_15 rfl rfl ?_
  refine wz_getR (b := (4 + 1 + ky0)) dX1_putName_16 (st_0 ha0) (f1_18 _ (by decide)) rfl ?_
  refine wp_iload_n (i := 1) dX1_putName_19 rfl rfl ?_
  obtain ⟨z1, hv⟩ := hv
  refine wz_iaload dX1_putName_20 (st_k hK ha0) z1 ?_
  obtain ⟨v2, hE, hv⟩ := hv
  refine wz_callS (vs := [.int ((up2 V a0 8 ((V a0 8) + (2 : Int32))) (4 + 1 + ky0) (x1).toNatClampNeg)]) (st := [.int (V a0 11), .ref a0]) dX1_putName_21 k1_22 hE rfl (Nat.le_of_ble_eq_true rfl) (Nat.le_of_ble_eq_true rfl) ?_
  change wp _ _ _ _ _ [.int v2, .int (V a0 11), .ref a0] _ _ _
  refine wp_ior dX1_putName_24 ?_
  refine wz_putI dX1_putName_25 (st_0 ha0) (w1_15 _ (by decide)) rfl ?_
  obtain ⟨rfl, rfl⟩ := hv
  exact wp_return dX1_putName_28 rfl rfl hq
theorem wX1_takeName_0 {a0 : Nat} {ky0 : Nat} {x1 : Int32} (hK : StK K) (ha0 : IsSt K a0 1 ky0) (hv : (r = none ∧ V' = (up2 V a0 8 ((V a0 8) + (1 : Int32))))) : Ev G d mX1_takeName 0 [(0, .ref a0), (1, .int x1)] (K, n, V, J, O) r (K, n, V', J, O) := by
  refine Ev.mk fun Q hq => ?_
  refine wp_aload_n (i := 0) dX1_takeName_0 rfl rfl ?_
  refine wp_dupR dX1_takeName_1 ?_
  refine wz_getI dX1_takeName_2 (st_0 ha0) (f1_9 _ (by decide)) rfl ?_
  refine wp_iconst (v := 1) dX1_takeName_5 (by decide) ?_
  refine wp_iadd dX1_takeName_6 ?_
  refine wz_putI dX1_takeName_7 (st_0 ha0) (w1_9 _ (by decide)) rfl ?_
  obtain ⟨rfl, rfl⟩ := hv
  exact wp_return dX1_takeName_10 rfl rfl hq
theorem wX1_howMany_0 {a0 : Nat} {ky0 : Nat} (hK : StK K) (ha0 : IsSt K a0 1 ky0) (hv : (∃ (v1 : Int32), Ev G d mJ6_bitCount_0f7a4 0 [(0, .int (V a0 11))] (K, n, V, J, O) (some (.int v1)) (K, n, V, J, O) ∧ r = some (.int v1))) : Ev G (d + 1) mX1_howMany 0 [(0, .ref a0)] (K, n, V, J, O) r (K, n, V, J, O) := by
  refine Ev.mk fun Q hq => ?_
  refine wp_aload_n (i := 0) dX1_howMany_0 rfl rfl ?_
  refine wz_getI dX1_howMany_1 (st_0 ha0) (f1_15 _ (by decide)) rfl ?_
  obtain ⟨v1, hE, hv⟩ := hv
  refine wz_callS (vs := [.int (V a0 11)]) (st := []) dX1_howMany_4 k1_26 hE rfl (Nat.le_of_ble_eq_true rfl) (Nat.le_of_ble_eq_true rfl) ?_
  change wp _ _ _ _ _ [.int v1] _ _ _
  obtain rfl := hv
  exact wp_ireturn dX1_howMany_7 rfl rfl rfl hq
theorem wX1_nameIn_0 {a0 : Nat} {ky0 : Nat} {x1 : Int32} (hK : StK K) (ha0 : IsSt K a0 1 ky0) (hv : r = some (.int (-1 : Int32))) : Ev G d mX1_nameIn 0 [(0, .ref a0), (1, .int x1)] (K, n, V, J, O) r (K, n, V, J, O) := by
  refine Ev.mk fun Q hq => ?_
  refine wp_iconst (v := -1) dX1_nameIn_0 (by decide) ?_
  obtain rfl := hv
  exact wp_ireturn dX1_nameIn_1 rfl rfl rfl hq
theorem wX1_run_0 {a0 : Nat} {ky0 : Nat} {a1 : Nat} (hK : StK K) (ha0 : IsSt K a0 1 ky0) (hq1 : IsAk K a1) (hv : (∃ (v1 : Int32), Ev G d mX0_isCountOfOneValue 0 [(0, .ref a1), (1, .int (V a0 2))] (K, n, V, J, O) (some (.int v1)) (K, n, V, J, O) ∧ ((v1 ≠ 0 → (∃ (v2 : Int32), Ev G d mX0_firstEqual 0 [(0, .ref a1), (1, .int (V a0 2))] (K, n, (up2 V a0 8 ((V a0 8) + (2 : Int32))), J, O) (some (.int v2)) (K, n, (up2 V a0 8 ((V a0 8) + (2 : Int32))), J, O) ∧ (∃ (v3 : Int32), Ev G d mX1_bitsOf 0 [(0, .int v2)] (K, n, (up2 V a0 8 ((V a0 8) + (2 : Int32))), J, O) (some (.int v3)) (K, n, (up2 V a0 8 ((V a0 8) + (2 : Int32))), J, O) ∧ ((((V a0 11) &&& v3) ≠ v3 → (r = some (.int (0 : Int32)) ∧ V' = (up2 V a0 8 ((V a0 8) + (2 : Int32))))) ∧ (((V a0 11) &&& v3) = v3 → (r = some (.int (-6 : Int32)) ∧ V' = (up2 V a0 8 ((V a0 8) + (2 : Int32))))))))) ∧ (v1 = 0 → (r = some (.int (-2 : Int32)) ∧ V' = V))))) : Ev G (d + 1) mX1_run 0 [(0, .ref a0), (1, .ref a1)] (K, n, V, J, O) r (K, n, V', J, O) := by
  refine Ev.mk fun Q hq => ?_
  refine wp_aload_n (i := 1) dX1_run_0 rfl rfl ?_
  refine wp_aload_n (i := 0) dX1_run_1 rfl rfl ?_
  refine wz_getI dX1_run_2 (st_0 ha0) (f1_31 _ (by decide)) rfl ?_
  obtain ⟨v1, hE, hv⟩ := hv
  refine wz_callV (vs := [.int (V a0 2)]) (st := []) dX1_run_5 (ak_0 hq1) rfl k1_34_0 hE rfl (Nat.le_of_ble_eq_true rfl) (Nat.le_of_ble_eq_true rfl) ?_
  change wp _ _ _ _ _ [.int v1] _ _ _
  refine wp_if_ne 14 dX1_run_8 (by decide) (fun q => ?_) (fun q => ?_)
  · replace hv := hv.1 q
    refine wp_aload_n (i := 0) dX1_run_14 rfl rfl ?_
    refine wp_dupR dX1_run_15 ?_
    refine wz_getI dX1_run_16 (st_0 ha0) (f1_9 _ (by decide)) rfl ?_
    refine wp_iconst (v := 2) dX1_run_19 (by decide) ?_
    refine wp_iadd dX1_run_20 ?_
    refine wz_putI dX1_run_21 (st_0 ha0) (w1_9 _ (by decide)) rfl ?_
    refine wp_aload_n (i := 1) dX1_run_24 rfl rfl ?_
    refine wp_aload_n (i := 0) dX1_run_25 rfl rfl ?_
    refine wz_getIe (v := (V a0 2)) dX1_run_26 (st_0 ha0) (f1_31 _ (by decide)) rfl (up2_k (by decide)) ?_
    obtain ⟨v2, hE, hv⟩ := hv
    refine wz_callV (vs := [.int (V a0 2)]) (st := []) dX1_run_29 (ak_0 hq1) rfl k1_40_0 hE rfl (Nat.le_of_ble_eq_true rfl) (Nat.le_of_ble_eq_true rfl) ?_
    change wp _ _ _ _ _ [.int v2] _ _ _
    obtain ⟨v3, hE, hv⟩ := hv
    refine wz_callS (vs := [.int v2]) (st := []) dX1_run_32 k1_22 hE rfl (Nat.le_of_ble_eq_true rfl) (Nat.le_of_ble_eq_true rfl) ?_
    change wp _ _ _ _ _ [.int v3] _ _ _
    refine wx_istore_n (ls' := [(0, .ref a0), (1, .ref a1), (2, .int v3)]) (i := 2) dX1_run_35 rfl (by decide) rfl ?_
    refine wp_aload_n (i := 0) dX1_run_36 rfl rfl ?_
    refine wz_getIe (v := (V a0 11)) dX1_run_37 (st_0 ha0) (f1_15 _ (by decide)) rfl (up2_k (by decide)) ?_
    refine wp_iload_n (i := 2) dX1_run_40 rfl rfl ?_
    refine wp_iand dX1_run_41 ?_
    refine wp_iload_n (i := 2) dX1_run_42 rfl rfl ?_
    refine wp_icmp_ne 51 dX1_run_43 (by decide) (fun q => ?_) (fun q => ?_)
    · replace hv := hv.1 q
      refine wp_iconst (v := 0) dX1_run_51 (by decide) ?_
      obtain ⟨rfl, rfl⟩ := hv
      exact wp_ireturn dX1_run_52 rfl rfl rfl hq
    · replace hv := hv.2 q
      refine wp_bipush (v := -6) dX1_run_46 (by decide) ?_
      refine wp_goto 52 dX1_run_48 (by decide) ?_
      obtain ⟨rfl, rfl⟩ := hv
      exact wp_ireturn dX1_run_52 rfl rfl rfl hq
  · replace hv := hv.2 q
    refine wp_bipush (v := -2) dX1_run_11 (by decide) ?_
    obtain ⟨rfl, rfl⟩ := hv
    exact wp_ireturn dX1_run_13 rfl rfl rfl hq
theorem wX1_priceFor_0 {a0 : Nat} {ky0 : Nat} {a1 : Nat} {x2 : Int32} (hK : StK K) (ha0 : IsSt K a0 1 ky0) (hq1 : IsAk K a1) (hv : (∃ (v1 : Int32), Ev G d mX0_isCountOfOneValue 0 [(0, .ref a1), (1, .int (V a0 2))] (K, n, V, J, O) (some (.int v1)) (K, n, V, J, O) ∧ ((v1 = 0 → r = some (.int (-2 : Int32))) ∧ (¬ v1 = 0 → r = some (.int (2 : Int32)))))) : Ev G (d + 1) mX1_priceFor 0 [(0, .ref a0), (1, .ref a1), (2, .int x2)] (K, n, V, J, O) r (K, n, V, J, O) := by
  refine Ev.mk fun Q hq => ?_
  refine wp_aload_n (i := 1) dX1_priceFor_0 rfl rfl ?_
  refine wp_aload_n (i := 0) dX1_priceFor_1 rfl rfl ?_
  refine wz_getI dX1_priceFor_2 (st_0 ha0) (f1_31 _ (by decide)) rfl ?_
  obtain ⟨v1, hE, hv⟩ := hv
  refine wz_callV (vs := [.int (V a0 2)]) (st := []) dX1_priceFor_5 (ak_0 hq1) rfl k1_34_0 hE rfl (Nat.le_of_ble_eq_true rfl) (Nat.le_of_ble_eq_true rfl) ?_
  change wp _ _ _ _ _ [.int v1] _ _ _
  refine wp_if_eq 15 dX1_priceFor_8 (by decide) (fun q => ?_) (fun q => ?_)
  · replace hv := hv.1 q
    refine wp_bipush (v := -2) dX1_priceFor_15 (by decide) ?_
    obtain rfl := hv
    exact wp_ireturn dX1_priceFor_17 rfl rfl rfl hq
  · replace hv := hv.2 q
    refine wp_iconst (v := 2) dX1_priceFor_11 (by decide) ?_
    refine wp_goto 17 dX1_priceFor_12 (by decide) ?_
    obtain rfl := hv
    exact wp_ireturn dX1_priceFor_17 rfl rfl rfl hq
theorem wX1_priceOfPut_0 {a0 : Nat} {ky0 : Nat} {x1 : Int32} (hK : StK K) (ha0 : IsSt K a0 1 ky0) (hv : r = some (.int (2 : Int32))) : Ev G d mX1_priceOfPut 0 [(0, .ref a0), (1, .int x1)] (K, n, V, J, O) r (K, n, V, J, O) := by
  refine Ev.mk fun Q hq => ?_
  refine wp_iconst (v := 2) dX1_priceOfPut_0 (by decide) ?_
  obtain rfl := hv
  exact wp_ireturn dX1_priceOfPut_1 rfl rfl rfl hq
theorem wX1_finds_0 {a0 : Nat} {ky0 : Nat} {x1 : Int32} (hK : StK K) (ha0 : IsSt K a0 1 ky0) (hv : (∃ (V1 : SV), Ev G d mX5_led 0 [(0, .ref a0), (1, .int (70 : Int32))] (K, n, V, J, O) none (K, n, V1, J, O) ∧ (∃ (v3 : Int32) (V2 : SV), Ev G d mX7_finds 0 [(0, .ref a0), (1, .int (x1 + (1 : Int32)))] (K, n, V1, J, O) (some (.int v3)) (K, n, V2, J, O) ∧ (r = some (.int (-v3)) ∧ V' = V2)))) : Ev G (d + 1) mX1_finds 0 [(0, .ref a0), (1, .int x1)] (K, n, V, J, O) r (K, n, V', J, O) := by
  refine Ev.mk fun Q hq => ?_
  refine wp_aload_n (i := 0) dX1_finds_0 rfl rfl ?_
  refine wp_bipush (v := 70) dX1_finds_1 (by decide) ?_
  obtain ⟨V1, hE, hv⟩ := hv
  refine wz_callU (vs := [.int (70 : Int32)]) (st := []) dX1_finds_3 (st_0 ha0) rfl k1_43_1 hE rfl (Nat.le_of_ble_eq_true rfl) (Nat.le_of_ble_eq_true rfl) ?_
  change wp _ _ _ _ _ [] _ _ _
  refine wp_aload_n (i := 0) dX1_finds_6 rfl rfl ?_
  refine wp_iload_n (i := 1) dX1_finds_7 rfl rfl ?_
  refine wp_iconst (v := 1) dX1_finds_8 (by decide) ?_
  refine wp_iadd dX1_finds_9 ?_
  obtain ⟨v3, V2, hE, hv⟩ := hv
  refine wz_callSU (vs := [.int (x1 + (1 : Int32))]) (st := []) dX1_finds_10 (st_0 ha0) (acls_at (by decide)) su1_47 hE rfl (Nat.le_of_ble_eq_true rfl) (Nat.le_of_ble_eq_true rfl) ?_
  change wp _ _ _ _ _ [.int v3] _ _ _
  refine wp_ineg dX1_finds_13 ?_
  obtain ⟨rfl, rfl⟩ := hv
  exact wp_ireturn dX1_finds_14 rfl rfl rfl hq
theorem wX1_keeps_0 {a0 : Nat} {ky0 : Nat} {x1 : Int32} (hK : StK K) (ha0 : IsSt K a0 1 ky0) (hv : (∃ (V1 : SV), Ev G d mX5_led 0 [(0, .ref a0), (1, .int (71 : Int32))] (K, n, V, J, O) none (K, n, V1, J, O) ∧ (∃ (v3 : Int32) (V2 : SV), Ev G d mX5_keeps 0 [(0, .ref a0), (1, .int x1)] (K, n, V1, J, O) (some (.int v3)) (K, n, V2, J, O) ∧ (r = some (.int (v3 * (2 : Int32))) ∧ V' = V2)))) : Ev G (d + 1) mX1_keeps 0 [(0, .ref a0), (1, .int x1)] (K, n, V, J, O) r (K, n, V', J, O) := by
  refine Ev.mk fun Q hq => ?_
  refine wp_aload_n (i := 0) dX1_keeps_0 rfl rfl ?_
  refine wp_bipush (v := 71) dX1_keeps_1 (by decide) ?_
  obtain ⟨V1, hE, hv⟩ := hv
  refine wz_callU (vs := [.int (71 : Int32)]) (st := []) dX1_keeps_3 (st_0 ha0) rfl k1_43_1 hE rfl (Nat.le_of_ble_eq_true rfl) (Nat.le_of_ble_eq_true rfl) ?_
  change wp _ _ _ _ _ [] _ _ _
  refine wp_aload_n (i := 0) dX1_keeps_6 rfl rfl ?_
  refine wp_iload_n (i := 1) dX1_keeps_7 rfl rfl ?_
  obtain ⟨v3, V2, hE, hv⟩ := hv
  refine wz_callSV (vs := [.int x1]) (st := []) dX1_keeps_8 (st_0 ha0) (acls_at (by decide)) sv1_50 hE rfl (Nat.le_of_ble_eq_true rfl) (Nat.le_of_ble_eq_true rfl) ?_
  change wp _ _ _ _ _ [.int v3] _ _ _
  refine wp_iconst (v := 2) dX1_keeps_11 (by decide) ?_
  refine wp_imul dX1_keeps_12 ?_
  obtain ⟨rfl, rfl⟩ := hv
  exact wp_ireturn dX1_keeps_13 rfl rfl rfl hq
theorem wX2_kind_0 {a0 : Nat} {ky0 : Nat} (hK : StK K) (ha0 : IsSt K a0 2 ky0) (hv : r = some (.int (3 : Int32))) : Ev G d mX2_kind 0 [(0, .ref a0)] (K, n, V, J, O) r (K, n, V, J, O) := by
  refine Ev.mk fun Q hq => ?_
  refine wp_iconst (v := 3) dX2_kind_0 (by decide) ?_
  obtain rfl := hv
  exact wp_ireturn dX2_kind_1 rfl rfl rfl hq
theorem wX2_putName_0 {a0 : Nat} {ky0 : Nat} {x1 : Int32} (hK : StK K) (ha0 : IsSt K a0 2 ky0) (hv : (∃ (V1 : SV), Ev G d mX3_insertAt 0 [(0, .ref a0), (1, .int (V a0 10)), (2, .int x1)] (K, n, V, J, O) none (K, n, V1, J, O) ∧ (∃ (v3 : Int32) (V2 : SV), Ev G d mX2_rise 0 [(0, .ref a0), (1, .int ((V1 a0 10) - (1 : Int32)))] (K, n, V1, J, O) (some (.int v3)) (K, n, V2, J, O) ∧ (r = none ∧ V' = V2)))) : Ev G (d + 1) mX2_putName 0 [(0, .ref a0), (1, .int x1)] (K, n, V, J, O) r (K, n, V', J, O) := by
  refine Ev.mk fun Q hq => ?_
  refine wp_aload_n (i := 0) dX2_putName_0 rfl rfl ?_
  refine wp_aload_n (i := 0) dX2_putName_1 rfl rfl ?_
  refine wz_getI dX2_putName_2 (st_0 ha0) (f2_7 _ (by decide)) rfl ?_
  refine wp_iload_n (i := 1) dX2_putName_5 rfl rfl ?_
  obtain ⟨V1, hE, hv⟩ := hv
  refine wz_callU (vs := [.int (V a0 10), .int x1]) (st := []) dX2_putName_6 (st_0 ha0) rfl k2_13_2 hE rfl (Nat.le_of_ble_eq_true rfl) (Nat.le_of_ble_eq_true rfl) ?_
  change wp _ _ _ _ _ [] _ _ _
  refine wp_aload_n (i := 0) dX2_putName_9 rfl rfl ?_
  refine wp_aload_n (i := 0) dX2_putName_10 rfl rfl ?_
  refine wz_getI dX2_putName_11 (st_0 ha0) (f2_7 _ (by decide)) rfl ?_
  refine wp_iconst (v := 1) dX2_putName_14 (by decide) ?_
  refine wp_isub dX2_putName_15 ?_
  obtain ⟨v3, V2, hE, hv⟩ := hv
  refine wz_callV (vs := [.int ((V1 a0 10) - (1 : Int32))]) (st := []) dX2_putName_16 (st_0 ha0) rfl k2_17_2 hE rfl (Nat.le_of_ble_eq_true rfl) (Nat.le_of_ble_eq_true rfl) ?_
  change wp _ _ _ _ _ [.int v3] _ _ _
  refine wp_popI dX2_putName_19 ?_
  obtain ⟨rfl, rfl⟩ := hv
  exact wp_return dX2_putName_20 rfl rfl hq
theorem wX2_takeName_0 {a0 : Nat} {ky0 : Nat} {x1 : Int32} (hK : StK K) (ha0 : IsSt K a0 2 ky0) (hv : (∃ (v1 : Int32), Ev G d mX3_placeOf 0 [(0, .ref a0), (1, .int x1)] (K, n, V, J, O) (some (.int v1)) (K, n, V, J, O) ∧ ((v1 < (V a0 10) → ((v1 ≠ ((V a0 10) - (1 : Int32)) → (vp_in ((V a0 10) - (1 : Int32)) 80 ∧ (vp_in v1 80 ∧ (∃ (v5 : Int32) (V4 : SV), Ev G d mX2_rise 0 [(0, .ref a0), (1, .int v1)] (K, n, (up2 (up2 (up2 V a0 8 ((V a0 8) + (v1 + (1 : Int32)))) a0 10 ((V a0 10) - (1 : Int32))) (a0 + 2) (v1).toNatClampNeg ((up2 (up2 V a0 8 ((V a0 8) + (v1 + (1 : Int32)))) a0 10 ((V a0 10) - (1 : Int32))) (a0 + 2) (((V a0 10) - (1 : Int32))).toNatClampNeg)), J, O) (some (.int v5)) (K, n, V4, J, O) ∧ ((v5 ≠ v1 → (r = none ∧ V' = V4)) ∧ (v5 = v1 → (∃ (V6 : SV), Ev G d mX2_sink 0 [(0, .ref a0), (1, .int v1)] (K, n, V4, J, O) none (K, n, V6, J, O) ∧ (r = none ∧ V' = V6)))))))) ∧ (v1 = ((V a0 10) - (1 : Int32)) → (r = none ∧ V' = (up2 (up2 V a0 8 ((V a0 8) + (v1 + (1 : Int32)))) a0 10 ((V a0 10) - (1 : Int32))))))) ∧ (¬ v1 < (V a0 10) → (r = none ∧ V' = V))))) : Ev G (d + 1) mX2_takeName 0 [(0, .ref a0), (1, .int x1)] (K, n, V, J, O) r (K, n, V', J, O) := by
  refine Ev.mk fun Q hq => ?_
  refine wp_aload_n (i := 0) dX2_takeName_0 rfl rfl ?_
  refine wp_iload_n (i := 1) dX2_takeName_1 rfl rfl ?_
  obtain ⟨v1, hE, hv⟩ := hv
  refine wz_callU (vs := [.int x1]) (st := []) dX2_takeName_2 (st_0 ha0) rfl k2_21_2 hE rfl (Nat.le_of_ble_eq_true rfl) (Nat.le_of_ble_eq_true rfl) ?_
  change wp _ _ _ _ _ [.int v1] _ _ _
  refine wx_istore_n (ls' := [(0, .ref a0), (1, .int x1), (2, .int v1)]) (i := 2) dX2_takeName_5 rfl (by decide) rfl ?_
  refine wp_iload_n (i := 2) dX2_takeName_6 rfl rfl ?_
  refine wp_aload_n (i := 0) dX2_takeName_7 rfl rfl ?_
  refine wz_getI dX2_takeName_8 (st_0 ha0) (f2_7 _ (by decide)) rfl ?_
  refine wp_icmp_lt 15 dX2_takeName_11 (by decide) (fun q => ?_) (fun q => ?_)
  · replace hv := hv.1 q
    refine wp_aload_n (i := 0) dX2_takeName_15 rfl rfl ?_
    refine wp_dupR dX2_takeName_16 ?_
    refine wz_getI dX2_takeName_17 (st_0 ha0) (f2_24 _ (by decide)) rfl ?_
    refine wp_iload_n (i := 2) dX2_takeName_20 rfl rfl ?_
    refine wp_iconst (v := 1) dX2_takeName_21 (by decide) ?_
    refine wp_iadd dX2_takeName_22 ?_
    refine wp_iadd dX2_takeName_23 ?_
    refine wz_putI dX2_takeName_24 (st_0 ha0) (w2_24 _ (by decide)) rfl ?_
    refine wp_aload_n (i := 0) dX2_takeName_27 rfl rfl ?_
    refine wp_dupR dX2_takeName_28 ?_
    refine wz_getIe (v := (V a0 10)) dX2_takeName_29 (st_0 ha0) (f2_7 _ (by decide)) rfl (up2_k (by decide)) ?_
    refine wp_iconst (v := 1) dX2_takeName_32 (by decide) ?_
    refine wp_isub dX2_takeName_33 ?_
    refine wz_putI dX2_takeName_34 (st_0 ha0) (w2_7 _ (by decide)) rfl ?_
    refine wp_iload_n (i := 2) dX2_takeName_37 rfl rfl ?_
    refine wp_aload_n (i := 0) dX2_takeName_38 rfl rfl ?_
    refine wz_getIe (v := ((V a0 10) - (1 : Int32))) dX2_takeName_39 (st_0 ha0) (f2_7 _ (by decide)) rfl up2_s ?_
    refine wp_icmp_ne 46 dX2_takeName_42 (by decide) (fun q => ?_) (fun q => ?_)
    · replace hv := hv.1 q
      refine wp_aload_n (i := 0) dX2_takeName_46 rfl rfl ?_
      refine wz_getR (b := (a0 + 2)) dX2_takeName_47 (st_0 ha0) (f2_27 _ (by decide)) rfl ?_
      refine wp_iload_n (i := 2) dX2_takeName_50 rfl rfl ?_
      refine wp_aload_n (i := 0) dX2_takeName_51 rfl rfl ?_
      refine wz_getR (b := (a0 + 2)) dX2_takeName_52 (st_0 ha0) (f2_27 _ (by decide)) rfl ?_
      refine wp_aload_n (i := 0) dX2_takeName_55 rfl rfl ?_
      refine wz_getIe (v := ((V a0 10) - (1 : Int32))) dX2_takeName_56 (st_0 ha0) (f2_7 _ (by decide)) rfl up2_s ?_
      obtain ⟨z2, hv⟩ := hv
      refine wz_iaload dX2_takeName_59 (st_row ha0 (by decide)) z2 ?_
      obtain ⟨z3, hv⟩ := hv
      refine wz_iastore dX2_takeName_60 (st_row ha0 (by decide)) z3 ?_
      refine wp_aload_n (i := 0) dX2_takeName_61 rfl rfl ?_
      refine wp_iload_n (i := 2) dX2_takeName_62 rfl rfl ?_
      obtain ⟨v5, V4, hE, hv⟩ := hv
      refine wz_callV (vs := [.int v1]) (st := []) dX2_takeName_63 (st_0 ha0) rfl k2_17_2 hE rfl (Nat.le_of_ble_eq_true rfl) (Nat.le_of_ble_eq_true rfl) ?_
      change wp _ _ _ _ _ [.int v5] _ _ _
      refine wp_iload_n (i := 2) dX2_takeName_66 rfl rfl ?_
      refine wp_icmp_ne 75 dX2_takeName_67 (by decide) (fun q => ?_) (fun q => ?_)
      · replace hv := hv.1 q
        obtain ⟨rfl, rfl⟩ := hv
        exact wp_return dX2_takeName_75 rfl rfl hq
      · replace hv := hv.2 q
        refine wp_aload_n (i := 0) dX2_takeName_70 rfl rfl ?_
        refine wp_iload_n (i := 2) dX2_takeName_71 rfl rfl ?_
        obtain ⟨V6, hE, hv⟩ := hv
        refine wz_callV (vs := [.int v1]) (st := []) dX2_takeName_72 (st_0 ha0) rfl k2_31_2 hE rfl (Nat.le_of_ble_eq_true rfl) (Nat.le_of_ble_eq_true rfl) ?_
        change wp _ _ _ _ _ [] _ _ _
        obtain ⟨rfl, rfl⟩ := hv
        exact wp_return dX2_takeName_75 rfl rfl hq
    · replace hv := hv.2 q
      obtain ⟨rfl, rfl⟩ := hv
      exact wp_return dX2_takeName_45 rfl rfl hq
  · replace hv := hv.2 q
    obtain ⟨rfl, rfl⟩ := hv
    exact wp_return dX2_takeName_14 rfl rfl hq
theorem wX2_rise_0 {a0 : Nat} {ky0 : Nat} {x1 : Int32} (hK : StK K) (ha0 : IsSt K a0 2 ky0) (hv : Ev G (d + 1) mX2_rise 2 [(0, .ref a0), (1, .int x1), (2, .int x1)] (K, n, V, J, O) r (K, n, V', J, O)) : Ev G (d + 1) mX2_rise 0 [(0, .ref a0), (1, .int x1)] (K, n, V, J, O) r (K, n, V', J, O) := by
  refine Ev.mk fun Q hq => ?_
  refine wp_iload_n (i := 1) dX2_rise_0 rfl rfl ?_
  refine wx_istore_n (ls' := [(0, .ref a0), (1, .int x1), (2, .int x1)]) (i := 2) dX2_rise_1 rfl (by decide) rfl ?_
  exact hv Q hq
theorem wX2_rise_2 {a0 : Nat} {ky0 : Nat} {x1 : Int32} {x2 : Int32} (hK : StK K) (ha0 : IsSt K a0 2 ky0) (hv : ((x2 ≤ 0 → (r = some (.int x2) ∧ V' = V)) ∧ (¬ x2 ≤ 0 → (∃ (v1 : Int32), Ev G d mX2_isLess 0 [(0, .ref a0), (1, .int x2), (2, .int ((x2 - (1 : Int32)) / (2 : Int32)))] (K, n, (up2 V a0 8 ((V a0 8) + (1 : Int32))), J, O) (some (.int v1)) (K, n, (up2 V a0 8 ((V a0 8) + (1 : Int32))), J, O) ∧ ((v1 ≠ 0 → (∃ (V2 : SV), Ev G d mX2_change 0 [(0, .ref a0), (1, .int x2), (2, .int ((x2 - (1 : Int32)) / (2 : Int32)))] (K, n, (up2 V a0 8 ((V a0 8) + (1 : Int32))), J, O) none (K, n, V2, J, O) ∧ Ev G (d + 1) mX2_rise 2 [(0, .ref a0), (1, .int x1), (2, .int ((x2 - (1 : Int32)) / (2 : Int32)))] (K, n, V2, J, O) r (K, n, V', J, O))) ∧ (v1 = 0 → (r = some (.int x2) ∧ V' = (up2 V a0 8 ((V a0 8) + (1 : Int32)))))))))) : Ev G (d + 1) mX2_rise 2 [(0, .ref a0), (1, .int x1), (2, .int x2)] (K, n, V, J, O) r (K, n, V', J, O) := by
  refine Ev.mk fun Q hq => ?_
  refine wp_iload_n (i := 2) dX2_rise_2 rfl rfl ?_
  refine wp_if_le 45 dX2_rise_3 (by decide) (fun q => ?_) (fun q => ?_)
  · replace hv := hv.1 q
    refine wp_iload_n (i := 2) dX2_rise_45 rfl rfl ?_
    obtain ⟨rfl, rfl⟩ := hv
    exact wp_ireturn dX2_rise_46 rfl rfl rfl hq
  · replace hv := hv.2 q
    refine wp_iload_n (i := 2) dX2_rise_6 rfl rfl ?_
    refine wp_iconst (v := 1) dX2_rise_7 (by decide) ?_
    refine wp_isub dX2_rise_8 ?_
    refine wp_iconst (v := 2) dX2_rise_9 (by decide) ?_
    refine wp_idiv dX2_rise_10 (by decide) ?_
    refine wx_istore_n (ls' := [(0, .ref a0), (1, .int x1), (2, .int x2), (3, .int ((x2 - (1 : Int32)) / (2 : Int32)))]) (i := 3) dX2_rise_11 rfl (by decide) rfl ?_
    refine wp_aload_n (i := 0) dX2_rise_12 rfl rfl ?_
    refine wp_dupR dX2_rise_13 ?_
    refine wz_getI dX2_rise_14 (st_0 ha0) (f2_24 _ (by decide)) rfl ?_
    refine wp_iconst (v := 1) dX2_rise_17 (by decide) ?_
    refine wp_iadd dX2_rise_18 ?_
    refine wz_putI dX2_rise_19 (st_0 ha0) (w2_24 _ (by decide)) rfl ?_
    refine wp_aload_n (i := 0) dX2_rise_22 rfl rfl ?_
    refine wp_iload_n (i := 2) dX2_rise_23 rfl rfl ?_
    refine wp_iload_n (i := 3) dX2_rise_24 rfl rfl ?_
    obtain ⟨v1, hE, hv⟩ := hv
    refine wz_callV (vs := [.int x2, .int ((x2 - (1 : Int32)) / (2 : Int32))]) (st := []) dX2_rise_25 (st_0 ha0) rfl k2_35_2 hE rfl (Nat.le_of_ble_eq_true rfl) (Nat.le_of_ble_eq_true rfl) ?_
    change wp _ _ _ _ _ [.int v1] _ _ _
    refine wp_if_ne 34 dX2_rise_28 (by decide) (fun q => ?_) (fun q => ?_)
    · replace hv := hv.1 q
      refine wp_aload_n (i := 0) dX2_rise_34 rfl rfl ?_
      refine wp_iload_n (i := 2) dX2_rise_35 rfl rfl ?_
      refine wp_iload_n (i := 3) dX2_rise_36 rfl rfl ?_
      obtain ⟨V2, hE, hv⟩ := hv
      refine wz_callV (vs := [.int x2, .int ((x2 - (1 : Int32)) / (2 : Int32))]) (st := []) dX2_rise_37 (st_0 ha0) rfl k2_39_2 hE rfl (Nat.le_of_ble_eq_true rfl) (Nat.le_of_ble_eq_true rfl) ?_
      change wp _ _ _ _ _ [] _ _ _
      refine wp_iload_n (i := 3) dX2_rise_40 rfl rfl ?_
      refine wx_istore_n (ls' := [(0, .ref a0), (1, .int x1), (2, .int ((x2 - (1 : Int32)) / (2 : Int32))), (3, .int ((x2 - (1 : Int32)) / (2 : Int32)))]) (i := 2) dX2_rise_41 rfl (by decide) rfl ?_
      refine wp_goto 2 dX2_rise_42 (by decide) ?_
      refine wx_sub (ls' := [(0, .ref a0), (1, .int x1), (2, .int ((x2 - (1 : Int32)) / (2 : Int32)))]) [0, 1, 2] rfl ?_
      exact hv Q hq
    · replace hv := hv.2 q
      refine wp_goto 45 dX2_rise_31 (by decide) ?_
      refine wp_iload_n (i := 2) dX2_rise_45 rfl rfl ?_
      obtain ⟨rfl, rfl⟩ := hv
      exact wp_ireturn dX2_rise_46 rfl rfl rfl hq
theorem wX2_sink_0 {a0 : Nat} {ky0 : Nat} {x1 : Int32} (hK : StK K) (ha0 : IsSt K a0 2 ky0) (hv : Ev G (d + 1) mX2_sink 4 [(0, .ref a0), (1, .int x1), (2, .int x1), (3, .int (0 : Int32))] (K, n, V, J, O) r (K, n, V', J, O)) : Ev G (d + 1) mX2_sink 0 [(0, .ref a0), (1, .int x1)] (K, n, V, J, O) r (K, n, V', J, O) := by
  refine Ev.mk fun Q hq => ?_
  refine wp_iload_n (i := 1) dX2_sink_0 rfl rfl ?_
  refine wx_istore_n (ls' := [(0, .ref a0), (1, .int x1), (2, .int x1)]) (i := 2) dX2_sink_1 rfl (by decide) rfl ?_
  refine wp_iconst (v := 0) dX2_sink_2 (by decide) ?_
  refine wx_istore_n (ls' := [(0, .ref a0), (1, .int x1), (2, .int x1), (3, .int (0 : Int32))]) (i := 3) dX2_sink_3 rfl (by decide) rfl ?_
  exact hv Q hq
theorem wX2_sink_4 {a0 : Nat} {ky0 : Nat} {x1 : Int32} {x2 : Int32} {x3 : Int32} (hK : StK K) (ha0 : IsSt K a0 2 ky0) (hv : (((V a0 10) ≤ x3 → (r = none ∧ V' = V)) ∧ (¬ (V a0 10) ≤ x3 → (((V a0 10) ≤ (((2 : Int32) * x2) + (1 : Int32)) → (r = none ∧ V' = V)) ∧ (¬ (V a0 10) ≤ (((2 : Int32) * x2) + (1 : Int32)) → (∃ (v2 : Int32) (V1 : SV), Ev G d mX2_lesserBelow 0 [(0, .ref a0), (1, .int x2)] (K, n, V, J, O) (some (.int v2)) (K, n, V1, J, O) ∧ (∃ (v3 : Int32), Ev G d mX2_isLess 0 [(0, .ref a0), (1, .int v2), (2, .int x2)] (K, n, (up2 V1 a0 8 ((V1 a0 8) + (1 : Int32))), J, O) (some (.int v3)) (K, n, (up2 V1 a0 8 ((V1 a0 8) + (1 : Int32))), J, O) ∧ ((v3 ≠ 0 → (∃ (V4 : SV), Ev G d mX2_change 0 [(0, .ref a0), (1, .int x2), (2, .int v2)] (K, n, (up2 V1 a0 8 ((V1 a0 8) + (1 : Int32))), J, O) none (K, n, V4, J, O) ∧ Ev G (d + 1) mX2_sink 4 [(0, .ref a0), (1, .int x1), (2, .int v2), (3, .int (x3 + 1))] (K, n, V4, J, O) r (K, n, V', J, O))) ∧ (v3 = 0 → (r = none ∧ V' = (up2 V1 a0 8 ((V1 a0 8) + (1 : Int32))))))))))))) : Ev G (d + 1) mX2_sink 4 [(0, .ref a0), (1, .int x1), (2, .int x2), (3, .int x3)] (K, n, V, J, O) r (K, n, V', J, O) := by
  refine Ev.mk fun Q hq => ?_
  refine wp_iload_n (i := 3) dX2_sink_4 rfl rfl ?_
  refine wp_aload_n (i := 0) dX2_sink_5 rfl rfl ?_
  refine wz_getI dX2_sink_6 (st_0 ha0) (f2_7 _ (by decide)) rfl ?_
  refine wp_icmp_ge 70 dX2_sink_9 (by decide) (fun q => ?_) (fun q => ?_)
  · replace hv := hv.1 q
    obtain ⟨rfl, rfl⟩ := hv
    exact wp_return dX2_sink_70 rfl rfl hq
  · replace hv := hv.2 q
    refine wp_iconst (v := 2) dX2_sink_12 (by decide) ?_
    refine wp_iload_n (i := 2) dX2_sink_13 rfl rfl ?_
    refine wp_imul dX2_sink_14 ?_
    refine wp_iconst (v := 1) dX2_sink_15 (by decide) ?_
    refine wp_iadd dX2_sink_16 ?_
    refine wp_aload_n (i := 0) dX2_sink_17 rfl rfl ?_
    refine wz_getI dX2_sink_18 (st_0 ha0) (f2_7 _ (by decide)) rfl ?_
    refine wp_icmp_ge 70 dX2_sink_21 (by decide) (fun q => ?_) (fun q => ?_)
    · replace hv := hv.1 q
      obtain ⟨rfl, rfl⟩ := hv
      exact wp_return dX2_sink_70 rfl rfl hq
    · replace hv := hv.2 q
      refine wp_aload_n (i := 0) dX2_sink_24 rfl rfl ?_
      refine wp_iload_n (i := 2) dX2_sink_25 rfl rfl ?_
      obtain ⟨v2, V1, hE, hv⟩ := hv
      refine wz_callV (vs := [.int x2]) (st := []) dX2_sink_26 (st_0 ha0) rfl k2_42_2 hE rfl (Nat.le_of_ble_eq_true rfl) (Nat.le_of_ble_eq_true rfl) ?_
      change wp _ _ _ _ _ [.int v2] _ _ _
      refine wx_istore (ls' := [(0, .ref a0), (1, .int x1), (2, .int x2), (3, .int x3), (4, .int v2)]) dX2_sink_29 (by decide) rfl ?_
      refine wp_aload_n (i := 0) dX2_sink_31 rfl rfl ?_
      refine wp_dupR dX2_sink_32 ?_
      refine wz_getI dX2_sink_33 (st_0 ha0) (f2_24 _ (by decide)) rfl ?_
      refine wp_iconst (v := 1) dX2_sink_36 (by decide) ?_
      refine wp_iadd dX2_sink_37 ?_
      refine wz_putI dX2_sink_38 (st_0 ha0) (w2_24 _ (by decide)) rfl ?_
      refine wp_aload_n (i := 0) dX2_sink_41 rfl rfl ?_
      refine wp_iload dX2_sink_42 rfl ?_
      refine wp_iload_n (i := 2) dX2_sink_44 rfl rfl ?_
      obtain ⟨v3, hE, hv⟩ := hv
      refine wz_callV (vs := [.int v2, .int x2]) (st := []) dX2_sink_45 (st_0 ha0) rfl k2_35_2 hE rfl (Nat.le_of_ble_eq_true rfl) (Nat.le_of_ble_eq_true rfl) ?_
      change wp _ _ _ _ _ [.int v3] _ _ _
      refine wp_if_ne 54 dX2_sink_48 (by decide) (fun q => ?_) (fun q => ?_)
      · replace hv := hv.1 q
        refine wp_aload_n (i := 0) dX2_sink_54 rfl rfl ?_
        refine wp_iload_n (i := 2) dX2_sink_55 rfl rfl ?_
        refine wp_iload dX2_sink_56 rfl ?_
        obtain ⟨V4, hE, hv⟩ := hv
        refine wz_callV (vs := [.int x2, .int v2]) (st := []) dX2_sink_58 (st_0 ha0) rfl k2_39_2 hE rfl (Nat.le_of_ble_eq_true rfl) (Nat.le_of_ble_eq_true rfl) ?_
        change wp _ _ _ _ _ [] _ _ _
        refine wp_iload dX2_sink_61 rfl ?_
        refine wx_istore_n (ls' := [(0, .ref a0), (1, .int x1), (2, .int v2), (3, .int x3), (4, .int v2)]) (i := 2) dX2_sink_63 rfl (by decide) rfl ?_
        refine wx_iinc (v := 1) (ls' := [(0, .ref a0), (1, .int x1), (2, .int v2), (3, .int (x3 + 1)), (4, .int v2)]) dX2_sink_64 rfl (by decide) (by decide) rfl ?_
        refine wp_goto 4 dX2_sink_67 (by decide) ?_
        refine wx_sub (ls' := [(0, .ref a0), (1, .int x1), (2, .int v2), (3, .int (x3 + 1))]) [0, 1, 2, 3] rfl ?_
        exact hv Q hq
      · replace hv := hv.2 q
        refine wp_goto 70 dX2_sink_51 (by decide) ?_
        obtain ⟨rfl, rfl⟩ := hv
        exact wp_return dX2_sink_70 rfl rfl hq
theorem wX2_lesserBelow_0 {a0 : Nat} {ky0 : Nat} {x1 : Int32} (hK : StK K) (ha0 : IsSt K a0 2 ky0) (hv : ((((((2 : Int32) * x1) + (1 : Int32)) + (1 : Int32)) < (V a0 10) → (∃ (v1 : Int32), Ev G d mX2_isLess 0 [(0, .ref a0), (1, .int ((((2 : Int32) * x1) + (1 : Int32)) + (1 : Int32))), (2, .int (((2 : Int32) * x1) + (1 : Int32)))] (K, n, (up2 V a0 8 ((V a0 8) + (1 : Int32))), J, O) (some (.int v1)) (K, n, (up2 V a0 8 ((V a0 8) + (1 : Int32))), J, O) ∧ ((v1 = 0 → (r = some (.int (((2 : Int32) * x1) + (1 : Int32))) ∧ V' = (up2 V a0 8 ((V a0 8) + (1 : Int32))))) ∧ (¬ v1 = 0 → (r = some (.int ((((2 : Int32) * x1) + (1 : Int32)) + (1 : Int32))) ∧ V' = (up2 V a0 8 ((V a0 8) + (1 : Int32)))))))) ∧ (¬ ((((2 : Int32) * x1) + (1 : Int32)) + (1 : Int32)) < (V a0 10) → (r = some (.int (((2 : Int32) * x1) + (1 : Int32))) ∧ V' = V)))) : Ev G (d + 1) mX2_lesserBelow 0 [(0, .ref a0), (1, .int x1)] (K, n, V, J, O) r (K, n, V', J, O) := by
  refine Ev.mk fun Q hq => ?_
  refine wp_iconst (v := 2) dX2_lesserBelow_0 (by decide) ?_
  refine wp_iload_n (i := 1) dX2_lesserBelow_1 rfl rfl ?_
  refine wp_imul dX2_lesserBelow_2 ?_
  refine wp_iconst (v := 1) dX2_lesserBelow_3 (by decide) ?_
  refine wp_iadd dX2_lesserBelow_4 ?_
  refine wx_istore_n (ls' := [(0, .ref a0), (1, .int x1), (2, .int (((2 : Int32) * x1) + (1 : Int32)))]) (i := 2) dX2_lesserBelow_5 rfl (by decide) rfl ?_
  refine wp_iload_n (i := 2) dX2_lesserBelow_6 rfl rfl ?_
  refine wp_iconst (v := 1) dX2_lesserBelow_7 (by decide) ?_
  refine wp_iadd dX2_lesserBelow_8 ?_
  refine wp_aload_n (i := 0) dX2_lesserBelow_9 rfl rfl ?_
  refine wz_getI dX2_lesserBelow_10 (st_0 ha0) (f2_7 _ (by decide)) rfl ?_
  refine wp_icmp_lt 18 dX2_lesserBelow_13 (by decide) (fun q => ?_) (fun q => ?_)
  · replace hv := hv.1 q
    refine wp_aload_n (i := 0) dX2_lesserBelow_18 rfl rfl ?_
    refine wp_dupR dX2_lesserBelow_19 ?_
    refine wz_getI dX2_lesserBelow_20 (st_0 ha0) (f2_24 _ (by decide)) rfl ?_
    refine wp_iconst (v := 1) dX2_lesserBelow_23 (by decide) ?_
    refine wp_iadd dX2_lesserBelow_24 ?_
    refine wz_putI dX2_lesserBelow_25 (st_0 ha0) (w2_24 _ (by decide)) rfl ?_
    refine wp_aload_n (i := 0) dX2_lesserBelow_28 rfl rfl ?_
    refine wp_iload_n (i := 2) dX2_lesserBelow_29 rfl rfl ?_
    refine wp_iconst (v := 1) dX2_lesserBelow_30 (by decide) ?_
    refine wp_iadd dX2_lesserBelow_31 ?_
    refine wp_iload_n (i := 2) dX2_lesserBelow_32 rfl rfl ?_
    obtain ⟨v1, hE, hv⟩ := hv
    refine wz_callV (vs := [.int ((((2 : Int32) * x1) + (1 : Int32)) + (1 : Int32)), .int (((2 : Int32) * x1) + (1 : Int32))]) (st := []) dX2_lesserBelow_33 (st_0 ha0) rfl k2_35_2 hE rfl (Nat.le_of_ble_eq_true rfl) (Nat.le_of_ble_eq_true rfl) ?_
    change wp _ _ _ _ _ [.int v1] _ _ _
    refine wp_if_eq 45 dX2_lesserBelow_36 (by decide) (fun q => ?_) (fun q => ?_)
    · replace hv := hv.1 q
      refine wp_iload_n (i := 2) dX2_lesserBelow_45 rfl rfl ?_
      obtain ⟨rfl, rfl⟩ := hv
      exact wp_ireturn dX2_lesserBelow_46 rfl rfl rfl hq
    · replace hv := hv.2 q
      refine wp_iload_n (i := 2) dX2_lesserBelow_39 rfl rfl ?_
      refine wp_iconst (v := 1) dX2_lesserBelow_40 (by decide) ?_
      refine wp_iadd dX2_lesserBelow_41 ?_
      refine wp_goto 46 dX2_lesserBelow_42 (by decide) ?_
      obtain ⟨rfl, rfl⟩ := hv
      exact wp_ireturn dX2_lesserBelow_46 rfl rfl rfl hq
  · replace hv := hv.2 q
    refine wp_iload_n (i := 2) dX2_lesserBelow_16 rfl rfl ?_
    obtain ⟨rfl, rfl⟩ := hv
    exact wp_ireturn dX2_lesserBelow_17 rfl rfl rfl hq
theorem wX2_isLess_0 {a0 : Nat} {ky0 : Nat} {x1 : Int32} {x2 : Int32} (hK : StK K) (ha0 : IsSt K a0 2 ky0) (hv : (vp_in x1 80 ∧ (vp_in x2 80 ∧ (vp_in (V (a0 + 2) (x2).toNatClampNeg) 80 ∧ (vp_in x2 80 ∧ (∃ (v5 : Int32), Ev G d mX5_comesAhead 0 [(0, .ref a0), (1, .int (V (a0 + 2) (x1).toNatClampNeg)), (2, .int (V (4 + 1 + ky0) ((V (a0 + 2) (x2).toNatClampNeg)).toNatClampNeg)), (3, .int (V (a0 + 2) (x2).toNatClampNeg))] (K, n, V, J, O) (some (.int v5)) (K, n, V, J, O) ∧ ((v5 = 0 ∨ v5 = 1) ∧ r = some (.int v5)))))))) : Ev G (d + 1) mX2_isLess 0 [(0, .ref a0), (1, .int x1), (2, .int x2)] (K, n, V, J, O) r (K, n, V, J, O) := by
  refine Ev.mk fun Q hq => ?_
  refine wp_aload_n (i := 0) dX2_isLess_0 rfl rfl ?_
  refine wp_aload_n (i := 0) dX2_isLess_1 rfl rfl ?_
  refine wz_getR (b := (a0 + 2)) dX2_isLess_2 (st_0 ha0) (f2_27 _ (by decide)) rfl ?_
  refine wp_iload_n (i := 1) dX2_isLess_5 rfl rfl ?_
  obtain ⟨z1, hv⟩ := hv
  refine wz_iaload dX2_isLess_6 (st_row ha0 (by decide)) z1 ?_
  refine wp_aload_n (i := 0) dX2_isLess_7 rfl rfl ?_
  refine wz_getR (b := (4 + 1 + ky0)) dX2_isLess_8 (st_0 ha0) (f2_45 _ (by decide)) rfl ?_
  refine wp_aload_n (i := 0) dX2_isLess_11 rfl rfl ?_
  refine wz_getR (b := (a0 + 2)) dX2_isLess_12 (st_0 ha0) (f2_27 _ (by decide)) rfl ?_
  refine wp_iload_n (i := 2) dX2_isLess_15 rfl rfl ?_
  obtain ⟨z2, hv⟩ := hv
  refine wz_iaload dX2_isLess_16 (st_row ha0 (by decide)) z2 ?_
  obtain ⟨z3, hv⟩ := hv
  refine wz_iaload dX2_isLess_17 (st_k hK ha0) z3 ?_
  refine wp_aload_n (i := 0) dX2_isLess_18 rfl rfl ?_
  refine wz_getR (b := (a0 + 2)) dX2_isLess_19 (st_0 ha0) (f2_27 _ (by decide)) rfl ?_
  refine wp_iload_n (i := 2) dX2_isLess_22 rfl rfl ?_
  obtain ⟨z4, hv⟩ := hv
  refine wz_iaload dX2_isLess_23 (st_row ha0 (by decide)) z4 ?_
  obtain ⟨v5, hE, hv⟩ := hv
  refine wz_callU (vs := [.int (V (a0 + 2) (x1).toNatClampNeg), .int (V (4 + 1 + ky0) ((V (a0 + 2) (x2).toNatClampNeg)).toNatClampNeg), .int (V (a0 + 2) (x2).toNatClampNeg)]) (st := []) dX2_isLess_24 (st_0 ha0) rfl k2_48_2 hE rfl (Nat.le_of_ble_eq_true rfl) (Nat.le_of_ble_eq_true rfl) ?_
  change wp _ _ _ _ _ [.int v5] _ _ _
  obtain ⟨z, hv⟩ := hv
  obtain rfl := hv
  exact wp_ireturn dX2_isLess_27 rfl (by rcases z with z | z <;> rw [z] <;> decide) rfl hq
theorem wX2_change_0 {a0 : Nat} {ky0 : Nat} {x1 : Int32} {x2 : Int32} (hK : StK K) (ha0 : IsSt K a0 2 ky0) (hv : (vp_in x1 80 ∧ (vp_in x2 80 ∧ (vp_in x1 80 ∧ (vp_in x2 80 ∧ (r = none ∧ V' = (up2 (up2 V (a0 + 2) (x1).toNatClampNeg (V (a0 + 2) (x2).toNatClampNeg)) (a0 + 2) (x2).toNatClampNeg (V (a0 + 2) (x1).toNatClampNeg)))))))) : Ev G d mX2_change 0 [(0, .ref a0), (1, .int x1), (2, .int x2)] (K, n, V, J, O) r (K, n, V', J, O) := by
  refine Ev.mk fun Q hq => ?_
  refine wp_aload_n (i := 0) dX2_change_0 rfl rfl ?_
  refine wz_getR (b := (a0 + 2)) dX2_change_1 (st_0 ha0) (f2_27 _ (by decide)) rfl ?_
  refine wp_iload_n (i := 1) dX2_change_4 rfl rfl ?_
  obtain ⟨z1, hv⟩ := hv
  refine wz_iaload dX2_change_5 (st_row ha0 (by decide)) z1 ?_
  refine wx_istore_n (ls' := [(0, .ref a0), (1, .int x1), (2, .int x2), (3, .int (V (a0 + 2) (x1).toNatClampNeg))]) (i := 3) dX2_change_6 rfl (by decide) rfl ?_
  refine wp_aload_n (i := 0) dX2_change_7 rfl rfl ?_
  refine wz_getR (b := (a0 + 2)) dX2_change_8 (st_0 ha0) (f2_27 _ (by decide)) rfl ?_
  refine wp_iload_n (i := 1) dX2_change_11 rfl rfl ?_
  refine wp_aload_n (i := 0) dX2_change_12 rfl rfl ?_
  refine wz_getR (b := (a0 + 2)) dX2_change_13 (st_0 ha0) (f2_27 _ (by decide)) rfl ?_
  refine wp_iload_n (i := 2) dX2_change_16 rfl rfl ?_
  obtain ⟨z2, hv⟩ := hv
  refine wz_iaload dX2_change_17 (st_row ha0 (by decide)) z2 ?_
  obtain ⟨z3, hv⟩ := hv
  refine wz_iastore dX2_change_18 (st_row ha0 (by decide)) z3 ?_
  refine wp_aload_n (i := 0) dX2_change_19 rfl rfl ?_
  refine wz_getR (b := (a0 + 2)) dX2_change_20 (st_0 ha0) (f2_27 _ (by decide)) rfl ?_
  refine wp_iload_n (i := 2) dX2_change_23 rfl rfl ?_
  refine wp_iload_n (i := 3) dX2_change_24 rfl rfl ?_
  obtain ⟨z4, hv⟩ := hv
  refine wz_iastore dX2_change_25 (st_row ha0 (by decide)) z4 ?_
  obtain ⟨rfl, rfl⟩ := hv
  exact wp_return dX2_change_26 rfl rfl hq
theorem wX2_run_0 {a0 : Nat} {ky0 : Nat} {a1 : Nat} (hK : StK K) (ha0 : IsSt K a0 2 ky0) (hq1 : IsAk K a1) (hv : (∃ (v1 : Int32), Ev G d mX0_isLeastOfAll 0 [(0, .ref a1), (1, .int (V a0 2))] (K, n, V, J, O) (some (.int v1)) (K, n, V, J, O) ∧ ((v1 ≠ 0 → (((V a0 10) ≤ 0 → (∃ (v2 : Int32), Ev G d mX0_result 0 [(0, .ref a1)] (K, n, V, J, O) (some (.int v2)) (K, n, V, J, O) ∧ (r = some (.int v2) ∧ V' = V))) ∧ (¬ (V a0 10) ≤ 0 → (vp_in (0 : Int32) 80 ∧ (∃ (V4 : SV), Ev G d mX0_see 0 [(0, .ref a1), (1, .ref 1), (2, .int ((up2 V a0 8 ((V a0 8) + (1 : Int32))) (a0 + 2) ((0 : Int32)).toNatClampNeg))] (K, n, (up2 V a0 8 ((V a0 8) + (1 : Int32))), J, O) none (K, n, V4, J, O) ∧ (∃ (v5 : Int32), Ev G d mX0_result 0 [(0, .ref a1)] (K, n, V4, J, O) (some (.int v5)) (K, n, V4, J, O) ∧ (r = some (.int v5) ∧ V' = V4))))))) ∧ (v1 = 0 → (∃ (v7 : Int32) (V6 : SV), Ev G d mX3_run 0 [(0, .ref a0), (1, .ref a1)] (K, n, V, J, O) (some (.int v7)) (K, n, V6, J, O) ∧ (r = some (.int v7) ∧ V' = V6)))))) : Ev G (d + 1) mX2_run 0 [(0, .ref a0), (1, .ref a1)] (K, n, V, J, O) r (K, n, V', J, O) := by
  refine Ev.mk fun Q hq => ?_
  refine wp_aload_n (i := 1) dX2_run_0 rfl rfl ?_
  refine wp_aload_n (i := 0) dX2_run_1 rfl rfl ?_
  refine wz_getI dX2_run_2 (st_0 ha0) (f2_52 _ (by decide)) rfl ?_
  obtain ⟨v1, hE, hv⟩ := hv
  refine wz_callV (vs := [.int (V a0 2)]) (st := []) dX2_run_5 (ak_0 hq1) rfl k2_55_0 hE rfl (Nat.le_of_ble_eq_true rfl) (Nat.le_of_ble_eq_true rfl) ?_
  change wp _ _ _ _ _ [.int v1] _ _ _
  refine wp_if_ne 17 dX2_run_8 (by decide) (fun q => ?_) (fun q => ?_)
  · replace hv := hv.1 q
    refine wp_aload_n (i := 0) dX2_run_17 rfl rfl ?_
    refine wz_getI dX2_run_18 (st_0 ha0) (f2_7 _ (by decide)) rfl ?_
    refine wp_if_le 48 dX2_run_21 (by decide) (fun q => ?_) (fun q => ?_)
    · replace hv := hv.1 q
      refine wp_aload_n (i := 1) dX2_run_48 rfl rfl ?_
      obtain ⟨v2, hE, hv⟩ := hv
      refine wz_callV (vs := []) (st := []) dX2_run_49 (ak_0 hq1) rfl k2_73_0 hE rfl (Nat.le_of_ble_eq_true rfl) (Nat.le_of_ble_eq_true rfl) ?_
      change wp _ _ _ _ _ [.int v2] _ _ _
      obtain ⟨rfl, rfl⟩ := hv
      exact wp_ireturn dX2_run_52 rfl rfl rfl hq
    · replace hv := hv.2 q
      refine wp_aload_n (i := 0) dX2_run_24 rfl rfl ?_
      refine wp_dupR dX2_run_25 ?_
      refine wz_getI dX2_run_26 (st_0 ha0) (f2_24 _ (by decide)) rfl ?_
      refine wp_iconst (v := 1) dX2_run_29 (by decide) ?_
      refine wp_iadd dX2_run_30 ?_
      refine wz_putI dX2_run_31 (st_0 ha0) (w2_24 _ (by decide)) rfl ?_
      refine wp_aload_n (i := 1) dX2_run_34 rfl rfl ?_
      refine wp_aload_n (i := 0) dX2_run_35 rfl rfl ?_
      refine wz_getR (b := 1) dX2_run_36 (st_0 ha0) (f2_65 _ (by decide)) rfl ?_
      refine wp_aload_n (i := 0) dX2_run_39 rfl rfl ?_
      refine wz_getR (b := (a0 + 2)) dX2_run_40 (st_0 ha0) (f2_27 _ (by decide)) rfl ?_
      refine wp_iconst (v := 0) dX2_run_43 (by decide) ?_
      obtain ⟨z3, hv⟩ := hv
      refine wz_iaload dX2_run_44 (st_row ha0 (by decide)) z3 ?_
      obtain ⟨V4, hE, hv⟩ := hv
      refine wz_callV (vs := [.ref 1, .int ((up2 V a0 8 ((V a0 8) + (1 : Int32))) (a0 + 2) ((0 : Int32)).toNatClampNeg)]) (st := []) dX2_run_45 (ak_0 hq1) rfl k2_69_0 hE rfl (Nat.le_of_ble_eq_true rfl) (Nat.le_of_ble_eq_true rfl) ?_
      change wp _ _ _ _ _ [] _ _ _
      refine wp_aload_n (i := 1) dX2_run_48 rfl rfl ?_
      obtain ⟨v5, hE, hv⟩ := hv
      refine wz_callV (vs := []) (st := []) dX2_run_49 (ak_0 hq1) rfl k2_73_0 hE rfl (Nat.le_of_ble_eq_true rfl) (Nat.le_of_ble_eq_true rfl) ?_
      change wp _ _ _ _ _ [.int v5] _ _ _
      obtain ⟨rfl, rfl⟩ := hv
      exact wp_ireturn dX2_run_52 rfl rfl rfl hq
  · replace hv := hv.2 q
    refine wp_aload_n (i := 0) dX2_run_11 rfl rfl ?_
    refine wp_aload_n (i := 1) dX2_run_12 rfl rfl ?_
    obtain ⟨v7, V6, hE, hv⟩ := hv
    refine wz_callSU (vs := [.ref a1]) (st := []) dX2_run_13 (st_0 ha0) (acls_at (by decide)) su2_61 hE rfl (Nat.le_of_ble_eq_true rfl) (Nat.le_of_ble_eq_true rfl) ?_
    change wp _ _ _ _ _ [.int v7] _ _ _
    obtain ⟨rfl, rfl⟩ := hv
    exact wp_ireturn dX2_run_16 rfl rfl rfl hq
theorem wX2_priceFor_0 {a0 : Nat} {ky0 : Nat} {a1 : Nat} {x2 : Int32} (hK : StK K) (ha0 : IsSt K a0 2 ky0) (hq1 : IsAk K a1) (hv : (∃ (v1 : Int32), Ev G d mX0_isLeastOfAll 0 [(0, .ref a1), (1, .int (V a0 2))] (K, n, V, J, O) (some (.int v1)) (K, n, V, J, O) ∧ ((v1 = 0 → r = some (.int x2)) ∧ (¬ v1 = 0 → r = some (.int (1 : Int32)))))) : Ev G (d + 1) mX2_priceFor 0 [(0, .ref a0), (1, .ref a1), (2, .int x2)] (K, n, V, J, O) r (K, n, V, J, O) := by
  refine Ev.mk fun Q hq => ?_
  refine wp_aload_n (i := 1) dX2_priceFor_0 rfl rfl ?_
  refine wp_aload_n (i := 0) dX2_priceFor_1 rfl rfl ?_
  refine wz_getI dX2_priceFor_2 (st_0 ha0) (f2_52 _ (by decide)) rfl ?_
  obtain ⟨v1, hE, hv⟩ := hv
  refine wz_callV (vs := [.int (V a0 2)]) (st := []) dX2_priceFor_5 (ak_0 hq1) rfl k2_55_0 hE rfl (Nat.le_of_ble_eq_true rfl) (Nat.le_of_ble_eq_true rfl) ?_
  change wp _ _ _ _ _ [.int v1] _ _ _
  refine wp_if_eq 15 dX2_priceFor_8 (by decide) (fun q => ?_) (fun q => ?_)
  · replace hv := hv.1 q
    refine wp_iload_n (i := 2) dX2_priceFor_15 rfl rfl ?_
    obtain rfl := hv
    exact wp_ireturn dX2_priceFor_16 rfl rfl rfl hq
  · replace hv := hv.2 q
    refine wp_iconst (v := 1) dX2_priceFor_11 (by decide) ?_
    refine wp_goto 16 dX2_priceFor_12 (by decide) ?_
    obtain rfl := hv
    exact wp_ireturn dX2_priceFor_16 rfl rfl rfl hq
theorem wX2_priceOfPut_0 {a0 : Nat} {ky0 : Nat} {x1 : Int32} (hK : StK K) (ha0 : IsSt K a0 2 ky0) (hv : (∃ (v1 : Int32), Ev G d mX5_levels 0 [(0, .int x1)] (K, n, V, J, O) (some (.int v1)) (K, n, V, J, O) ∧ r = some (.int v1))) : Ev G (d + 1) mX2_priceOfPut 0 [(0, .ref a0), (1, .int x1)] (K, n, V, J, O) r (K, n, V, J, O) := by
  refine Ev.mk fun Q hq => ?_
  refine wp_iload_n (i := 1) dX2_priceOfPut_0 rfl rfl ?_
  obtain ⟨v1, hE, hv⟩ := hv
  refine wz_callST (vs := [.int x1]) (st := []) dX2_priceOfPut_1 k2_77 hE rfl (Nat.le_of_ble_eq_true rfl) (Nat.le_of_ble_eq_true rfl) ?_
  change wp _ _ _ _ _ [.int v1] _ _ _
  obtain rfl := hv
  exact wp_ireturn dX2_priceOfPut_4 rfl rfl rfl hq
theorem wX2_keeps_0 {a0 : Nat} {ky0 : Nat} {x1 : Int32} (hK : StK K) (ha0 : IsSt K a0 2 ky0) (hv : (∃ (V1 : SV), Ev G d mX5_led 0 [(0, .ref a0), (1, .int (40 : Int32))] (K, n, V, J, O) none (K, n, V1, J, O) ∧ (∃ (v3 : Int32) (V2 : SV), Ev G d mX5_keeps 0 [(0, .ref a0), (1, .int x1)] (K, n, V1, J, O) (some (.int v3)) (K, n, V2, J, O) ∧ (∃ (v5 : Int32) (V4 : SV), Ev G d mX3_finds 0 [(0, .ref a0), (1, .int (2 : Int32))] (K, n, V2, J, O) (some (.int v5)) (K, n, V4, J, O) ∧ (r = some (.int (v3 + v5)) ∧ V' = V4))))) : Ev G (d + 1) mX2_keeps 0 [(0, .ref a0), (1, .int x1)] (K, n, V, J, O) r (K, n, V', J, O) := by
  refine Ev.mk fun Q hq => ?_
  refine wp_aload_n (i := 0) dX2_keeps_0 rfl rfl ?_
  refine wp_bipush (v := 40) dX2_keeps_1 (by decide) ?_
  obtain ⟨V1, hE, hv⟩ := hv
  refine wz_callU (vs := [.int (40 : Int32)]) (st := []) dX2_keeps_3 (st_0 ha0) rfl k2_80_2 hE rfl (Nat.le_of_ble_eq_true rfl) (Nat.le_of_ble_eq_true rfl) ?_
  change wp _ _ _ _ _ [] _ _ _
  refine wp_aload_n (i := 0) dX2_keeps_6 rfl rfl ?_
  refine wp_iload_n (i := 1) dX2_keeps_7 rfl rfl ?_
  obtain ⟨v3, V2, hE, hv⟩ := hv
  refine wz_callSV (vs := [.int x1]) (st := []) dX2_keeps_8 (st_0 ha0) (acls_at (by decide)) sv2_83 hE rfl (Nat.le_of_ble_eq_true rfl) (Nat.le_of_ble_eq_true rfl) ?_
  change wp _ _ _ _ _ [.int v3] _ _ _
  refine wp_aload_n (i := 0) dX2_keeps_11 rfl rfl ?_
  refine wp_iconst (v := 2) dX2_keeps_12 (by decide) ?_
  obtain ⟨v5, V4, hE, hv⟩ := hv
  refine wz_callU (vs := [.int (2 : Int32)]) (st := [.int v3]) dX2_keeps_13 (st_0 ha0) rfl k2_86_2 hE rfl (Nat.le_of_ble_eq_true rfl) (Nat.le_of_ble_eq_true rfl) ?_
  change wp _ _ _ _ _ [.int v5, .int v3] _ _ _
  refine wp_iadd dX2_keeps_16 ?_
  obtain ⟨rfl, rfl⟩ := hv
  exact wp_ireturn dX2_keeps_17 rfl rfl rfl hq
theorem wX3_kind_0 {a0 : Nat} {ci0 ky0 : Nat} (hK : StK K) (ha0 : IsSt K a0 ci0 ky0) (hc0 : ci0 ∈ [2, 3, 4, 6]) (hv : r = some (.int (1 : Int32))) : Ev G d mX3_kind 0 [(0, .ref a0)] (K, n, V, J, O) r (K, n, V, J, O) := by
  refine Ev.mk fun Q hq => ?_
  refine wp_iconst (v := 1) dX3_kind_0 (by decide) ?_
  obtain rfl := hv
  exact wp_ireturn dX3_kind_1 rfl rfl rfl hq
theorem wX3_putName_0 {a0 : Nat} {ci0 ky0 : Nat} {x1 : Int32} (hK : StK K) (ha0 : IsSt K a0 ci0 ky0) (hc0 : ci0 ∈ [2, 3, 4, 6]) (hv : (∃ (V1 : SV), Ev G d mX3_insertAt 0 [(0, .ref a0), (1, .int (V a0 10)), (2, .int x1)] (K, n, (up2 V a0 8 ((V a0 8) + (1 : Int32))), J, O) none (K, n, V1, J, O) ∧ (r = none ∧ V' = V1))) : Ev G (d + 1) mX3_putName 0 [(0, .ref a0), (1, .int x1)] (K, n, V, J, O) r (K, n, V', J, O) := by
  refine Ev.mk fun Q hq => ?_
  refine wp_aload_n (i := 0) dX3_putName_0 rfl rfl ?_
  refine wp_dupR dX3_putName_1 ?_
  refine wz_getI dX3_putName_2 (st_0 ha0) (f3_15 _ (sb_row_all hc0)) rfl ?_
  refine wp_iconst (v := 1) dX3_putName_5 (by decide) ?_
  refine wp_iadd dX3_putName_6 ?_
  refine wz_putI dX3_putName_7 (st_0 ha0) (w3_15 _ (sb_row_all hc0)) rfl ?_
  refine wp_aload_n (i := 0) dX3_putName_10 rfl rfl ?_
  refine wp_aload_n (i := 0) dX3_putName_11 rfl rfl ?_
  refine wz_getIe (v := (V a0 10)) dX3_putName_12 (st_0 ha0) (f3_19 _ hc0) (sf_row_10 hc0) (up2_k (by decide)) ?_
  refine wp_iload_n (i := 1) dX3_putName_15 rfl rfl ?_
  obtain ⟨V1, hE, hv⟩ := hv
  refine wz_callX (vs := [.int (V a0 10), .int x1]) (st := []) dX3_putName_16 (st_0 ha0) (kx3_22 (vs3_22_row hc0)).1 hE rfl (kx3_22 (vs3_22_row hc0)).2 (Nat.le_of_ble_eq_true rfl) ?_
  change wp _ _ _ _ _ [] _ _ _
  obtain ⟨rfl, rfl⟩ := hv
  exact wp_return dX3_putName_19 rfl rfl hq
theorem wX3_takeName_0 {a0 : Nat} {ci0 ky0 : Nat} {x1 : Int32} (hK : StK K) (ha0 : IsSt K a0 ci0 ky0) (hc0 : ci0 ∈ [2, 3, 4, 6]) (hv : (∃ (v1 : Int32), Ev G d mX3_placeOf 0 [(0, .ref a0), (1, .int x1)] (K, n, V, J, O) (some (.int v1)) (K, n, V, J, O) ∧ (∃ (V2 : SV), Ev G d mX3_removeAt 0 [(0, .ref a0), (1, .int v1)] (K, n, (up2 V a0 8 ((V a0 8) + (v1 + (1 : Int32)))), J, O) none (K, n, V2, J, O) ∧ (r = none ∧ V' = V2)))) : Ev G (d + 1) mX3_takeName 0 [(0, .ref a0), (1, .int x1)] (K, n, V, J, O) r (K, n, V', J, O) := by
  refine Ev.mk fun Q hq => ?_
  refine wp_aload_n (i := 0) dX3_takeName_0 rfl rfl ?_
  refine wp_iload_n (i := 1) dX3_takeName_1 rfl rfl ?_
  obtain ⟨v1, hE, hv⟩ := hv
  refine wz_callX (vs := [.int x1]) (st := []) dX3_takeName_2 (st_0 ha0) (kx3_26 (vs3_26_row hc0)).1 hE rfl (kx3_26 (vs3_26_row hc0)).2 (Nat.le_of_ble_eq_true rfl) ?_
  change wp _ _ _ _ _ [.int v1] _ _ _
  refine wx_istore_n (ls' := [(0, .ref a0), (1, .int x1), (2, .int v1)]) (i := 2) dX3_takeName_5 rfl (by decide) rfl ?_
  refine wp_aload_n (i := 0) dX3_takeName_6 rfl rfl ?_
  refine wp_dupR dX3_takeName_7 ?_
  refine wz_getI dX3_takeName_8 (st_0 ha0) (f3_15 _ (sb_row_all hc0)) rfl ?_
  refine wp_iload_n (i := 2) dX3_takeName_11 rfl rfl ?_
  refine wp_iconst (v := 1) dX3_takeName_12 (by decide) ?_
  refine wp_iadd dX3_takeName_13 ?_
  refine wp_iadd dX3_takeName_14 ?_
  refine wz_putI dX3_takeName_15 (st_0 ha0) (w3_15 _ (sb_row_all hc0)) rfl ?_
  refine wp_aload_n (i := 0) dX3_takeName_18 rfl rfl ?_
  refine wp_iload_n (i := 2) dX3_takeName_19 rfl rfl ?_
  obtain ⟨V2, hE, hv⟩ := hv
  refine wz_callX (vs := [.int v1]) (st := []) dX3_takeName_20 (st_0 ha0) (kx3_30 (vs3_30_row hc0)).1 hE rfl (kx3_30 (vs3_30_row hc0)).2 (Nat.le_of_ble_eq_true rfl) ?_
  change wp _ _ _ _ _ [] _ _ _
  obtain ⟨rfl, rfl⟩ := hv
  exact wp_return dX3_takeName_23 rfl rfl hq
theorem wX3_placeOf_0 {a0 : Nat} {ci0 ky0 : Nat} {x1 : Int32} (hK : StK K) (ha0 : IsSt K a0 ci0 ky0) (hc0 : ci0 ∈ [2, 3, 4, 6]) (hv : Ev G d mX3_placeOf 2 [(0, .ref a0), (1, .int x1), (2, .int (0 : Int32))] (K, n, V, J, O) r (K, n, V, J, O)) : Ev G d mX3_placeOf 0 [(0, .ref a0), (1, .int x1)] (K, n, V, J, O) r (K, n, V, J, O) := by
  refine Ev.mk fun Q hq => ?_
  refine wp_iconst (v := 0) dX3_placeOf_0 (by decide) ?_
  refine wx_istore_n (ls' := [(0, .ref a0), (1, .int x1), (2, .int (0 : Int32))]) (i := 2) dX3_placeOf_1 rfl (by decide) rfl ?_
  exact hv Q hq
theorem wX3_placeOf_2 {a0 : Nat} {ci0 ky0 : Nat} {x1 : Int32} {x2 : Int32} (hK : StK K) (ha0 : IsSt K a0 ci0 ky0) (hc0 : ci0 ∈ [2, 3, 4, 6]) (hv : (((V a0 10) ≤ x2 → r = some (.int x2)) ∧ (¬ (V a0 10) ≤ x2 → (vp_in x2 80 ∧ (((V (a0 + 2) (x2).toNatClampNeg) = x1 → r = some (.int x2)) ∧ (¬ (V (a0 + 2) (x2).toNatClampNeg) = x1 → Ev G d mX3_placeOf 2 [(0, .ref a0), (1, .int x1), (2, .int (x2 + 1))] (K, n, V, J, O) r (K, n, V, J, O))))))) : Ev G d mX3_placeOf 2 [(0, .ref a0), (1, .int x1), (2, .int x2)] (K, n, V, J, O) r (K, n, V, J, O) := by
  refine Ev.mk fun Q hq => ?_
  refine wp_iload_n (i := 2) dX3_placeOf_2 rfl rfl ?_
  refine wp_aload_n (i := 0) dX3_placeOf_3 rfl rfl ?_
  refine wz_getI dX3_placeOf_4 (st_0 ha0) (f3_19 _ hc0) (sf_row_10 hc0) ?_
  refine wp_icmp_ge 26 dX3_placeOf_7 (by decide) (fun q => ?_) (fun q => ?_)
  · replace hv := hv.1 q
    refine wp_iload_n (i := 2) dX3_placeOf_26 rfl rfl ?_
    obtain rfl := hv
    exact wp_ireturn dX3_placeOf_27 rfl rfl rfl hq
  · replace hv := hv.2 q
    refine wp_aload_n (i := 0) dX3_placeOf_10 rfl rfl ?_
    refine wz_getR (b := (a0 + 2)) dX3_placeOf_11 (st_0 ha0) (f3_9 _ hc0) (sf_row_9 hc0) ?_
    refine wp_iload_n (i := 2) dX3_placeOf_14 rfl rfl ?_
    obtain ⟨z1, hv⟩ := hv
    refine wz_iaload dX3_placeOf_15 (st_row ha0 hc0) z1 ?_
    refine wp_iload_n (i := 1) dX3_placeOf_16 rfl rfl ?_
    refine wp_icmp_eq 26 dX3_placeOf_17 (by decide) (fun q => ?_) (fun q => ?_)
    · replace hv := hv.1 q
      refine wp_iload_n (i := 2) dX3_placeOf_26 rfl rfl ?_
      obtain rfl := hv
      exact wp_ireturn dX3_placeOf_27 rfl rfl rfl hq
    · replace hv := hv.2 q
      refine wx_iinc (v := 1) (ls' := [(0, .ref a0), (1, .int x1), (2, .int (x2 + 1))]) dX3_placeOf_20 rfl (by decide) (by decide) rfl ?_
      refine wp_goto 2 dX3_placeOf_23 (by decide) ?_
      exact hv Q hq
theorem wX3_insertAt_0 {a0 : Nat} {ci0 ky0 : Nat} {x1 : Int32} {x2 : Int32} (hK : StK K) (ha0 : IsSt K a0 ci0 ky0) (hc0 : ci0 ∈ [2, 3, 4, 6]) (hv : (((80 : Int32) ≤ (V a0 10) → (r = none ∧ V' = V)) ∧ (¬ (80 : Int32) ≤ (V a0 10) → ((x1 ≤ (V a0 10) → ((¬ x1 < 0 ∧ ¬ (x1 + (1 : Int32)) < 0 ∧ ¬ ((V a0 10) - x1) < 0 ∧ (x1).toNatClampNeg + (((V a0 10) - x1)).toNatClampNeg ≤ 80 ∧ ((x1 + (1 : Int32))).toNatClampNeg + (((V a0 10) - x1)).toNatClampNeg ≤ 80) ∧ (vp_in x1 80 ∧ (r = none ∧ V' = (up2 (up2 (upA V (a0 + 2) (va_cpy (V (a0 + 2)) (V (a0 + 2)) (x1).toNatClampNeg ((x1 + (1 : Int32))).toNatClampNeg (((V a0 10) - x1)).toNatClampNeg)) (a0 + 2) (x1).toNatClampNeg x2) a0 10 (((up2 (upA V (a0 + 2) (va_cpy (V (a0 + 2)) (V (a0 + 2)) (x1).toNatClampNeg ((x1 + (1 : Int32))).toNatClampNeg (((V a0 10) - x1)).toNatClampNeg)) (a0 + 2) (x1).toNatClampNeg x2) a0 10) + (1 : Int32))))))) ∧ (¬ x1 ≤ (V a0 10) → (r = none ∧ V' = V)))))) : Ev G d mX3_insertAt 0 [(0, .ref a0), (1, .int x1), (2, .int x2)] (K, n, V, J, O) r (K, n, V', J, O) := by
  refine Ev.mk fun Q hq => ?_
  refine wp_aload_n (i := 0) dX3_insertAt_0 rfl rfl ?_
  refine wz_getI dX3_insertAt_1 (st_0 ha0) (f3_19 _ hc0) (sf_row_10 hc0) ?_
  refine wp_bipush (v := 80) dX3_insertAt_4 (by decide) ?_
  refine wp_icmp_ge 17 dX3_insertAt_6 (by decide) (fun q => ?_) (fun q => ?_)
  · replace hv := hv.1 q
    obtain ⟨rfl, rfl⟩ := hv
    exact wp_return dX3_insertAt_17 rfl rfl hq
  · replace hv := hv.2 q
    refine wp_iload_n (i := 1) dX3_insertAt_9 rfl rfl ?_
    refine wp_aload_n (i := 0) dX3_insertAt_10 rfl rfl ?_
    refine wz_getI dX3_insertAt_11 (st_0 ha0) (f3_19 _ hc0) (sf_row_10 hc0) ?_
    refine wp_icmp_le 18 dX3_insertAt_14 (by decide) (fun q => ?_) (fun q => ?_)
    · replace hv := hv.1 q
      refine wp_aload_n (i := 0) dX3_insertAt_18 rfl rfl ?_
      refine wz_getR (b := (a0 + 2)) dX3_insertAt_19 (st_0 ha0) (f3_9 _ hc0) (sf_row_9 hc0) ?_
      refine wp_iload_n (i := 1) dX3_insertAt_22 rfl rfl ?_
      refine wp_aload_n (i := 0) dX3_insertAt_23 rfl rfl ?_
      refine wz_getR (b := (a0 + 2)) dX3_insertAt_24 (st_0 ha0) (f3_9 _ hc0) (sf_row_9 hc0) ?_
      refine wp_iload_n (i := 1) dX3_insertAt_27 rfl rfl ?_
      refine wp_iconst (v := 1) dX3_insertAt_28 (by decide) ?_
      refine wp_iadd dX3_insertAt_29 ?_
      refine wp_aload_n (i := 0) dX3_insertAt_30 rfl rfl ?_
      refine wz_getI dX3_insertAt_31 (st_0 ha0) (f3_19 _ hc0) (sf_row_10 hc0) ?_
      refine wp_iload_n (i := 1) dX3_insertAt_34 rfl rfl ?_
      refine wp_isub dX3_insertAt_35 ?_
      obtain ⟨⟨z1, z2, z3, z4, z5⟩, hv⟩ := hv
      refine wz_copyI dX3_insertAt_36 cp3_34 (st_row ha0 hc0) (st_row ha0 hc0) z1 z2 z3 z4 z5 (by decide) ?_
      refine wp_aload_n (i := 0) dX3_insertAt_39 rfl rfl ?_
      refine wz_getR (b := (a0 + 2)) dX3_insertAt_40 (st_0 ha0) (f3_9 _ hc0) (sf_row_9 hc0) ?_
      refine wp_iload_n (i := 1) dX3_insertAt_43 rfl rfl ?_
      refine wp_iload_n (i := 2) dX3_insertAt_44 rfl rfl ?_
      obtain ⟨z1, hv⟩ := hv
      refine wz_iastore dX3_insertAt_45 (st_row ha0 hc0) z1 ?_
      refine wp_aload_n (i := 0) dX3_insertAt_46 rfl rfl ?_
      refine wp_dupR dX3_insertAt_47 ?_
      refine wz_getI dX3_insertAt_48 (st_0 ha0) (f3_19 _ hc0) (sf_row_10 hc0) ?_
      refine wp_iconst (v := 1) dX3_insertAt_51 (by decide) ?_
      refine wp_iadd dX3_insertAt_52 ?_
      refine wz_putI dX3_insertAt_53 (st_0 ha0) (w3_19 _ hc0) (sf_row_10 hc0) ?_
      obtain ⟨rfl, rfl⟩ := hv
      exact wp_return dX3_insertAt_56 rfl rfl hq
    · replace hv := hv.2 q
      obtain ⟨rfl, rfl⟩ := hv
      exact wp_return dX3_insertAt_17 rfl rfl hq
theorem wX3_removeAt_0 {a0 : Nat} {ci0 ky0 : Nat} {x1 : Int32} (hK : StK K) (ha0 : IsSt K a0 ci0 ky0) (hc0 : ci0 ∈ [2, 3, 4, 6]) (hv : ((x1 < (V a0 10) → ((¬ (x1 + (1 : Int32)) < 0 ∧ ¬ x1 < 0 ∧ ¬ (((V a0 10) - (1 : Int32)) - x1) < 0 ∧ ((x1 + (1 : Int32))).toNatClampNeg + ((((V a0 10) - (1 : Int32)) - x1)).toNatClampNeg ≤ 80 ∧ (x1).toNatClampNeg + ((((V a0 10) - (1 : Int32)) - x1)).toNatClampNeg ≤ 80) ∧ (r = none ∧ V' = (upA (up2 V a0 10 ((V a0 10) - (1 : Int32))) (a0 + 2) (va_cpy ((up2 V a0 10 ((V a0 10) - (1 : Int32))) (a0 + 2)) ((up2 V a0 10 ((V a0 10) - (1 : Int32))) (a0 + 2)) ((x1 + (1 : Int32))).toNatClampNeg (x1).toNatClampNeg ((((V a0 10) - (1 : Int32)) - x1)).toNatClampNeg))))) ∧ (¬ x1 < (V a0 10) → (r = none ∧ V' = V)))) : Ev G d mX3_removeAt 0 [(0, .ref a0), (1, .int x1)] (K, n, V, J, O) r (K, n, V', J, O) := by
  refine Ev.mk fun Q hq => ?_
  refine wp_iload_n (i := 1) dX3_removeAt_0 rfl rfl ?_
  refine wp_aload_n (i := 0) dX3_removeAt_1 rfl rfl ?_
  refine wz_getI dX3_removeAt_2 (st_0 ha0) (f3_19 _ hc0) (sf_row_10 hc0) ?_
  refine wp_icmp_lt 9 dX3_removeAt_5 (by decide) (fun q => ?_) (fun q => ?_)
  · replace hv := hv.1 q
    refine wp_aload_n (i := 0) dX3_removeAt_9 rfl rfl ?_
    refine wp_dupR dX3_removeAt_10 ?_
    refine wz_getI dX3_removeAt_11 (st_0 ha0) (f3_19 _ hc0) (sf_row_10 hc0) ?_
    refine wp_iconst (v := 1) dX3_removeAt_14 (by decide) ?_
    refine wp_isub dX3_removeAt_15 ?_
    refine wz_putI dX3_removeAt_16 (st_0 ha0) (w3_19 _ hc0) (sf_row_10 hc0) ?_
    refine wp_aload_n (i := 0) dX3_removeAt_19 rfl rfl ?_
    refine wz_getR (b := (a0 + 2)) dX3_removeAt_20 (st_0 ha0) (f3_9 _ hc0) (sf_row_9 hc0) ?_
    refine wp_iload_n (i := 1) dX3_removeAt_23 rfl rfl ?_
    refine wp_iconst (v := 1) dX3_removeAt_24 (by decide) ?_
    refine wp_iadd dX3_removeAt_25 ?_
    refine wp_aload_n (i := 0) dX3_removeAt_26 rfl rfl ?_
    refine wz_getR (b := (a0 + 2)) dX3_removeAt_27 (st_0 ha0) (f3_9 _ hc0) (sf_row_9 hc0) ?_
    refine wp_iload_n (i := 1) dX3_removeAt_30 rfl rfl ?_
    refine wp_aload_n (i := 0) dX3_removeAt_31 rfl rfl ?_
    refine wz_getIe (v := ((V a0 10) - (1 : Int32))) dX3_removeAt_32 (st_0 ha0) (f3_19 _ hc0) (sf_row_10 hc0) up2_s ?_
    refine wp_iload_n (i := 1) dX3_removeAt_35 rfl rfl ?_
    refine wp_isub dX3_removeAt_36 ?_
    obtain ⟨⟨z1, z2, z3, z4, z5⟩, hv⟩ := hv
    refine wz_copyI dX3_removeAt_37 cp3_34 (st_row ha0 hc0) (st_row ha0 hc0) z1 z2 z3 z4 z5 (by decide) ?_
    obtain ⟨rfl, rfl⟩ := hv
    exact wp_return dX3_removeAt_40 rfl rfl hq
  · replace hv := hv.2 q
    obtain ⟨rfl, rfl⟩ := hv
    exact wp_return dX3_removeAt_8 rfl rfl hq
theorem wX3_howMany_0 {a0 : Nat} {ci0 ky0 : Nat} (hK : StK K) (ha0 : IsSt K a0 ci0 ky0) (hc0 : ci0 ∈ [2, 3, 4, 6]) (hv : r = some (.int (V a0 10))) : Ev G d mX3_howMany 0 [(0, .ref a0)] (K, n, V, J, O) r (K, n, V, J, O) := by
  refine Ev.mk fun Q hq => ?_
  refine wp_aload_n (i := 0) dX3_howMany_0 rfl rfl ?_
  refine wz_getI dX3_howMany_1 (st_0 ha0) (f3_19 _ hc0) (sf_row_10 hc0) ?_
  obtain rfl := hv
  exact wp_ireturn dX3_howMany_4 rfl rfl rfl hq
theorem wX3_nameIn_0 {a0 : Nat} {ci0 ky0 : Nat} {x1 : Int32} (hK : StK K) (ha0 : IsSt K a0 ci0 ky0) (hc0 : ci0 ∈ [2, 3, 4, 6]) (hv : (∃ (v1 : Int32), Ev G d mX11_isWithin 0 [(0, .int x1), (1, .int (0 : Int32)), (2, .int ((V a0 10) - (1 : Int32)))] (K, n, V, J, O) (some (.int v1)) (K, n, V, J, O) ∧ ((v1 = 0 → r = some (.int (-1 : Int32))) ∧ (¬ v1 = 0 → (vp_in x1 80 ∧ r = some (.int (V (a0 + 2) (x1).toNatClampNeg))))))) : Ev G (d + 1) mX3_nameIn 0 [(0, .ref a0), (1, .int x1)] (K, n, V, J, O) r (K, n, V, J, O) := by
  refine Ev.mk fun Q hq => ?_
  refine wp_iload_n (i := 1) dX3_nameIn_0 rfl rfl ?_
  refine wp_iconst (v := 0) dX3_nameIn_1 (by decide) ?_
  refine wp_aload_n (i := 0) dX3_nameIn_2 rfl rfl ?_
  refine wz_getI dX3_nameIn_3 (st_0 ha0) (f3_19 _ hc0) (sf_row_10 hc0) ?_
  refine wp_iconst (v := 1) dX3_nameIn_6 (by decide) ?_
  refine wp_isub dX3_nameIn_7 ?_
  obtain ⟨v1, hE, hv⟩ := hv
  refine wz_callSN (vs := [.int x1, .int (0 : Int32), .int ((V a0 10) - (1 : Int32))]) (st := []) dX3_nameIn_8 k3_40 hE rfl (Nat.le_of_ble_eq_true rfl) (Nat.le_of_ble_eq_true rfl) ?_
  change wp _ _ _ _ _ [.int v1] _ _ _
  refine wp_if_eq 23 dX3_nameIn_11 (by decide) (fun q => ?_) (fun q => ?_)
  · replace hv := hv.1 q
    refine wp_iconst (v := -1) dX3_nameIn_23 (by decide) ?_
    obtain rfl := hv
    exact wp_ireturn dX3_nameIn_24 rfl rfl rfl hq
  · replace hv := hv.2 q
    refine wp_aload_n (i := 0) dX3_nameIn_14 rfl rfl ?_
    refine wz_getR (b := (a0 + 2)) dX3_nameIn_15 (st_0 ha0) (f3_9 _ hc0) (sf_row_9 hc0) ?_
    refine wp_iload_n (i := 1) dX3_nameIn_18 rfl rfl ?_
    obtain ⟨z2, hv⟩ := hv
    refine wz_iaload dX3_nameIn_19 (st_row ha0 hc0) z2 ?_
    refine wp_goto 24 dX3_nameIn_20 (by decide) ?_
    obtain rfl := hv
    exact wp_ireturn dX3_nameIn_24 rfl rfl rfl hq
theorem wX3_run_0 {a0 : Nat} {ci0 ky0 : Nat} {a1 : Nat} (hK : StK K) (ha0 : IsSt K a0 ci0 ky0) (hc0 : ci0 ∈ [2, 3, 4, 6]) (hq1 : IsAk K a1) (hv : Ev G (d + 1) mX3_run 2 [(0, .ref a0), (1, .ref a1), (2, .int (0 : Int32))] (K, n, V, J, O) r (K, n, V', J, O)) : Ev G (d + 1) mX3_run 0 [(0, .ref a0), (1, .ref a1)] (K, n, V, J, O) r (K, n, V', J, O) := by
  refine Ev.mk fun Q hq => ?_
  refine wp_iconst (v := 0) dX3_run_0 (by decide) ?_
  refine wx_istore_n (ls' := [(0, .ref a0), (1, .ref a1), (2, .int (0 : Int32))]) (i := 2) dX3_run_1 rfl (by decide) rfl ?_
  exact hv Q hq
theorem wX3_run_2 {a0 : Nat} {ci0 ky0 : Nat} {a1 : Nat} {x2 : Int32} (hK : StK K) (ha0 : IsSt K a0 ci0 ky0) (hc0 : ci0 ∈ [2, 3, 4, 6]) (hq1 : IsAk K a1) (hv : (((V a0 10) ≤ x2 → (∃ (v1 : Int32), Ev G d mX0_result 0 [(0, .ref a1)] (K, n, V, J, O) (some (.int v1)) (K, n, V, J, O) ∧ (r = some (.int v1) ∧ V' = V))) ∧ (¬ (V a0 10) ≤ x2 → (vp_in x2 80 ∧ (∃ (V3 : SV), Ev G d mX0_see 0 [(0, .ref a1), (1, .ref 1), (2, .int ((up2 V a0 8 ((V a0 8) + (1 : Int32))) (a0 + 2) (x2).toNatClampNeg))] (K, n, (up2 V a0 8 ((V a0 8) + (1 : Int32))), J, O) none (K, n, V3, J, O) ∧ Ev G (d + 1) mX3_run 2 [(0, .ref a0), (1, .ref a1), (2, .int (x2 + 1))] (K, n, V3, J, O) r (K, n, V', J, O)))))) : Ev G (d + 1) mX3_run 2 [(0, .ref a0), (1, .ref a1), (2, .int x2)] (K, n, V, J, O) r (K, n, V', J, O) := by
  refine Ev.mk fun Q hq => ?_
  refine wp_iload_n (i := 2) dX3_run_2 rfl rfl ?_
  refine wp_aload_n (i := 0) dX3_run_3 rfl rfl ?_
  refine wz_getI dX3_run_4 (st_0 ha0) (f3_19 _ hc0) (sf_row_10 hc0) ?_
  refine wp_icmp_ge 40 dX3_run_7 (by decide) (fun q => ?_) (fun q => ?_)
  · replace hv := hv.1 q
    refine wp_aload_n (i := 1) dX3_run_40 rfl rfl ?_
    obtain ⟨v1, hE, hv⟩ := hv
    refine wz_callV (vs := []) (st := []) dX3_run_41 (ak_0 hq1) rfl k3_54_0 hE rfl (Nat.le_of_ble_eq_true rfl) (Nat.le_of_ble_eq_true rfl) ?_
    change wp _ _ _ _ _ [.int v1] _ _ _
    obtain ⟨rfl, rfl⟩ := hv
    exact wp_ireturn dX3_run_44 rfl rfl rfl hq
  · replace hv := hv.2 q
    refine wp_aload_n (i := 0) dX3_run_10 rfl rfl ?_
    refine wp_dupR dX3_run_11 ?_
    refine wz_getI dX3_run_12 (st_0 ha0) (f3_15 _ (sb_row_all hc0)) rfl ?_
    refine wp_iconst (v := 1) dX3_run_15 (by decide) ?_
    refine wp_iadd dX3_run_16 ?_
    refine wz_putI dX3_run_17 (st_0 ha0) (w3_15 _ (sb_row_all hc0)) rfl ?_
    refine wp_aload_n (i := 1) dX3_run_20 rfl rfl ?_
    refine wp_aload_n (i := 0) dX3_run_21 rfl rfl ?_
    refine wz_getR (b := 1) dX3_run_22 (st_0 ha0) (f3_44 _ (sb_row_all hc0)) rfl ?_
    refine wp_aload_n (i := 0) dX3_run_25 rfl rfl ?_
    refine wz_getR (b := (a0 + 2)) dX3_run_26 (st_0 ha0) (f3_9 _ hc0) (sf_row_9 hc0) ?_
    refine wp_iload_n (i := 2) dX3_run_29 rfl rfl ?_
    obtain ⟨z2, hv⟩ := hv
    refine wz_iaload dX3_run_30 (st_row ha0 hc0) z2 ?_
    obtain ⟨V3, hE, hv⟩ := hv
    refine wz_callV (vs := [.ref 1, .int ((up2 V a0 8 ((V a0 8) + (1 : Int32))) (a0 + 2) (x2).toNatClampNeg)]) (st := []) dX3_run_31 (ak_0 hq1) rfl k3_48_0 hE rfl (Nat.le_of_ble_eq_true rfl) (Nat.le_of_ble_eq_true rfl) ?_
    change wp _ _ _ _ _ [] _ _ _
    refine wx_iinc (v := 1) (ls' := [(0, .ref a0), (1, .ref a1), (2, .int (x2 + 1))]) dX3_run_34 rfl (by decide) (by decide) rfl ?_
    refine wp_goto 2 dX3_run_37 (by decide) ?_
    exact hv Q hq
theorem wX3_priceFor_0 {a0 : Nat} {ci0 ky0 : Nat} {a1 : Nat} {x2 : Int32} (hK : StK K) (ha0 : IsSt K a0 ci0 ky0) (hc0 : ci0 ∈ [2, 3, 4, 6]) (hq1 : IsAk K a1) (hv : r = some (.int x2)) : Ev G d mX3_priceFor 0 [(0, .ref a0), (1, .ref a1), (2, .int x2)] (K, n, V, J, O) r (K, n, V, J, O) := by
  refine Ev.mk fun Q hq => ?_
  refine wp_iload_n (i := 2) dX3_priceFor_0 rfl rfl ?_
  obtain rfl := hv
  exact wp_ireturn dX3_priceFor_1 rfl rfl rfl hq
theorem wX3_priceOfPut_0 {a0 : Nat} {ci0 ky0 : Nat} {x1 : Int32} (hK : StK K) (ha0 : IsSt K a0 ci0 ky0) (hc0 : ci0 ∈ [2, 3, 4, 6]) (hv : r = some (.int (1 : Int32))) : Ev G d mX3_priceOfPut 0 [(0, .ref a0), (1, .int x1)] (K, n, V, J, O) r (K, n, V, J, O) := by
  refine Ev.mk fun Q hq => ?_
  refine wp_iconst (v := 1) dX3_priceOfPut_0 (by decide) ?_
  obtain rfl := hv
  exact wp_ireturn dX3_priceOfPut_1 rfl rfl rfl hq
theorem wX3_finds_0 {a0 : Nat} {ci0 ky0 : Nat} {x1 : Int32} (hK : StK K) (ha0 : IsSt K a0 ci0 ky0) (hc0 : ci0 ∈ [2, 3, 4, 6]) (hv : (∃ (V1 : SV), Ev G d mX5_led 0 [(0, .ref a0), (1, .int (20 : Int32))] (K, n, V, J, O) none (K, n, V1, J, O) ∧ (∃ (v3 : Int32) (V2 : SV), Ev G d mX5_finds 0 [(0, .ref a0), (1, .int x1)] (K, n, V1, J, O) (some (.int v3)) (K, n, V2, J, O) ∧ (r = some (.int (v3 + (V2 a0 2))) ∧ V' = V2)))) : Ev G (d + 1) mX3_finds 0 [(0, .ref a0), (1, .int x1)] (K, n, V, J, O) r (K, n, V', J, O) := by
  refine Ev.mk fun Q hq => ?_
  refine wp_aload_n (i := 0) dX3_finds_0 rfl rfl ?_
  refine wp_bipush (v := 20) dX3_finds_1 (by decide) ?_
  obtain ⟨V1, hE, hv⟩ := hv
  refine wz_callX (vs := [.int (20 : Int32)]) (st := []) dX3_finds_3 (st_0 ha0) (kx3_58 (vs3_58_row hc0)).1 hE rfl (kx3_58 (vs3_58_row hc0)).2 (Nat.le_of_ble_eq_true rfl) ?_
  change wp _ _ _ _ _ [] _ _ _
  refine wp_aload_n (i := 0) dX3_finds_6 rfl rfl ?_
  refine wp_iload_n (i := 1) dX3_finds_7 rfl rfl ?_
  obtain ⟨v3, V2, hE, hv⟩ := hv
  refine wz_callSU (vs := [.int x1]) (st := []) dX3_finds_8 (st_0 ha0) (acls_at (lt13 (sb_row_all hc0))) su3_61 hE rfl (Nat.le_of_ble_eq_true rfl) (Nat.le_of_ble_eq_true rfl) ?_
  change wp _ _ _ _ _ [.int v3] _ _ _
  refine wp_aload_n (i := 0) dX3_finds_11 rfl rfl ?_
  refine wz_getI dX3_finds_12 (st_0 ha0) (f3_64 _ (sb_row_all hc0)) rfl ?_
  refine wp_iadd dX3_finds_15 ?_
  obtain ⟨rfl, rfl⟩ := hv
  exact wp_ireturn dX3_finds_16 rfl rfl rfl hq
theorem wX4_kind_0 {a0 : Nat} {ci0 ky0 : Nat} (hK : StK K) (ha0 : IsSt K a0 ci0 ky0) (hc0 : ci0 ∈ [4, 6]) (hv : r = some (.int (2 : Int32))) : Ev G d mX4_kind 0 [(0, .ref a0)] (K, n, V, J, O) r (K, n, V, J, O) := by
  refine Ev.mk fun Q hq => ?_
  refine wp_iconst (v := 2) dX4_kind_0 (by decide) ?_
  obtain rfl := hv
  exact wp_ireturn dX4_kind_1 rfl rfl rfl hq
theorem wX4_placeFor_0 {a0 : Nat} {ci0 ky0 : Nat} {x1 : Int32} {x2 : Int32} (hK : StK K) (ha0 : IsSt K a0 ci0 ky0) (hc0 : ci0 ∈ [4, 6]) (hv : Ev G (d + 1) mX4_placeFor 8 [(0, .ref a0), (1, .int x1), (2, .int x2), (3, .int (0 : Int32)), (4, .int (V a0 10))] (K, n, V, J, O) r (K, n, V', J, O)) : Ev G (d + 1) mX4_placeFor 0 [(0, .ref a0), (1, .int x1), (2, .int x2)] (K, n, V, J, O) r (K, n, V', J, O) := by
  refine Ev.mk fun Q hq => ?_
  refine wp_iconst (v := 0) dX4_placeFor_0 (by decide) ?_
  refine wx_istore_n (ls' := [(0, .ref a0), (1, .int x1), (2, .int x2), (3, .int (0 : Int32))]) (i := 3) dX4_placeFor_1 rfl (by decide) rfl ?_
  refine wp_aload_n (i := 0) dX4_placeFor_2 rfl rfl ?_
  refine wz_getI dX4_placeFor_3 (st_0 ha0) (f4_9 _ (sb_srt_row hc0)) (sf_row_10 (sb_srt_row hc0)) ?_
  refine wx_istore (ls' := [(0, .ref a0), (1, .int x1), (2, .int x2), (3, .int (0 : Int32)), (4, .int (V a0 10))]) dX4_placeFor_6 (by decide) rfl ?_
  exact hv Q hq
theorem wX4_placeFor_8 {a0 : Nat} {ci0 ky0 : Nat} {x1 : Int32} {x2 : Int32} {x3 : Int32} {x4 : Int32} (hK : StK K) (ha0 : IsSt K a0 ci0 ky0) (hc0 : ci0 ∈ [4, 6]) (hv : ((x4 ≤ x3 → (r = some (.int x3) ∧ V' = V)) ∧ (¬ x4 ≤ x3 → (vp_in ((x3 + x4) / (2 : Int32)) 80 ∧ (∃ (v2 : Int32), Ev G d mX5_comesAhead 0 [(0, .ref a0), (1, .int ((up2 V a0 8 ((V a0 8) + (1 : Int32))) (a0 + 2) (((x3 + x4) / (2 : Int32))).toNatClampNeg)), (2, .int x1), (3, .int x2)] (K, n, (up2 V a0 8 ((V a0 8) + (1 : Int32))), J, O) (some (.int v2)) (K, n, (up2 V a0 8 ((V a0 8) + (1 : Int32))), J, O) ∧ ((v2 = 0 → Ev G (d + 1) mX4_placeFor 8 [(0, .ref a0), (1, .int x1), (2, .int x2), (3, .int x3), (4, .int ((x3 + x4) / (2 : Int32)))] (K, n, (up2 V a0 8 ((V a0 8) + (1 : Int32))), J, O) r (K, n, V', J, O)) ∧ (¬ v2 = 0 → Ev G (d + 1) mX4_placeFor 8 [(0, .ref a0), (1, .int x1), (2, .int x2), (3, .int (((x3 + x4) / (2 : Int32)) + (1 : Int32))), (4, .int x4)] (K, n, (up2 V a0 8 ((V a0 8) + (1 : Int32))), J, O) r (K, n, V', J, O)))))))) : Ev G (d + 1) mX4_placeFor 8 [(0, .ref a0), (1, .int x1), (2, .int x2), (3, .int x3), (4, .int x4)] (K, n, V, J, O) r (K, n, V', J, O) := by
  refine Ev.mk fun Q hq => ?_
  refine wp_iload_n (i := 3) dX4_placeFor_8 rfl rfl ?_
  refine wp_iload dX4_placeFor_9 rfl ?_
  refine wp_icmp_ge 63 dX4_placeFor_11 (by decide) (fun q => ?_) (fun q => ?_)
  · replace hv := hv.1 q
    refine wp_iload_n (i := 3) dX4_placeFor_63 rfl rfl ?_
    obtain ⟨rfl, rfl⟩ := hv
    exact wp_ireturn dX4_placeFor_64 rfl rfl rfl hq
  · replace hv := hv.2 q
    refine wp_iload_n (i := 3) dX4_placeFor_14 rfl rfl ?_
    refine wp_iload dX4_placeFor_15 rfl ?_
    refine wp_iadd dX4_placeFor_17 ?_
    refine wp_iconst (v := 2) dX4_placeFor_18 (by decide) ?_
    refine wp_idiv dX4_placeFor_19 (by decide) ?_
    refine wx_istore (ls' := [(0, .ref a0), (1, .int x1), (2, .int x2), (3, .int x3), (4, .int x4), (5, .int ((x3 + x4) / (2 : Int32)))]) dX4_placeFor_20 (by decide) rfl ?_
    refine wp_aload_n (i := 0) dX4_placeFor_22 rfl rfl ?_
    refine wp_dupR dX4_placeFor_23 ?_
    refine wz_getI dX4_placeFor_24 (st_0 ha0) (f4_15 _ (sb_srt_all hc0)) rfl ?_
    refine wp_iconst (v := 1) dX4_placeFor_27 (by decide) ?_
    refine wp_iadd dX4_placeFor_28 ?_
    refine wz_putI dX4_placeFor_29 (st_0 ha0) (w4_15 _ (sb_srt_all hc0)) rfl ?_
    refine wp_aload_n (i := 0) dX4_placeFor_32 rfl rfl ?_
    refine wp_aload_n (i := 0) dX4_placeFor_33 rfl rfl ?_
    refine wz_getR (b := (a0 + 2)) dX4_placeFor_34 (st_0 ha0) (f4_18 _ (sb_srt_row hc0)) (sf_row_9 (sb_srt_row hc0)) ?_
    refine wp_iload dX4_placeFor_37 rfl ?_
    obtain ⟨z1, hv⟩ := hv
    refine wz_iaload dX4_placeFor_39 (st_row ha0 (sb_srt_row hc0)) z1 ?_
    refine wp_iload_n (i := 1) dX4_placeFor_40 rfl rfl ?_
    refine wp_iload_n (i := 2) dX4_placeFor_41 rfl rfl ?_
    obtain ⟨v2, hE, hv⟩ := hv
    refine wz_callX (vs := [.int ((up2 V a0 8 ((V a0 8) + (1 : Int32))) (a0 + 2) (((x3 + x4) / (2 : Int32))).toNatClampNeg), .int x1, .int x2]) (st := []) dX4_placeFor_42 (st_0 ha0) (kx4_22 (vs4_22_srt hc0)).1 hE rfl (kx4_22 (vs4_22_srt hc0)).2 (Nat.le_of_ble_eq_true rfl) ?_
    change wp _ _ _ _ _ [.int v2] _ _ _
    refine wp_if_eq 56 dX4_placeFor_45 (by decide) (fun q => ?_) (fun q => ?_)
    · replace hv := hv.1 q
      refine wp_iload dX4_placeFor_56 rfl ?_
      refine wx_istore (ls' := [(0, .ref a0), (1, .int x1), (2, .int x2), (3, .int x3), (4, .int ((x3 + x4) / (2 : Int32))), (5, .int ((x3 + x4) / (2 : Int32)))]) dX4_placeFor_58 (by decide) rfl ?_
      refine wp_goto 8 dX4_placeFor_60 (by decide) ?_
      refine wx_sub (ls' := [(0, .ref a0), (1, .int x1), (2, .int x2), (3, .int x3), (4, .int ((x3 + x4) / (2 : Int32)))]) [0, 1, 2, 3, 4] rfl ?_
      exact hv Q hq
    · replace hv := hv.2 q
      refine wp_iload dX4_placeFor_48 rfl ?_
      refine wp_iconst (v := 1) dX4_placeFor_50 (by decide) ?_
      refine wp_iadd dX4_placeFor_51 ?_
      refine wx_istore_n (ls' := [(0, .ref a0), (1, .int x1), (2, .int x2), (3, .int (((x3 + x4) / (2 : Int32)) + (1 : Int32))), (4, .int x4), (5, .int ((x3 + x4) / (2 : Int32)))]) (i := 3) dX4_placeFor_52 rfl (by decide) rfl ?_
      refine wp_goto 60 dX4_placeFor_53 (by decide) ?_
      refine wp_goto 8 dX4_placeFor_60 (by decide) ?_
      refine wx_sub (ls' := [(0, .ref a0), (1, .int x1), (2, .int x2), (3, .int (((x3 + x4) / (2 : Int32)) + (1 : Int32))), (4, .int x4)]) [0, 1, 2, 3, 4] rfl ?_
      exact hv Q hq
theorem wX4_putName_0 {a0 : Nat} {ci0 ky0 : Nat} {x1 : Int32} (hK : StK K) (ha0 : IsSt K a0 ci0 ky0) (hc0 : ci0 ∈ [4, 6]) (hv : (vp_in x1 80 ∧ (∃ (v3 : Int32) (V2 : SV), Ev G d mX4_placeFor 0 [(0, .ref a0), (1, .int (V (4 + 1 + ky0) (x1).toNatClampNeg)), (2, .int x1)] (K, n, V, J, O) (some (.int v3)) (K, n, V2, J, O) ∧ (∃ (V4 : SV), Ev G d mX3_insertAt 0 [(0, .ref a0), (1, .int v3), (2, .int x1)] (K, n, (up2 V2 a0 8 ((V2 a0 8) + ((V2 a0 10) - v3))), J, O) none (K, n, V4, J, O) ∧ (r = none ∧ V' = V4))))) : Ev G (d + 1) mX4_putName 0 [(0, .ref a0), (1, .int x1)] (K, n, V, J, O) r (K, n, V', J, O) := by
  refine Ev.mk fun Q hq => ?_
  refine wp_aload_n (i := 0) dX4_putName_0 rfl rfl ?_
  refine wp_aload_n (i := 0) dX4_putName_1 rfl rfl ?_
  refine wz_getR (b := (4 + 1 + ky0)) dX4_putName_2 (st_0 ha0) (f4_26 _ (sb_srt_all hc0)) rfl ?_
  refine wp_iload_n (i := 1) dX4_putName_5 rfl rfl ?_
  obtain ⟨z1, hv⟩ := hv
  refine wz_iaload dX4_putName_6 (st_k hK ha0) z1 ?_
  refine wp_iload_n (i := 1) dX4_putName_7 rfl rfl ?_
  obtain ⟨v3, V2, hE, hv⟩ := hv
  refine wz_callX (vs := [.int (V (4 + 1 + ky0) (x1).toNatClampNeg), .int x1]) (st := []) dX4_putName_8 (st_0 ha0) (kx4_29 (vs4_29_srt hc0)).1 hE rfl (kx4_29 (vs4_29_srt hc0)).2 (Nat.le_of_ble_eq_true rfl) ?_
  change wp _ _ _ _ _ [.int v3] _ _ _
  refine wx_istore_n (ls' := [(0, .ref a0), (1, .int x1), (2, .int v3)]) (i := 2) dX4_putName_11 rfl (by decide) rfl ?_
  refine wp_aload_n (i := 0) dX4_putName_12 rfl rfl ?_
  refine wp_dupR dX4_putName_13 ?_
  refine wz_getI dX4_putName_14 (st_0 ha0) (f4_15 _ (sb_srt_all hc0)) rfl ?_
  refine wp_aload_n (i := 0) dX4_putName_17 rfl rfl ?_
  refine wz_getI dX4_putName_18 (st_0 ha0) (f4_9 _ (sb_srt_row hc0)) (sf_row_10 (sb_srt_row hc0)) ?_
  refine wp_iload_n (i := 2) dX4_putName_21 rfl rfl ?_
  refine wp_isub dX4_putName_22 ?_
  refine wp_iadd dX4_putName_23 ?_
  refine wz_putI dX4_putName_24 (st_0 ha0) (w4_15 _ (sb_srt_all hc0)) rfl ?_
  refine wp_aload_n (i := 0) dX4_putName_27 rfl rfl ?_
  refine wp_iload_n (i := 2) dX4_putName_28 rfl rfl ?_
  refine wp_iload_n (i := 1) dX4_putName_29 rfl rfl ?_
  obtain ⟨V4, hE, hv⟩ := hv
  refine wz_callX (vs := [.int v3, .int x1]) (st := []) dX4_putName_30 (st_0 ha0) (kx4_33 (vs4_33_srt hc0)).1 hE rfl (kx4_33 (vs4_33_srt hc0)).2 (Nat.le_of_ble_eq_true rfl) ?_
  change wp _ _ _ _ _ [] _ _ _
  obtain ⟨rfl, rfl⟩ := hv
  exact wp_return dX4_putName_33 rfl rfl hq
theorem wX4_takeName_0 {a0 : Nat} {ci0 ky0 : Nat} {x1 : Int32} (hK : StK K) (ha0 : IsSt K a0 ci0 ky0) (hc0 : ci0 ∈ [4, 6]) (hv : (vp_in x1 80 ∧ (∃ (v3 : Int32) (V2 : SV), Ev G d mX4_placeFor 0 [(0, .ref a0), (1, .int (V (4 + 1 + ky0) (x1).toNatClampNeg)), (2, .int x1)] (K, n, V, J, O) (some (.int v3)) (K, n, V2, J, O) ∧ (∃ (V4 : SV), Ev G d mX3_removeAt 0 [(0, .ref a0), (1, .int v3)] (K, n, (up2 V2 a0 8 ((V2 a0 8) + (((V2 a0 10) - (1 : Int32)) - v3))), J, O) none (K, n, V4, J, O) ∧ (r = none ∧ V' = V4))))) : Ev G (d + 1) mX4_takeName 0 [(0, .ref a0), (1, .int x1)] (K, n, V, J, O) r (K, n, V', J, O) := by
  refine Ev.mk fun Q hq => ?_
  refine wp_aload_n (i := 0) dX4_takeName_0 rfl rfl ?_
  refine wp_aload_n (i := 0) dX4_takeName_1 rfl rfl ?_
  refine wz_getR (b := (4 + 1 + ky0)) dX4_takeName_2 (st_0 ha0) (f4_26 _ (sb_srt_all hc0)) rfl ?_
  refine wp_iload_n (i := 1) dX4_takeName_5 rfl rfl ?_
  obtain ⟨z1, hv⟩ := hv
  refine wz_iaload dX4_takeName_6 (st_k hK ha0) z1 ?_
  refine wp_iload_n (i := 1) dX4_takeName_7 rfl rfl ?_
  obtain ⟨v3, V2, hE, hv⟩ := hv
  refine wz_callX (vs := [.int (V (4 + 1 + ky0) (x1).toNatClampNeg), .int x1]) (st := []) dX4_takeName_8 (st_0 ha0) (kx4_29 (vs4_29_srt hc0)).1 hE rfl (kx4_29 (vs4_29_srt hc0)).2 (Nat.le_of_ble_eq_true rfl) ?_
  change wp _ _ _ _ _ [.int v3] _ _ _
  refine wx_istore_n (ls' := [(0, .ref a0), (1, .int x1), (2, .int v3)]) (i := 2) dX4_takeName_11 rfl (by decide) rfl ?_
  refine wp_aload_n (i := 0) dX4_takeName_12 rfl rfl ?_
  refine wp_dupR dX4_takeName_13 ?_
  refine wz_getI dX4_takeName_14 (st_0 ha0) (f4_15 _ (sb_srt_all hc0)) rfl ?_
  refine wp_aload_n (i := 0) dX4_takeName_17 rfl rfl ?_
  refine wz_getI dX4_takeName_18 (st_0 ha0) (f4_9 _ (sb_srt_row hc0)) (sf_row_10 (sb_srt_row hc0)) ?_
  refine wp_iconst (v := 1) dX4_takeName_21 (by decide) ?_
  refine wp_isub dX4_takeName_22 ?_
  refine wp_iload_n (i := 2) dX4_takeName_23 rfl rfl ?_
  refine wp_isub dX4_takeName_24 ?_
  refine wp_iadd dX4_takeName_25 ?_
  refine wz_putI dX4_takeName_26 (st_0 ha0) (w4_15 _ (sb_srt_all hc0)) rfl ?_
  refine wp_aload_n (i := 0) dX4_takeName_29 rfl rfl ?_
  refine wp_iload_n (i := 2) dX4_takeName_30 rfl rfl ?_
  obtain ⟨V4, hE, hv⟩ := hv
  refine wz_callX (vs := [.int v3]) (st := []) dX4_takeName_31 (st_0 ha0) (kx4_37 (vs4_37_srt hc0)).1 hE rfl (kx4_37 (vs4_37_srt hc0)).2 (Nat.le_of_ble_eq_true rfl) ?_
  change wp _ _ _ _ _ [] _ _ _
  obtain ⟨rfl, rfl⟩ := hv
  exact wp_return dX4_takeName_34 rfl rfl hq
theorem wX4_run_0 {a0 : Nat} {ci0 ky0 : Nat} {a1 : Nat} (hK : StK K) (ha0 : IsSt K a0 ci0 ky0) (hc0 : ci0 ∈ [4, 6]) (hq1 : IsAk K a1) (hv : (∃ (v1 : Int32), Ev G d mX0_highEnd 0 [(0, .ref a1), (1, .int (V a0 2))] (K, n, V, J, O) (some (.int v1)) (K, n, V, J, O) ∧ (∃ (v2 : Int32), Ev G d mX0_lowEnd 0 [(0, .ref a1), (1, .int (V a0 2))] (K, n, V, J, O) (some (.int v2)) (K, n, V, J, O) ∧ (∃ (v4 : Int32) (V3 : SV), Ev G d mX4_placeFor 0 [(0, .ref a0), (1, .int v2), (2, .int (-1 : Int32))] (K, n, V, J, O) (some (.int v4)) (K, n, V3, J, O) ∧ Ev G (d + 1) mX4_run 23 [(0, .ref a0), (1, .ref a1), (2, .int v1), (3, .int v4)] (K, n, V3, J, O) r (K, n, V', J, O))))) : Ev G (d + 1) mX4_run 0 [(0, .ref a0), (1, .ref a1)] (K, n, V, J, O) r (K, n, V', J, O) := by
  refine Ev.mk fun Q hq => ?_
  refine wp_aload_n (i := 1) dX4_run_0 rfl rfl ?_
  refine wp_aload_n (i := 0) dX4_run_1 rfl rfl ?_
  refine wz_getI dX4_run_2 (st_0 ha0) (f4_41 _ (sb_srt_all hc0)) rfl ?_
  obtain ⟨v1, hE, hv⟩ := hv
  refine wz_callV (vs := [.int (V a0 2)]) (st := []) dX4_run_5 (ak_0 hq1) rfl k4_44_0 hE rfl (Nat.le_of_ble_eq_true rfl) (Nat.le_of_ble_eq_true rfl) ?_
  change wp _ _ _ _ _ [.int v1] _ _ _
  refine wx_istore_n (ls' := [(0, .ref a0), (1, .ref a1), (2, .int v1)]) (i := 2) dX4_run_8 rfl (by decide) rfl ?_
  refine wp_aload_n (i := 0) dX4_run_9 rfl rfl ?_
  refine wp_aload_n (i := 1) dX4_run_10 rfl rfl ?_
  refine wp_aload_n (i := 0) dX4_run_11 rfl rfl ?_
  refine wz_getI dX4_run_12 (st_0 ha0) (f4_41 _ (sb_srt_all hc0)) rfl ?_
  obtain ⟨v2, hE, hv⟩ := hv
  refine wz_callV (vs := [.int (V a0 2)]) (st := [.ref a0]) dX4_run_15 (ak_0 hq1) rfl k4_50_0 hE rfl (Nat.le_of_ble_eq_true rfl) (Nat.le_of_ble_eq_true rfl) ?_
  change wp _ _ _ _ _ [.int v2, .ref a0] _ _ _
  refine wp_iconst (v := -1) dX4_run_18 (by decide) ?_
  obtain ⟨v4, V3, hE, hv⟩ := hv
  refine wz_callX (vs := [.int v2, .int (-1 : Int32)]) (st := []) dX4_run_19 (st_0 ha0) (kx4_29 (vs4_29_srt hc0)).1 hE rfl (kx4_29 (vs4_29_srt hc0)).2 (Nat.le_of_ble_eq_true rfl) ?_
  change wp _ _ _ _ _ [.int v4] _ _ _
  refine wx_istore_n (ls' := [(0, .ref a0), (1, .ref a1), (2, .int v1), (3, .int v4)]) (i := 3) dX4_run_22 rfl (by decide) rfl ?_
  exact hv Q hq
theorem wX4_run_23 {a0 : Nat} {ci0 ky0 : Nat} {a1 : Nat} {x2 : Int32} {x3 : Int32} (hK : StK K) (ha0 : IsSt K a0 ci0 ky0) (hc0 : ci0 ∈ [4, 6]) (hq1 : IsAk K a1) (hv : (((V a0 10) ≤ x3 → (∃ (v1 : Int32), Ev G d mX0_result 0 [(0, .ref a1)] (K, n, V, J, O) (some (.int v1)) (K, n, V, J, O) ∧ (r = some (.int v1) ∧ V' = V))) ∧ (¬ (V a0 10) ≤ x3 → (vp_in x3 80 ∧ (vp_in ((up2 V a0 8 ((V a0 8) + (1 : Int32))) (a0 + 2) (x3).toNatClampNeg) 80 ∧ ((((up2 V a0 8 ((V a0 8) + (1 : Int32))) (4 + 1 + ky0) (((up2 V a0 8 ((V a0 8) + (1 : Int32))) (a0 + 2) (x3).toNatClampNeg)).toNatClampNeg) ≤ x2 → (vp_in x3 80 ∧ (∃ (V5 : SV), Ev G d mX0_see 0 [(0, .ref a1), (1, .ref 1), (2, .int ((up2 V a0 8 ((V a0 8) + (1 : Int32))) (a0 + 2) (x3).toNatClampNeg))] (K, n, (up2 V a0 8 ((V a0 8) + (1 : Int32))), J, O) none (K, n, V5, J, O) ∧ Ev G (d + 1) mX4_run 23 [(0, .ref a0), (1, .ref a1), (2, .int x2), (3, .int (x3 + 1))] (K, n, V5, J, O) r (K, n, V', J, O)))) ∧ (¬ ((up2 V a0 8 ((V a0 8) + (1 : Int32))) (4 + 1 + ky0) (((up2 V a0 8 ((V a0 8) + (1 : Int32))) (a0 + 2) (x3).toNatClampNeg)).toNatClampNeg) ≤ x2 → (∃ (v6 : Int32), Ev G d mX0_result 0 [(0, .ref a1)] (K, n, (up2 V a0 8 ((V a0 8) + (1 : Int32))), J, O) (some (.int v6)) (K, n, (up2 V a0 8 ((V a0 8) + (1 : Int32))), J, O) ∧ (r = some (.int v6) ∧ V' = (up2 V a0 8 ((V a0 8) + (1 : Int32)))))))))))) : Ev G (d + 1) mX4_run 23 [(0, .ref a0), (1, .ref a1), (2, .int x2), (3, .int x3)] (K, n, V, J, O) r (K, n, V', J, O) := by
  refine Ev.mk fun Q hq => ?_
  refine wp_iload_n (i := 3) dX4_run_23 rfl rfl ?_
  refine wp_aload_n (i := 0) dX4_run_24 rfl rfl ?_
  refine wz_getI dX4_run_25 (st_0 ha0) (f4_9 _ (sb_srt_row hc0)) (sf_row_10 (sb_srt_row hc0)) ?_
  refine wp_icmp_ge 79 dX4_run_28 (by decide) (fun q => ?_) (fun q => ?_)
  · replace hv := hv.1 q
    refine wp_aload_n (i := 1) dX4_run_79 rfl rfl ?_
    obtain ⟨v1, hE, hv⟩ := hv
    refine wz_callV (vs := []) (st := []) dX4_run_80 (ak_0 hq1) rfl k4_61_0 hE rfl (Nat.le_of_ble_eq_true rfl) (Nat.le_of_ble_eq_true rfl) ?_
    change wp _ _ _ _ _ [.int v1] _ _ _
    obtain ⟨rfl, rfl⟩ := hv
    exact wp_ireturn dX4_run_83 rfl rfl rfl hq
  · replace hv := hv.2 q
    refine wp_aload_n (i := 0) dX4_run_31 rfl rfl ?_
    refine wp_dupR dX4_run_32 ?_
    refine wz_getI dX4_run_33 (st_0 ha0) (f4_15 _ (sb_srt_all hc0)) rfl ?_
    refine wp_iconst (v := 1) dX4_run_36 (by decide) ?_
    refine wp_iadd dX4_run_37 ?_
    refine wz_putI dX4_run_38 (st_0 ha0) (w4_15 _ (sb_srt_all hc0)) rfl ?_
    refine wp_aload_n (i := 0) dX4_run_41 rfl rfl ?_
    refine wz_getR (b := (4 + 1 + ky0)) dX4_run_42 (st_0 ha0) (f4_26 _ (sb_srt_all hc0)) rfl ?_
    refine wp_aload_n (i := 0) dX4_run_45 rfl rfl ?_
    refine wz_getR (b := (a0 + 2)) dX4_run_46 (st_0 ha0) (f4_18 _ (sb_srt_row hc0)) (sf_row_9 (sb_srt_row hc0)) ?_
    refine wp_iload_n (i := 3) dX4_run_49 rfl rfl ?_
    obtain ⟨z2, hv⟩ := hv
    refine wz_iaload dX4_run_50 (st_row ha0 (sb_srt_row hc0)) z2 ?_
    obtain ⟨z3, hv⟩ := hv
    refine wz_iaload dX4_run_51 (st_k hK ha0) z3 ?_
    refine wp_iload_n (i := 2) dX4_run_52 rfl rfl ?_
    refine wp_icmp_le 59 dX4_run_53 (by decide) (fun q => ?_) (fun q => ?_)
    · replace hv := hv.1 q
      refine wp_aload_n (i := 1) dX4_run_59 rfl rfl ?_
      refine wp_aload_n (i := 0) dX4_run_60 rfl rfl ?_
      refine wz_getR (b := 1) dX4_run_61 (st_0 ha0) (f4_53 _ (sb_srt_all hc0)) rfl ?_
      refine wp_aload_n (i := 0) dX4_run_64 rfl rfl ?_
      refine wz_getR (b := (a0 + 2)) dX4_run_65 (st_0 ha0) (f4_18 _ (sb_srt_row hc0)) (sf_row_9 (sb_srt_row hc0)) ?_
      refine wp_iload_n (i := 3) dX4_run_68 rfl rfl ?_
      obtain ⟨z4, hv⟩ := hv
      refine wz_iaload dX4_run_69 (st_row ha0 (sb_srt_row hc0)) z4 ?_
      obtain ⟨V5, hE, hv⟩ := hv
      refine wz_callV (vs := [.ref 1, .int ((up2 V a0 8 ((V a0 8) + (1 : Int32))) (a0 + 2) (x3).toNatClampNeg)]) (st := []) dX4_run_70 (ak_0 hq1) rfl k4_57_0 hE rfl (Nat.le_of_ble_eq_true rfl) (Nat.le_of_ble_eq_true rfl) ?_
      change wp _ _ _ _ _ [] _ _ _
      refine wx_iinc (v := 1) (ls' := [(0, .ref a0), (1, .ref a1), (2, .int x2), (3, .int (x3 + 1))]) dX4_run_73 rfl (by decide) (by decide) rfl ?_
      refine wp_goto 23 dX4_run_76 (by decide) ?_
      exact hv Q hq
    · replace hv := hv.2 q
      refine wp_goto 79 dX4_run_56 (by decide) ?_
      refine wp_aload_n (i := 1) dX4_run_79 rfl rfl ?_
      obtain ⟨v6, hE, hv⟩ := hv
      refine wz_callV (vs := []) (st := []) dX4_run_80 (ak_0 hq1) rfl k4_61_0 hE rfl (Nat.le_of_ble_eq_true rfl) (Nat.le_of_ble_eq_true rfl) ?_
      change wp _ _ _ _ _ [.int v6] _ _ _
      obtain ⟨rfl, rfl⟩ := hv
      exact wp_ireturn dX4_run_83 rfl rfl rfl hq
theorem wX4_priceFor_0 {a0 : Nat} {ci0 ky0 : Nat} {a1 : Nat} {x2 : Int32} (hK : StK K) (ha0 : IsSt K a0 ci0 ky0) (hc0 : ci0 ∈ [4, 6]) (hq1 : IsAk K a1) (hv : (∃ (v1 : Int32), Ev G d mX5_orderedPrice 0 [(0, .ref a1), (1, .int (V a0 2)), (2, .int x2)] (K, n, V, J, O) (some (.int v1)) (K, n, V, J, O) ∧ r = some (.int v1))) : Ev G (d + 1) mX4_priceFor 0 [(0, .ref a0), (1, .ref a1), (2, .int x2)] (K, n, V, J, O) r (K, n, V, J, O) := by
  refine Ev.mk fun Q hq => ?_
  refine wp_aload_n (i := 1) dX4_priceFor_0 rfl rfl ?_
  refine wp_aload_n (i := 0) dX4_priceFor_1 rfl rfl ?_
  refine wz_getI dX4_priceFor_2 (st_0 ha0) (f4_41 _ (sb_srt_all hc0)) rfl ?_
  refine wp_iload_n (i := 2) dX4_priceFor_5 rfl rfl ?_
  obtain ⟨v1, hE, hv⟩ := hv
  refine wz_callST (vs := [.ref a1, .int (V a0 2), .int x2]) (st := []) dX4_priceFor_6 k4_65 hE rfl (Nat.le_of_ble_eq_true rfl) (Nat.le_of_ble_eq_true rfl) ?_
  change wp _ _ _ _ _ [.int v1] _ _ _
  obtain rfl := hv
  exact wp_ireturn dX4_priceFor_9 rfl rfl rfl hq
theorem wX4_priceOfPut_0 {a0 : Nat} {ci0 ky0 : Nat} {x1 : Int32} (hK : StK K) (ha0 : IsSt K a0 ci0 ky0) (hc0 : ci0 ∈ [4, 6]) (hv : (∃ (v1 : Int32), Ev G d mX5_levels 0 [(0, .int x1)] (K, n, V, J, O) (some (.int v1)) (K, n, V, J, O) ∧ r = some (.int (v1 + (x1 / (2 : Int32)))))) : Ev G (d + 1) mX4_priceOfPut 0 [(0, .ref a0), (1, .int x1)] (K, n, V, J, O) r (K, n, V, J, O) := by
  refine Ev.mk fun Q hq => ?_
  refine wp_iload_n (i := 1) dX4_priceOfPut_0 rfl rfl ?_
  obtain ⟨v1, hE, hv⟩ := hv
  refine wz_callST (vs := [.int x1]) (st := []) dX4_priceOfPut_1 k4_69 hE rfl (Nat.le_of_ble_eq_true rfl) (Nat.le_of_ble_eq_true rfl) ?_
  change wp _ _ _ _ _ [.int v1] _ _ _
  refine wp_iload_n (i := 1) dX4_priceOfPut_4 rfl rfl ?_
  refine wp_iconst (v := 2) dX4_priceOfPut_5 (by decide) ?_
  refine wp_idiv dX4_priceOfPut_6 (by decide) ?_
  refine wp_iadd dX4_priceOfPut_7 ?_
  obtain rfl := hv
  exact wp_ireturn dX4_priceOfPut_8 rfl rfl rfl hq
theorem wX4_mends_0 {a0 : Nat} {ci0 ky0 : Nat} {x1 : Int32} (hK : StK K) (ha0 : IsSt K a0 ci0 ky0) (hc0 : ci0 ∈ [4, 6]) (hv : (∃ (V1 : SV), Ev G d mX5_led 0 [(0, .ref a0), (1, .int (30 : Int32))] (K, n, V, J, O) none (K, n, V1, J, O) ∧ (∃ (v3 : Int32) (V2 : SV), Ev G d mX5_mends 0 [(0, .ref a0), (1, .int x1)] (K, n, V1, J, O) (some (.int v3)) (K, n, V2, J, O) ∧ (r = some (.int (v3 - (1 : Int32))) ∧ V' = V2)))) : Ev G (d + 1) mX4_mends 0 [(0, .ref a0), (1, .int x1)] (K, n, V, J, O) r (K, n, V', J, O) := by
  refine Ev.mk fun Q hq => ?_
  refine wp_aload_n (i := 0) dX4_mends_0 rfl rfl ?_
  refine wp_bipush (v := 30) dX4_mends_1 (by decide) ?_
  obtain ⟨V1, hE, hv⟩ := hv
  refine wz_callX (vs := [.int (30 : Int32)]) (st := []) dX4_mends_3 (st_0 ha0) (kx4_72 (vs4_72_srt hc0)).1 hE rfl (kx4_72 (vs4_72_srt hc0)).2 (Nat.le_of_ble_eq_true rfl) ?_
  change wp _ _ _ _ _ [] _ _ _
  refine wp_aload_n (i := 0) dX4_mends_6 rfl rfl ?_
  refine wp_iload_n (i := 1) dX4_mends_7 rfl rfl ?_
  obtain ⟨v3, V2, hE, hv⟩ := hv
  refine wz_callSV (vs := [.int x1]) (st := []) dX4_mends_8 (st_0 ha0) (acls_at (lt13 (sb_srt_all hc0))) sv4_75 hE rfl (Nat.le_of_ble_eq_true rfl) (Nat.le_of_ble_eq_true rfl) ?_
  change wp _ _ _ _ _ [.int v3] _ _ _
  refine wp_iconst (v := 1) dX4_mends_11 (by decide) ?_
  refine wp_isub dX4_mends_12 ?_
  obtain ⟨rfl, rfl⟩ := hv
  exact wp_ireturn dX4_mends_13 rfl rfl rfl hq
theorem wX5_enter_0 {a0 : Nat} {ci0 ky0 : Nat} {x1 : Int32} (hK : StK K) (ha0 : IsSt K a0 ci0 ky0) (hc0 : ci0 ∈ [1, 2, 3, 4, 5, 6, 7, 10]) (hv : (∃ M' : AM, vt5_38 ci0 = some M' ∧ (∃ (V1 : SV), Ev G d M' 0 [(0, .ref a0), (1, .int x1)] (K, n, (up2 V a0 8 (0 : Int32)), J, O) none (K, n, V1, J, O) ∧ (r = none ∧ V' = (up2 (up2 V1 a0 7 (V1 a0 8)) a0 6 ((V1 a0 6) + (V1 a0 8))))))) : Ev G (d + 1) mX5_enter 0 [(0, .ref a0), (1, .int x1)] (K, n, V, J, O) r (K, n, V', J, O) := by
  refine Ev.mk fun Q hq => ?_
  refine wp_aload_n (i := 0) dX5_enter_0 rfl rfl ?_
  refine wp_iconst (v := 0) dX5_enter_1 (by decide) ?_
  refine wz_putI dX5_enter_2 (st_0 ha0) (w5_35 _ hc0) rfl ?_
  refine wp_aload_n (i := 0) dX5_enter_5 rfl rfl ?_
  refine wp_iload_n (i := 1) dX5_enter_6 rfl rfl ?_
  obtain ⟨M', hM, hv⟩ := hv
  obtain ⟨V1, hE, hv⟩ := hv
  refine wz_callX (vs := [.int x1]) (st := []) dX5_enter_7 (st_0 ha0) (kx5_38 hM).1 hE rfl (kx5_38 hM).2 (Nat.le_of_ble_eq_true rfl) ?_
  change wp _ _ _ _ _ [] _ _ _
  refine wp_aload_n (i := 0) dX5_enter_10 rfl rfl ?_
  refine wp_aload_n (i := 0) dX5_enter_11 rfl rfl ?_
  refine wz_getI dX5_enter_12 (st_0 ha0) (f5_35 _ hc0) rfl ?_
  refine wz_putI dX5_enter_15 (st_0 ha0) (w5_42 _ hc0) rfl ?_
  refine wp_aload_n (i := 0) dX5_enter_18 rfl rfl ?_
  refine wp_dupR dX5_enter_19 ?_
  refine wz_getIe (v := (V1 a0 6)) dX5_enter_20 (st_0 ha0) (f5_45 _ hc0) rfl (up2_k (by decide)) ?_
  refine wp_aload_n (i := 0) dX5_enter_23 rfl rfl ?_
  refine wz_getIe (v := (V1 a0 8)) dX5_enter_24 (st_0 ha0) (f5_35 _ hc0) rfl (up2_k (by decide)) ?_
  refine wp_iadd dX5_enter_27 ?_
  refine wz_putI dX5_enter_28 (st_0 ha0) (w5_45 _ hc0) rfl ?_
  obtain ⟨rfl, rfl⟩ := hv
  exact wp_return dX5_enter_31 rfl rfl hq
theorem wX5_leave_0 {a0 : Nat} {ci0 ky0 : Nat} {x1 : Int32} (hK : StK K) (ha0 : IsSt K a0 ci0 ky0) (hc0 : ci0 ∈ [1, 2, 3, 4, 5, 6, 7, 10]) (hv : (∃ M' : AM, vt5_48 ci0 = some M' ∧ (∃ (V1 : SV), Ev G d M' 0 [(0, .ref a0), (1, .int x1)] (K, n, (up2 V a0 8 (0 : Int32)), J, O) none (K, n, V1, J, O) ∧ (r = none ∧ V' = (up2 (up2 V1 a0 7 (V1 a0 8)) a0 6 ((V1 a0 6) + (V1 a0 8))))))) : Ev G (d + 1) mX5_leave 0 [(0, .ref a0), (1, .int x1)] (K, n, V, J, O) r (K, n, V', J, O) := by
  refine Ev.mk fun Q hq => ?_
  refine wp_aload_n (i := 0) dX5_leave_0 rfl rfl ?_
  refine wp_iconst (v := 0) dX5_leave_1 (by decide) ?_
  refine wz_putI dX5_leave_2 (st_0 ha0) (w5_35 _ hc0) rfl ?_
  refine wp_aload_n (i := 0) dX5_leave_5 rfl rfl ?_
  refine wp_iload_n (i := 1) dX5_leave_6 rfl rfl ?_
  obtain ⟨M', hM, hv⟩ := hv
  obtain ⟨V1, hE, hv⟩ := hv
  refine wz_callX (vs := [.int x1]) (st := []) dX5_leave_7 (st_0 ha0) (kx5_48 hM).1 hE rfl (kx5_48 hM).2 (Nat.le_of_ble_eq_true rfl) ?_
  change wp _ _ _ _ _ [] _ _ _
  refine wp_aload_n (i := 0) dX5_leave_10 rfl rfl ?_
  refine wp_aload_n (i := 0) dX5_leave_11 rfl rfl ?_
  refine wz_getI dX5_leave_12 (st_0 ha0) (f5_35 _ hc0) rfl ?_
  refine wz_putI dX5_leave_15 (st_0 ha0) (w5_42 _ hc0) rfl ?_
  refine wp_aload_n (i := 0) dX5_leave_18 rfl rfl ?_
  refine wp_dupR dX5_leave_19 ?_
  refine wz_getIe (v := (V1 a0 6)) dX5_leave_20 (st_0 ha0) (f5_45 _ hc0) rfl (up2_k (by decide)) ?_
  refine wp_aload_n (i := 0) dX5_leave_23 rfl rfl ?_
  refine wz_getIe (v := (V1 a0 8)) dX5_leave_24 (st_0 ha0) (f5_35 _ hc0) rfl (up2_k (by decide)) ?_
  refine wp_iadd dX5_leave_27 ?_
  refine wz_putI dX5_leave_28 (st_0 ha0) (w5_45 _ hc0) rfl ?_
  obtain ⟨rfl, rfl⟩ := hv
  exact wp_return dX5_leave_31 rfl rfl hq
theorem wX5_kind_0 {a0 : Nat} {ci0 ky0 : Nat} (hK : StK K) (ha0 : IsSt K a0 ci0 ky0) (hc0 : ci0 ∈ [1, 2, 3, 4, 5, 6, 7, 10]) (hv : r = some (.int (0 : Int32))) : Ev G d mX5_kind 0 [(0, .ref a0)] (K, n, V, J, O) r (K, n, V, J, O) := by
  refine Ev.mk fun Q hq => ?_
  refine wp_iconst (v := 0) dX5_kind_0 (by decide) ?_
  obtain rfl := hv
  exact wp_ireturn dX5_kind_1 rfl rfl rfl hq
theorem wX5_putName_0 {a0 : Nat} {ci0 ky0 : Nat} {x1 : Int32} (hK : StK K) (ha0 : IsSt K a0 ci0 ky0) (hc0 : ci0 ∈ [1, 2, 3, 4, 5, 6, 7, 10]) (hv : r = none) : Ev G d mX5_putName 0 [(0, .ref a0), (1, .int x1)] (K, n, V, J, O) r (K, n, V, J, O) := by
  refine Ev.mk fun Q hq => ?_
  obtain rfl := hv
  exact wp_return dX5_putName_0 rfl rfl hq
theorem wX5_takeName_0 {a0 : Nat} {ci0 ky0 : Nat} {x1 : Int32} (hK : StK K) (ha0 : IsSt K a0 ci0 ky0) (hc0 : ci0 ∈ [1, 2, 3, 4, 5, 6, 7, 10]) (hv : r = none) : Ev G d mX5_takeName 0 [(0, .ref a0), (1, .int x1)] (K, n, V, J, O) r (K, n, V, J, O) := by
  refine Ev.mk fun Q hq => ?_
  obtain rfl := hv
  exact wp_return dX5_takeName_0 rfl rfl hq
theorem wX5_howMany_0 {a0 : Nat} {ci0 ky0 : Nat} (hK : StK K) (ha0 : IsSt K a0 ci0 ky0) (hc0 : ci0 ∈ [1, 2, 3, 4, 5, 6, 7, 10]) (hv : r = some (.int (0 : Int32))) : Ev G d mX5_howMany 0 [(0, .ref a0)] (K, n, V, J, O) r (K, n, V, J, O) := by
  refine Ev.mk fun Q hq => ?_
  refine wp_iconst (v := 0) dX5_howMany_0 (by decide) ?_
  obtain rfl := hv
  exact wp_ireturn dX5_howMany_1 rfl rfl rfl hq
theorem wX5_nameIn_0 {a0 : Nat} {ci0 ky0 : Nat} {x1 : Int32} (hK : StK K) (ha0 : IsSt K a0 ci0 ky0) (hc0 : ci0 ∈ [1, 2, 3, 4, 5, 6, 7, 10]) (hv : r = some (.int (-1 : Int32))) : Ev G d mX5_nameIn 0 [(0, .ref a0), (1, .int x1)] (K, n, V, J, O) r (K, n, V, J, O) := by
  refine Ev.mk fun Q hq => ?_
  refine wp_iconst (v := -1) dX5_nameIn_0 (by decide) ?_
  obtain rfl := hv
  exact wp_ireturn dX5_nameIn_1 rfl rfl rfl hq
theorem wX5_run_0 {a0 : Nat} {ci0 ky0 : Nat} {a1 : Nat} (hK : StK K) (ha0 : IsSt K a0 ci0 ky0) (hc0 : ci0 ∈ [1, 2, 3, 4, 5, 6, 7, 10]) (hq1 : IsAk K a1) (hv : r = some (.int (-2 : Int32))) : Ev G d mX5_run 0 [(0, .ref a0), (1, .ref a1)] (K, n, V, J, O) r (K, n, V, J, O) := by
  refine Ev.mk fun Q hq => ?_
  refine wp_bipush (v := -2) dX5_run_0 (by decide) ?_
  obtain rfl := hv
  exact wp_ireturn dX5_run_2 rfl rfl rfl hq
theorem wX5_priceFor_0 {a0 : Nat} {ci0 ky0 : Nat} {a1 : Nat} {x2 : Int32} (hK : StK K) (ha0 : IsSt K a0 ci0 ky0) (hc0 : ci0 ∈ [1, 2, 3, 4, 5, 6, 7, 10]) (hq1 : IsAk K a1) (hv : r = some (.int (-2 : Int32))) : Ev G d mX5_priceFor 0 [(0, .ref a0), (1, .ref a1), (2, .int x2)] (K, n, V, J, O) r (K, n, V, J, O) := by
  refine Ev.mk fun Q hq => ?_
  refine wp_bipush (v := -2) dX5_priceFor_0 (by decide) ?_
  obtain rfl := hv
  exact wp_ireturn dX5_priceFor_2 rfl rfl rfl hq
theorem wX5_priceOfPut_0 {a0 : Nat} {ci0 ky0 : Nat} {x1 : Int32} (hK : StK K) (ha0 : IsSt K a0 ci0 ky0) (hc0 : ci0 ∈ [1, 2, 3, 4, 5, 6, 7, 10]) (hv : r = some (.int (0 : Int32))) : Ev G d mX5_priceOfPut 0 [(0, .ref a0), (1, .int x1)] (K, n, V, J, O) r (K, n, V, J, O) := by
  refine Ev.mk fun Q hq => ?_
  refine wp_iconst (v := 0) dX5_priceOfPut_0 (by decide) ?_
  obtain rfl := hv
  exact wp_ireturn dX5_priceOfPut_1 rfl rfl rfl hq
theorem wX5_comesAhead_0 {a0 : Nat} {ci0 ky0 : Nat} {x1 : Int32} {x2 : Int32} {x3 : Int32} (hK : StK K) (ha0 : IsSt K a0 ci0 ky0) (hc0 : ci0 ∈ [1, 2, 3, 4, 5, 6, 7, 10]) (hv : (vp_in x1 80 ∧ (((V (4 + 1 + ky0) (x1).toNatClampNeg) < x2 → r = some (.int (1 : Int32))) ∧ (¬ (V (4 + 1 + ky0) (x1).toNatClampNeg) < x2 → (vp_in x1 80 ∧ (((V (4 + 1 + ky0) (x1).toNatClampNeg) ≠ x2 → r = some (.int (0 : Int32))) ∧ ((V (4 + 1 + ky0) (x1).toNatClampNeg) = x2 → ((x3 ≤ x1 → r = some (.int (0 : Int32))) ∧ (¬ x3 ≤ x1 → r = some (.int (1 : Int32))))))))))) : Ev G d mX5_comesAhead 0 [(0, .ref a0), (1, .int x1), (2, .int x2), (3, .int x3)] (K, n, V, J, O) r (K, n, V, J, O) := by
  refine Ev.mk fun Q hq => ?_
  refine wp_aload_n (i := 0) dX5_comesAhead_0 rfl rfl ?_
  refine wz_getR (b := (4 + 1 + ky0)) dX5_comesAhead_1 (st_0 ha0) (f5_32 _ hc0) rfl ?_
  refine wp_iload_n (i := 1) dX5_comesAhead_4 rfl rfl ?_
  obtain ⟨z1, hv⟩ := hv
  refine wz_iaload dX5_comesAhead_5 (st_k hK ha0) z1 ?_
  refine wp_iload_n (i := 2) dX5_comesAhead_6 rfl rfl ?_
  refine wp_icmp_lt 25 dX5_comesAhead_7 (by decide) (fun q => ?_) (fun q => ?_)
  · replace hv := hv.1 q
    refine wp_iconst (v := 1) dX5_comesAhead_25 (by decide) ?_
    refine wp_goto 30 dX5_comesAhead_26 (by decide) ?_
    obtain rfl := hv
    exact wp_ireturn dX5_comesAhead_30 rfl (by decide) rfl hq
  · replace hv := hv.2 q
    refine wp_aload_n (i := 0) dX5_comesAhead_10 rfl rfl ?_
    refine wz_getR (b := (4 + 1 + ky0)) dX5_comesAhead_11 (st_0 ha0) (f5_32 _ hc0) rfl ?_
    refine wp_iload_n (i := 1) dX5_comesAhead_14 rfl rfl ?_
    obtain ⟨z2, hv⟩ := hv
    refine wz_iaload dX5_comesAhead_15 (st_k hK ha0) z2 ?_
    refine wp_iload_n (i := 2) dX5_comesAhead_16 rfl rfl ?_
    refine wp_icmp_ne 29 dX5_comesAhead_17 (by decide) (fun q => ?_) (fun q => ?_)
    · replace hv := hv.1 q
      refine wp_iconst (v := 0) dX5_comesAhead_29 (by decide) ?_
      obtain rfl := hv
      exact wp_ireturn dX5_comesAhead_30 rfl (by decide) rfl hq
    · replace hv := hv.2 q
      refine wp_iload_n (i := 1) dX5_comesAhead_20 rfl rfl ?_
      refine wp_iload_n (i := 3) dX5_comesAhead_21 rfl rfl ?_
      refine wp_icmp_ge 29 dX5_comesAhead_22 (by decide) (fun q => ?_) (fun q => ?_)
      · replace hv := hv.1 q
        refine wp_iconst (v := 0) dX5_comesAhead_29 (by decide) ?_
        obtain rfl := hv
        exact wp_ireturn dX5_comesAhead_30 rfl (by decide) rfl hq
      · replace hv := hv.2 q
        refine wp_iconst (v := 1) dX5_comesAhead_25 (by decide) ?_
        refine wp_goto 30 dX5_comesAhead_26 (by decide) ?_
        obtain rfl := hv
        exact wp_ireturn dX5_comesAhead_30 rfl (by decide) rfl hq
theorem wX5_levels_0 {x0 : Int32} (hK : StK K)  (hv : Ev G d mX5_levels 2 [(0, .int x0), (1, .int (0 : Int32))] (K, n, V, J, O) r (K, n, V, J, O)) : Ev G d mX5_levels 0 [(0, .int x0)] (K, n, V, J, O) r (K, n, V, J, O) := by
  refine Ev.mk fun Q hq => ?_
  refine wp_iconst (v := 0) dX5_levels_0 (by decide) ?_
  refine wx_istore_n (ls' := [(0, .int x0), (1, .int (0 : Int32))]) (i := 1) dX5_levels_1 rfl (by decide) rfl ?_
  exact hv Q hq
theorem wX5_levels_2 {x0 : Int32} {x1 : Int32} (hK : StK K)  (hv : (((30 : Int32) ≤ x1 → r = some (.int x1)) ∧ (¬ (30 : Int32) ≤ x1 → ((x0 < ((1 : Int32) <<< (x1 &&& 31)) → r = some (.int x1)) ∧ (¬ x0 < ((1 : Int32) <<< (x1 &&& 31)) → Ev G d mX5_levels 2 [(0, .int x0), (1, .int (x1 + 1))] (K, n, V, J, O) r (K, n, V, J, O)))))) : Ev G d mX5_levels 2 [(0, .int x0), (1, .int x1)] (K, n, V, J, O) r (K, n, V, J, O) := by
  refine Ev.mk fun Q hq => ?_
  refine wp_iload_n (i := 1) dX5_levels_2 rfl rfl ?_
  refine wp_bipush (v := 30) dX5_levels_3 (by decide) ?_
  refine wp_icmp_ge 21 dX5_levels_5 (by decide) (fun q => ?_) (fun q => ?_)
  · replace hv := hv.1 q
    refine wp_iload_n (i := 1) dX5_levels_21 rfl rfl ?_
    obtain rfl := hv
    exact wp_ireturn dX5_levels_22 rfl rfl rfl hq
  · replace hv := hv.2 q
    refine wp_iconst (v := 1) dX5_levels_8 (by decide) ?_
    refine wp_iload_n (i := 1) dX5_levels_9 rfl rfl ?_
    refine wp_ishl dX5_levels_10 ?_
    refine wp_iload_n (i := 0) dX5_levels_11 rfl rfl ?_
    refine wp_icmp_gt 21 dX5_levels_12 (by decide) (fun q => ?_) (fun q => ?_)
    · replace hv := hv.1 q
      refine wp_iload_n (i := 1) dX5_levels_21 rfl rfl ?_
      obtain rfl := hv
      exact wp_ireturn dX5_levels_22 rfl rfl rfl hq
    · replace hv := hv.2 q
      refine wx_iinc (v := 1) (ls' := [(0, .int x0), (1, .int (x1 + 1))]) dX5_levels_15 rfl (by decide) (by decide) rfl ?_
      refine wp_goto 2 dX5_levels_18 (by decide) ?_
      exact hv Q hq
theorem wX5_orderedPrice_0 {a0 : Nat} {x1 : Int32} {x2 : Int32} (hK : StK K) (hq0 : IsAk K a0) (hv : (∃ (v1 : Int32), Ev G d mX5_levels 0 [(0, .int x2)] (K, n, V, J, O) (some (.int v1)) (K, n, V, J, O) ∧ (∃ (v2 : Int32), Ev G d mX0_hasEqual 0 [(0, .ref a0), (1, .int x1)] (K, n, V, J, O) (some (.int v2)) (K, n, V, J, O) ∧ ((v2 = 0 → (∃ (v3 : Int32), Ev G d mX0_isAbout 0 [(0, .ref a0), (1, .int x1)] (K, n, V, J, O) (some (.int v3)) (K, n, V, J, O) ∧ ((v3 = 0 → r = some (.int (x2 + v1))) ∧ (¬ v3 = 0 → r = some (.int ((v1 + (x2 / (4 : Int32))) + (1 : Int32))))))) ∧ (¬ v2 = 0 → r = some (.int (v1 + (2 : Int32)))))))) : Ev G (d + 1) mX5_orderedPrice 0 [(0, .ref a0), (1, .int x1), (2, .int x2)] (K, n, V, J, O) r (K, n, V, J, O) := by
  refine Ev.mk fun Q hq => ?_
  refine wp_iload_n (i := 2) dX5_orderedPrice_0 rfl rfl ?_
  obtain ⟨v1, hE, hv⟩ := hv
  refine wz_callS (vs := [.int x2]) (st := []) dX5_orderedPrice_1 k5_51 hE rfl (Nat.le_of_ble_eq_true rfl) (Nat.le_of_ble_eq_true rfl) ?_
  change wp _ _ _ _ _ [.int v1] _ _ _
  refine wx_istore_n (ls' := [(0, .ref a0), (1, .int x1), (2, .int x2), (3, .int v1)]) (i := 3) dX5_orderedPrice_4 rfl (by decide) rfl ?_
  refine wp_aload_n (i := 0) dX5_orderedPrice_5 rfl rfl ?_
  refine wp_iload_n (i := 1) dX5_orderedPrice_6 rfl rfl ?_
  obtain ⟨v2, hE, hv⟩ := hv
  refine wz_callV (vs := [.int x1]) (st := []) dX5_orderedPrice_7 (ak_0 hq0) rfl k5_55_0 hE rfl (Nat.le_of_ble_eq_true rfl) (Nat.le_of_ble_eq_true rfl) ?_
  change wp _ _ _ _ _ [.int v2] _ _ _
  refine wp_if_eq 17 dX5_orderedPrice_10 (by decide) (fun q => ?_) (fun q => ?_)
  · replace hv := hv.1 q
    refine wp_aload_n (i := 0) dX5_orderedPrice_17 rfl rfl ?_
    refine wp_iload_n (i := 1) dX5_orderedPrice_18 rfl rfl ?_
    obtain ⟨v3, hE, hv⟩ := hv
    refine wz_callV (vs := [.int x1]) (st := []) dX5_orderedPrice_19 (ak_0 hq0) rfl k5_61_0 hE rfl (Nat.le_of_ble_eq_true rfl) (Nat.le_of_ble_eq_true rfl) ?_
    change wp _ _ _ _ _ [.int v3] _ _ _
    refine wp_if_eq 35 dX5_orderedPrice_22 (by decide) (fun q => ?_) (fun q => ?_)
    · replace hv := hv.1 q
      refine wp_iload_n (i := 2) dX5_orderedPrice_35 rfl rfl ?_
      refine wp_iload_n (i := 3) dX5_orderedPrice_36 rfl rfl ?_
      refine wp_iadd dX5_orderedPrice_37 ?_
      obtain rfl := hv
      exact wp_ireturn dX5_orderedPrice_38 rfl rfl rfl hq
    · replace hv := hv.2 q
      refine wp_iload_n (i := 3) dX5_orderedPrice_25 rfl rfl ?_
      refine wp_iload_n (i := 2) dX5_orderedPrice_26 rfl rfl ?_
      refine wp_iconst (v := 4) dX5_orderedPrice_27 (by decide) ?_
      refine wp_idiv dX5_orderedPrice_28 (by decide) ?_
      refine wp_iadd dX5_orderedPrice_29 ?_
      refine wp_iconst (v := 1) dX5_orderedPrice_30 (by decide) ?_
      refine wp_iadd dX5_orderedPrice_31 ?_
      refine wp_goto 38 dX5_orderedPrice_32 (by decide) ?_
      obtain rfl := hv
      exact wp_ireturn dX5_orderedPrice_38 rfl rfl rfl hq
  · replace hv := hv.2 q
    refine wp_iload_n (i := 3) dX5_orderedPrice_13 rfl rfl ?_
    refine wp_iconst (v := 2) dX5_orderedPrice_14 (by decide) ?_
    refine wp_iadd dX5_orderedPrice_15 ?_
    obtain rfl := hv
    exact wp_ireturn dX5_orderedPrice_16 rfl rfl rfl hq
theorem wX5_led_0 {a0 : Nat} {ci0 ky0 : Nat} {x1 : Int32} (hK : StK K) (ha0 : IsSt K a0 ci0 ky0) (hc0 : ci0 ∈ [1, 2, 3, 4, 5, 6, 7, 10]) (hv : (((24 : Int32) ≤ (V a0 5) → (r = none ∧ V' = (up2 V a0 5 ((V a0 5) + (1 : Int32))))) ∧ (¬ (24 : Int32) ≤ (V a0 5) → (vp_in (V a0 5) 24 ∧ (r = none ∧ V' = (up2 (up2 V (a0 + 1) ((V a0 5)).toNatClampNeg x1) a0 5 (((up2 V (a0 + 1) ((V a0 5)).toNatClampNeg x1) a0 5) + (1 : Int32)))))))) : Ev G d mX5_led 0 [(0, .ref a0), (1, .int x1)] (K, n, V, J, O) r (K, n, V', J, O) := by
  refine Ev.mk fun Q hq => ?_
  refine wp_aload_n (i := 0) dX5_led_0 rfl rfl ?_
  refine wz_getI dX5_led_1 (st_0 ha0) (f5_64 _ hc0) rfl ?_
  refine wp_bipush (v := 24) dX5_led_4 (by decide) ?_
  refine wp_icmp_ge 19 dX5_led_6 (by decide) (fun q => ?_) (fun q => ?_)
  · replace hv := hv.1 q
    refine wp_aload_n (i := 0) dX5_led_19 rfl rfl ?_
    refine wp_dupR dX5_led_20 ?_
    refine wz_getI dX5_led_21 (st_0 ha0) (f5_64 _ hc0) rfl ?_
    refine wp_iconst (v := 1) dX5_led_24 (by decide) ?_
    refine wp_iadd dX5_led_25 ?_
    refine wz_putI dX5_led_26 (st_0 ha0) (w5_64 _ hc0) rfl ?_
    obtain ⟨rfl, rfl⟩ := hv
    exact wp_return dX5_led_29 rfl rfl hq
  · replace hv := hv.2 q
    refine wp_aload_n (i := 0) dX5_led_9 rfl rfl ?_
    refine wz_getR (b := (a0 + 1)) dX5_led_10 (st_0 ha0) (f5_9 _ hc0) rfl ?_
    refine wp_aload_n (i := 0) dX5_led_13 rfl rfl ?_
    refine wz_getI dX5_led_14 (st_0 ha0) (f5_64 _ hc0) rfl ?_
    refine wp_iload_n (i := 1) dX5_led_17 rfl rfl ?_
    obtain ⟨z1, hv⟩ := hv
    refine wz_iastore dX5_led_18 (st_b ha0 hc0) z1 ?_
    refine wp_aload_n (i := 0) dX5_led_19 rfl rfl ?_
    refine wp_dupR dX5_led_20 ?_
    refine wz_getI dX5_led_21 (st_0 ha0) (f5_64 _ hc0) rfl ?_
    refine wp_iconst (v := 1) dX5_led_24 (by decide) ?_
    refine wp_iadd dX5_led_25 ?_
    refine wz_putI dX5_led_26 (st_0 ha0) (w5_64 _ hc0) rfl ?_
    obtain ⟨rfl, rfl⟩ := hv
    exact wp_return dX5_led_29 rfl rfl hq
theorem wX5_finds_0 {a0 : Nat} {ci0 ky0 : Nat} {x1 : Int32} (hK : StK K) (ha0 : IsSt K a0 ci0 ky0) (hc0 : ci0 ∈ [1, 2, 3, 4, 5, 6, 7, 10]) (hv : (∃ (V1 : SV), Ev G d mX5_led 0 [(0, .ref a0), (1, .int (1 : Int32))] (K, n, V, J, O) none (K, n, V1, J, O) ∧ (r = some (.int (x1 + (V1 a0 1))) ∧ V' = V1))) : Ev G (d + 1) mX5_finds 0 [(0, .ref a0), (1, .int x1)] (K, n, V, J, O) r (K, n, V', J, O) := by
  refine Ev.mk fun Q hq => ?_
  refine wp_aload_n (i := 0) dX5_finds_0 rfl rfl ?_
  refine wp_iconst (v := 1) dX5_finds_1 (by decide) ?_
  obtain ⟨V1, hE, hv⟩ := hv
  refine wz_callX (vs := [.int (1 : Int32)]) (st := []) dX5_finds_2 (st_0 ha0) (kx5_67 (vs5_67_all hc0)).1 hE rfl (kx5_67 (vs5_67_all hc0)).2 (Nat.le_of_ble_eq_true rfl) ?_
  change wp _ _ _ _ _ [] _ _ _
  refine wp_iload_n (i := 1) dX5_finds_5 rfl rfl ?_
  refine wp_aload_n (i := 0) dX5_finds_6 rfl rfl ?_
  refine wz_getI dX5_finds_7 (st_0 ha0) (f5_19 _ hc0) rfl ?_
  refine wp_iadd dX5_finds_10 ?_
  obtain ⟨rfl, rfl⟩ := hv
  exact wp_ireturn dX5_finds_11 rfl rfl rfl hq
theorem wX5_mends_0 {a0 : Nat} {ci0 ky0 : Nat} {x1 : Int32} (hK : StK K) (ha0 : IsSt K a0 ci0 ky0) (hc0 : ci0 ∈ [1, 2, 3, 4, 5, 6, 7, 10]) (hv : (∃ (V1 : SV), Ev G d mX5_led 0 [(0, .ref a0), (1, .int (10 : Int32))] (K, n, V, J, O) none (K, n, V1, J, O) ∧ (∃ M' : AM, vt5_70 ci0 = some M' ∧ (∃ (v3 : Int32) (V2 : SV), Ev G d M' 0 [(0, .ref a0), (1, .int x1)] (K, n, V1, J, O) (some (.int v3)) (K, n, V2, J, O) ∧ (r = some (.int (v3 * (2 : Int32))) ∧ V' = V2))))) : Ev G (d + 1) mX5_mends 0 [(0, .ref a0), (1, .int x1)] (K, n, V, J, O) r (K, n, V', J, O) := by
  refine Ev.mk fun Q hq => ?_
  refine wp_aload_n (i := 0) dX5_mends_0 rfl rfl ?_
  refine wp_bipush (v := 10) dX5_mends_1 (by decide) ?_
  obtain ⟨V1, hE, hv⟩ := hv
  refine wz_callX (vs := [.int (10 : Int32)]) (st := []) dX5_mends_3 (st_0 ha0) (kx5_67 (vs5_67_all hc0)).1 hE rfl (kx5_67 (vs5_67_all hc0)).2 (Nat.le_of_ble_eq_true rfl) ?_
  change wp _ _ _ _ _ [] _ _ _
  refine wp_aload_n (i := 0) dX5_mends_6 rfl rfl ?_
  refine wp_iload_n (i := 1) dX5_mends_7 rfl rfl ?_
  obtain ⟨M', hM, hv⟩ := hv
  obtain ⟨v3, V2, hE, hv⟩ := hv
  refine wz_callX (vs := [.int x1]) (st := []) dX5_mends_8 (st_0 ha0) (kx5_70 hM).1 hE rfl (kx5_70 hM).2 (Nat.le_of_ble_eq_true rfl) ?_
  change wp _ _ _ _ _ [.int v3] _ _ _
  refine wp_iconst (v := 2) dX5_mends_11 (by decide) ?_
  refine wp_imul dX5_mends_12 ?_
  obtain ⟨rfl, rfl⟩ := hv
  exact wp_ireturn dX5_mends_13 rfl rfl rfl hq
theorem wX5_keeps_0 {a0 : Nat} {ci0 ky0 : Nat} {x1 : Int32} (hK : StK K) (ha0 : IsSt K a0 ci0 ky0) (hc0 : ci0 ∈ [1, 2, 3, 4, 5, 6, 7, 10]) (hv : (∃ (V1 : SV), Ev G d mX5_led 0 [(0, .ref a0), (1, .int (11 : Int32))] (K, n, V, J, O) none (K, n, V1, J, O) ∧ (r = some (.int (x1 ^^^ (V1 a0 1))) ∧ V' = V1))) : Ev G (d + 1) mX5_keeps 0 [(0, .ref a0), (1, .int x1)] (K, n, V, J, O) r (K, n, V', J, O) := by
  refine Ev.mk fun Q hq => ?_
  refine wp_aload_n (i := 0) dX5_keeps_0 rfl rfl ?_
  refine wp_bipush (v := 11) dX5_keeps_1 (by decide) ?_
  obtain ⟨V1, hE, hv⟩ := hv
  refine wz_callX (vs := [.int (11 : Int32)]) (st := []) dX5_keeps_3 (st_0 ha0) (kx5_67 (vs5_67_all hc0)).1 hE rfl (kx5_67 (vs5_67_all hc0)).2 (Nat.le_of_ble_eq_true rfl) ?_
  change wp _ _ _ _ _ [] _ _ _
  refine wp_iload_n (i := 1) dX5_keeps_6 rfl rfl ?_
  refine wp_aload_n (i := 0) dX5_keeps_7 rfl rfl ?_
  refine wz_getI dX5_keeps_8 (st_0 ha0) (f5_19 _ hc0) rfl ?_
  refine wp_ixor dX5_keeps_11 ?_
  obtain ⟨rfl, rfl⟩ := hv
  exact wp_ireturn dX5_keeps_12 rfl rfl rfl hq
theorem wX5_tells_0 {a0 : Nat} {ci0 ky0 : Nat} {x1 : Int32} (hK : StK K) (ha0 : IsSt K a0 ci0 ky0) (hc0 : ci0 ∈ [1, 2, 3, 4, 5, 6, 7, 10]) (hv : (∃ (V1 : SV), Ev G d mX5_led 0 [(0, .ref a0), (1, .int (2 : Int32))] (K, n, V, J, O) none (K, n, V1, J, O) ∧ (∃ M' : AM, vt5_73 ci0 = some M' ∧ (∃ (v3 : Int32) (V2 : SV), Ev G d M' 0 [(0, .ref a0), (1, .int x1)] (K, n, V1, J, O) (some (.int v3)) (K, n, V2, J, O) ∧ (∃ M' : AM, vt5_76 ci0 = some M' ∧ (∃ (v5 : Int32) (V4 : SV), Ev G d M' 0 [(0, .ref a0), (1, .int (1 : Int32))] (K, n, V2, J, O) (some (.int v5)) (K, n, V4, J, O) ∧ (r = some (.int (v3 - v5)) ∧ V' = V4))))))) : Ev G (d + 1) mX5_tells 0 [(0, .ref a0), (1, .int x1)] (K, n, V, J, O) r (K, n, V', J, O) := by
  refine Ev.mk fun Q hq => ?_
  refine wp_aload_n (i := 0) dX5_tells_0 rfl rfl ?_
  refine wp_iconst (v := 2) dX5_tells_1 (by decide) ?_
  obtain ⟨V1, hE, hv⟩ := hv
  refine wz_callX (vs := [.int (2 : Int32)]) (st := []) dX5_tells_2 (st_0 ha0) (kx5_67 (vs5_67_all hc0)).1 hE rfl (kx5_67 (vs5_67_all hc0)).2 (Nat.le_of_ble_eq_true rfl) ?_
  change wp _ _ _ _ _ [] _ _ _
  refine wp_aload_n (i := 0) dX5_tells_5 rfl rfl ?_
  refine wp_iload_n (i := 1) dX5_tells_6 rfl rfl ?_
  obtain ⟨M', hM, hv⟩ := hv
  obtain ⟨v3, V2, hE, hv⟩ := hv
  refine wz_callX (vs := [.int x1]) (st := []) dX5_tells_7 (st_0 ha0) (kx5_73 hM).1 hE rfl (kx5_73 hM).2 (Nat.le_of_ble_eq_true rfl) ?_
  change wp _ _ _ _ _ [.int v3] _ _ _
  refine wp_aload_n (i := 0) dX5_tells_10 rfl rfl ?_
  refine wp_iconst (v := 1) dX5_tells_11 (by decide) ?_
  obtain ⟨M', hM, hv⟩ := hv
  obtain ⟨v5, V4, hE, hv⟩ := hv
  refine wz_callX (vs := [.int (1 : Int32)]) (st := [.int v3]) dX5_tells_12 (st_0 ha0) (kx5_76 hM).1 hE rfl (kx5_76 hM).2 (Nat.le_of_ble_eq_true rfl) ?_
  change wp _ _ _ _ _ [.int v5, .int v3] _ _ _
  refine wp_isub dX5_tells_15 ?_
  obtain ⟨rfl, rfl⟩ := hv
  exact wp_ireturn dX5_tells_16 rfl rfl rfl hq
theorem wX6_kind_0 {a0 : Nat} {ky0 : Nat} (hK : StK K) (ha0 : IsSt K a0 6 ky0) (hv : r = some (.int (7 : Int32))) : Ev G d mX6_kind 0 [(0, .ref a0)] (K, n, V, J, O) r (K, n, V, J, O) := by
  refine Ev.mk fun Q hq => ?_
  refine wp_bipush (v := 7) dX6_kind_0 (by decide) ?_
  obtain rfl := hv
  exact wp_ireturn dX6_kind_2 rfl rfl rfl hq
theorem wX6_putName_0 {a0 : Nat} {ky0 : Nat} {x1 : Int32} (hK : StK K) (ha0 : IsSt K a0 6 ky0) (hv : (∃ (V1 : SV), Ev G d mX4_putName 0 [(0, .ref a0), (1, .int x1)] (K, n, V, J, O) none (K, n, V1, J, O) ∧ (∃ (V2 : SV), Ev G d mX6_sumUp 0 [(0, .ref a0)] (K, n, V1, J, O) none (K, n, V2, J, O) ∧ (r = none ∧ V' = V2)))) : Ev G (d + 1) mX6_putName 0 [(0, .ref a0), (1, .int x1)] (K, n, V, J, O) r (K, n, V', J, O) := by
  refine Ev.mk fun Q hq => ?_
  refine wp_aload_n (i := 0) dX6_putName_0 rfl rfl ?_
  refine wp_iload_n (i := 1) dX6_putName_1 rfl rfl ?_
  obtain ⟨V1, hE, hv⟩ := hv
  refine wz_callSU (vs := [.int x1]) (st := []) dX6_putName_2 (st_0 ha0) (acls_at (by decide)) su6_15 hE rfl (Nat.le_of_ble_eq_true rfl) (Nat.le_of_ble_eq_true rfl) ?_
  change wp _ _ _ _ _ [] _ _ _
  refine wp_aload_n (i := 0) dX6_putName_5 rfl rfl ?_
  obtain ⟨V2, hE, hv⟩ := hv
  refine wz_callV (vs := []) (st := []) dX6_putName_6 (st_0 ha0) rfl k6_19_6 hE rfl (Nat.le_of_ble_eq_true rfl) (Nat.le_of_ble_eq_true rfl) ?_
  change wp _ _ _ _ _ [] _ _ _
  obtain ⟨rfl, rfl⟩ := hv
  exact wp_return dX6_putName_9 rfl rfl hq
theorem wX6_takeName_0 {a0 : Nat} {ky0 : Nat} {x1 : Int32} (hK : StK K) (ha0 : IsSt K a0 6 ky0) (hv : (∃ (V1 : SV), Ev G d mX4_takeName 0 [(0, .ref a0), (1, .int x1)] (K, n, V, J, O) none (K, n, V1, J, O) ∧ (∃ (V2 : SV), Ev G d mX6_sumUp 0 [(0, .ref a0)] (K, n, V1, J, O) none (K, n, V2, J, O) ∧ (r = none ∧ V' = V2)))) : Ev G (d + 1) mX6_takeName 0 [(0, .ref a0), (1, .int x1)] (K, n, V, J, O) r (K, n, V', J, O) := by
  refine Ev.mk fun Q hq => ?_
  refine wp_aload_n (i := 0) dX6_takeName_0 rfl rfl ?_
  refine wp_iload_n (i := 1) dX6_takeName_1 rfl rfl ?_
  obtain ⟨V1, hE, hv⟩ := hv
  refine wz_callSU (vs := [.int x1]) (st := []) dX6_takeName_2 (st_0 ha0) (acls_at (by decide)) su6_23 hE rfl (Nat.le_of_ble_eq_true rfl) (Nat.le_of_ble_eq_true rfl) ?_
  change wp _ _ _ _ _ [] _ _ _
  refine wp_aload_n (i := 0) dX6_takeName_5 rfl rfl ?_
  obtain ⟨V2, hE, hv⟩ := hv
  refine wz_callV (vs := []) (st := []) dX6_takeName_6 (st_0 ha0) rfl k6_19_6 hE rfl (Nat.le_of_ble_eq_true rfl) (Nat.le_of_ble_eq_true rfl) ?_
  change wp _ _ _ _ _ [] _ _ _
  obtain ⟨rfl, rfl⟩ := hv
  exact wp_return dX6_takeName_9 rfl rfl hq
theorem wX6_sumUp_0 {a0 : Nat} {ky0 : Nat} (hK : StK K) (ha0 : IsSt K a0 6 ky0) (hv : Ev G d mX6_sumUp 2 [(0, .ref a0), (1, .int (0 : Int32))] (K, n, V, J, O) r (K, n, V', J, O)) : Ev G d mX6_sumUp 0 [(0, .ref a0)] (K, n, V, J, O) r (K, n, V', J, O) := by
  refine Ev.mk fun Q hq => ?_
  refine wp_iconst (v := 0) dX6_sumUp_0 (by decide) ?_
  refine wx_istore_n (ls' := [(0, .ref a0), (1, .int (0 : Int32))]) (i := 1) dX6_sumUp_1 rfl (by decide) rfl ?_
  exact hv Q hq
theorem wX6_sumUp_2 {a0 : Nat} {ky0 : Nat} {x1 : Int32} (hK : StK K) (ha0 : IsSt K a0 6 ky0) (hv : (((V a0 10) ≤ x1 → (r = none ∧ V' = V)) ∧ (¬ (V a0 10) ≤ x1 → (vp_in x1 81 ∧ (vp_in x1 80 ∧ (vp_in (V (a0 + 2) (x1).toNatClampNeg) 80 ∧ (vp_in (x1 + (1 : Int32)) 81 ∧ Ev G d mX6_sumUp 2 [(0, .ref a0), (1, .int (x1 + 1))] (K, n, (up2 V (a0 + 3) ((x1 + (1 : Int32))).toNatClampNeg ((V (a0 + 3) (x1).toNatClampNeg) + (V (4 + 1 + ky0) ((V (a0 + 2) (x1).toNatClampNeg)).toNatClampNeg))), J, O) r (K, n, V', J, O)))))))) : Ev G d mX6_sumUp 2 [(0, .ref a0), (1, .int x1)] (K, n, V, J, O) r (K, n, V', J, O) := by
  refine Ev.mk fun Q hq => ?_
  refine wp_iload_n (i := 1) dX6_sumUp_2 rfl rfl ?_
  refine wp_aload_n (i := 0) dX6_sumUp_3 rfl rfl ?_
  refine wz_getI dX6_sumUp_4 (st_0 ha0) (f6_26 _ (by decide)) rfl ?_
  refine wp_icmp_ge 42 dX6_sumUp_7 (by decide) (fun q => ?_) (fun q => ?_)
  · replace hv := hv.1 q
    obtain ⟨rfl, rfl⟩ := hv
    exact wp_return dX6_sumUp_42 rfl rfl hq
  · replace hv := hv.2 q
    refine wp_aload_n (i := 0) dX6_sumUp_10 rfl rfl ?_
    refine wz_getR (b := (a0 + 3)) dX6_sumUp_11 (st_0 ha0) (f6_9 _ (by decide)) rfl ?_
    refine wp_iload_n (i := 1) dX6_sumUp_14 rfl rfl ?_
    refine wp_iconst (v := 1) dX6_sumUp_15 (by decide) ?_
    refine wp_iadd dX6_sumUp_16 ?_
    refine wp_aload_n (i := 0) dX6_sumUp_17 rfl rfl ?_
    refine wz_getR (b := (a0 + 3)) dX6_sumUp_18 (st_0 ha0) (f6_9 _ (by decide)) rfl ?_
    refine wp_iload_n (i := 1) dX6_sumUp_21 rfl rfl ?_
    obtain ⟨z1, hv⟩ := hv
    refine wz_iaload dX6_sumUp_22 (st_sums ha0) z1 ?_
    refine wp_aload_n (i := 0) dX6_sumUp_23 rfl rfl ?_
    refine wz_getR (b := (4 + 1 + ky0)) dX6_sumUp_24 (st_0 ha0) (f6_30 _ (by decide)) rfl ?_
    refine wp_aload_n (i := 0) dX6_sumUp_27 rfl rfl ?_
    refine wz_getR (b := (a0 + 2)) dX6_sumUp_28 (st_0 ha0) (f6_33 _ (by decide)) rfl ?_
    refine wp_iload_n (i := 1) dX6_sumUp_31 rfl rfl ?_
    obtain ⟨z2, hv⟩ := hv
    refine wz_iaload dX6_sumUp_32 (st_row ha0 (by decide)) z2 ?_
    obtain ⟨z3, hv⟩ := hv
    refine wz_iaload dX6_sumUp_33 (st_k hK ha0) z3 ?_
    refine wp_iadd dX6_sumUp_34 ?_
    obtain ⟨z4, hv⟩ := hv
    refine wz_iastore dX6_sumUp_35 (st_sums ha0) z4 ?_
    refine wx_iinc (v := 1) (ls' := [(0, .ref a0), (1, .int (x1 + 1))]) dX6_sumUp_36 rfl (by decide) (by decide) rfl ?_
    refine wp_goto 2 dX6_sumUp_39 (by decide) ?_
    exact hv Q hq
theorem wX6_run_0 {a0 : Nat} {ky0 : Nat} {a1 : Nat} (hK : StK K) (ha0 : IsSt K a0 6 ky0) (hq1 : IsAk K a1) (hv : (∃ (v1 : Int32), Ev G d mX0_isFromSums 0 [(0, .ref a1), (1, .int (V a0 2))] (K, n, V, J, O) (some (.int v1)) (K, n, V, J, O) ∧ ((v1 ≠ 0 → (∃ (v2 : Int32), Ev G d mX0_lowEnd 0 [(0, .ref a1), (1, .int (V a0 2))] (K, n, V, J, O) (some (.int v2)) (K, n, V, J, O) ∧ (∃ (v4 : Int32) (V3 : SV), Ev G d mX4_placeFor 0 [(0, .ref a0), (1, .int v2), (2, .int (-1 : Int32))] (K, n, V, J, O) (some (.int v4)) (K, n, V3, J, O) ∧ (∃ (v5 : Int32), Ev G d mX0_highEnd 0 [(0, .ref a1), (1, .int (V3 a0 2))] (K, n, V3, J, O) (some (.int v5)) (K, n, V3, J, O) ∧ (∃ (v7 : Int32) (V6 : SV), Ev G d mX4_placeFor 0 [(0, .ref a0), (1, .int (v5 + (1 : Int32))), (2, .int (-1 : Int32))] (K, n, V3, J, O) (some (.int v7)) (K, n, V6, J, O) ∧ ((v4 < v7 → (∃ (v8 : Int32), Ev G d mX0_isCount 0 [(0, .ref a1)] (K, n, V6, J, O) (some (.int v8)) (K, n, V6, J, O) ∧ ((v8 = 0 → (vp_in v7 81 ∧ (vp_in v4 81 ∧ (r = some (.int ((V6 (a0 + 3) (v7).toNatClampNeg) - (V6 (a0 + 3) (v4).toNatClampNeg))) ∧ V' = V6)))) ∧ (¬ v8 = 0 → (r = some (.int (v7 - v4)) ∧ V' = V6))))) ∧ (¬ v4 < v7 → (r = some (.int (0 : Int32)) ∧ V' = V6)))))))) ∧ (v1 = 0 → (∃ (v12 : Int32) (V11 : SV), Ev G d mX4_run 0 [(0, .ref a0), (1, .ref a1)] (K, n, V, J, O) (some (.int v12)) (K, n, V11, J, O) ∧ (r = some (.int v12) ∧ V' = V11)))))) : Ev G (d + 1) mX6_run 0 [(0, .ref a0), (1, .ref a1)] (K, n, V, J, O) r (K, n, V', J, O) := by
  refine Ev.mk fun Q hq => ?_
  refine wp_aload_n (i := 1) dX6_run_0 rfl rfl ?_
  refine wp_aload_n (i := 0) dX6_run_1 rfl rfl ?_
  refine wz_getI dX6_run_2 (st_0 ha0) (f6_36 _ (by decide)) rfl ?_
  obtain ⟨v1, hE, hv⟩ := hv
  refine wz_callV (vs := [.int (V a0 2)]) (st := []) dX6_run_5 (ak_0 hq1) rfl k6_39_0 hE rfl (Nat.le_of_ble_eq_true rfl) (Nat.le_of_ble_eq_true rfl) ?_
  change wp _ _ _ _ _ [.int v1] _ _ _
  refine wp_if_ne 17 dX6_run_8 (by decide) (fun q => ?_) (fun q => ?_)
  · replace hv := hv.1 q
    refine wp_aload_n (i := 0) dX6_run_17 rfl rfl ?_
    refine wp_aload_n (i := 1) dX6_run_18 rfl rfl ?_
    refine wp_aload_n (i := 0) dX6_run_19 rfl rfl ?_
    refine wz_getI dX6_run_20 (st_0 ha0) (f6_36 _ (by decide)) rfl ?_
    obtain ⟨v2, hE, hv⟩ := hv
    refine wz_callV (vs := [.int (V a0 2)]) (st := [.ref a0]) dX6_run_23 (ak_0 hq1) rfl k6_49_0 hE rfl (Nat.le_of_ble_eq_true rfl) (Nat.le_of_ble_eq_true rfl) ?_
    change wp _ _ _ _ _ [.int v2, .ref a0] _ _ _
    refine wp_iconst (v := -1) dX6_run_26 (by decide) ?_
    obtain ⟨v4, V3, hE, hv⟩ := hv
    refine wz_callU (vs := [.int v2, .int (-1 : Int32)]) (st := []) dX6_run_27 (st_0 ha0) rfl k6_53_6 hE rfl (Nat.le_of_ble_eq_true rfl) (Nat.le_of_ble_eq_true rfl) ?_
    change wp _ _ _ _ _ [.int v4] _ _ _
    refine wx_istore_n (ls' := [(0, .ref a0), (1, .ref a1), (2, .int v4)]) (i := 2) dX6_run_30 rfl (by decide) rfl ?_
    refine wp_aload_n (i := 0) dX6_run_31 rfl rfl ?_
    refine wp_aload_n (i := 1) dX6_run_32 rfl rfl ?_
    refine wp_aload_n (i := 0) dX6_run_33 rfl rfl ?_
    refine wz_getI dX6_run_34 (st_0 ha0) (f6_36 _ (by decide)) rfl ?_
    obtain ⟨v5, hE, hv⟩ := hv
    refine wz_callV (vs := [.int (V3 a0 2)]) (st := [.ref a0]) dX6_run_37 (ak_0 hq1) rfl k6_57_0 hE rfl (Nat.le_of_ble_eq_true rfl) (Nat.le_of_ble_eq_true rfl) ?_
    change wp _ _ _ _ _ [.int v5, .ref a0] _ _ _
    refine wp_iconst (v := 1) dX6_run_40 (by decide) ?_
    refine wp_iadd dX6_run_41 ?_
    refine wp_iconst (v := -1) dX6_run_42 (by decide) ?_
    obtain ⟨v7, V6, hE, hv⟩ := hv
    refine wz_callU (vs := [.int (v5 + (1 : Int32)), .int (-1 : Int32)]) (st := []) dX6_run_43 (st_0 ha0) rfl k6_53_6 hE rfl (Nat.le_of_ble_eq_true rfl) (Nat.le_of_ble_eq_true rfl) ?_
    change wp _ _ _ _ _ [.int v7] _ _ _
    refine wx_istore_n (ls' := [(0, .ref a0), (1, .ref a1), (2, .int v4), (3, .int v7)]) (i := 3) dX6_run_46 rfl (by decide) rfl ?_
    refine wp_iload_n (i := 3) dX6_run_47 rfl rfl ?_
    refine wp_iload_n (i := 2) dX6_run_48 rfl rfl ?_
    refine wp_icmp_gt 54 dX6_run_49 (by decide) (fun q => ?_) (fun q => ?_)
    · replace hv := hv.1 q
      refine wp_aload_n (i := 1) dX6_run_54 rfl rfl ?_
      obtain ⟨v8, hE, hv⟩ := hv
      refine wz_callV (vs := []) (st := []) dX6_run_55 (ak_0 hq1) rfl k6_60_0 hE rfl (Nat.le_of_ble_eq_true rfl) (Nat.le_of_ble_eq_true rfl) ?_
      change wp _ _ _ _ _ [.int v8] _ _ _
      refine wp_if_eq 67 dX6_run_58 (by decide) (fun q => ?_) (fun q => ?_)
      · replace hv := hv.1 q
        refine wp_aload_n (i := 0) dX6_run_67 rfl rfl ?_
        refine wz_getR (b := (a0 + 3)) dX6_run_68 (st_0 ha0) (f6_9 _ (by decide)) rfl ?_
        refine wp_iload_n (i := 3) dX6_run_71 rfl rfl ?_
        obtain ⟨z9, hv⟩ := hv
        refine wz_iaload dX6_run_72 (st_sums ha0) z9 ?_
        refine wp_aload_n (i := 0) dX6_run_73 rfl rfl ?_
        refine wz_getR (b := (a0 + 3)) dX6_run_74 (st_0 ha0) (f6_9 _ (by decide)) rfl ?_
        refine wp_iload_n (i := 2) dX6_run_77 rfl rfl ?_
        obtain ⟨z10, hv⟩ := hv
        refine wz_iaload dX6_run_78 (st_sums ha0) z10 ?_
        refine wp_isub dX6_run_79 ?_
        obtain ⟨rfl, rfl⟩ := hv
        exact wp_ireturn dX6_run_80 rfl rfl rfl hq
      · replace hv := hv.2 q
        refine wp_iload_n (i := 3) dX6_run_61 rfl rfl ?_
        refine wp_iload_n (i := 2) dX6_run_62 rfl rfl ?_
        refine wp_isub dX6_run_63 ?_
        refine wp_goto 80 dX6_run_64 (by decide) ?_
        obtain ⟨rfl, rfl⟩ := hv
        exact wp_ireturn dX6_run_80 rfl rfl rfl hq
    · replace hv := hv.2 q
      refine wp_iconst (v := 0) dX6_run_52 (by decide) ?_
      obtain ⟨rfl, rfl⟩ := hv
      exact wp_ireturn dX6_run_53 rfl rfl rfl hq
  · replace hv := hv.2 q
    refine wp_aload_n (i := 0) dX6_run_11 rfl rfl ?_
    refine wp_aload_n (i := 1) dX6_run_12 rfl rfl ?_
    obtain ⟨v12, V11, hE, hv⟩ := hv
    refine wz_callSU (vs := [.ref a1]) (st := []) dX6_run_13 (st_0 ha0) (acls_at (by decide)) su6_45 hE rfl (Nat.le_of_ble_eq_true rfl) (Nat.le_of_ble_eq_true rfl) ?_
    change wp _ _ _ _ _ [.int v12] _ _ _
    obtain ⟨rfl, rfl⟩ := hv
    exact wp_ireturn dX6_run_16 rfl rfl rfl hq
theorem wX6_priceFor_0 {a0 : Nat} {ky0 : Nat} {a1 : Nat} {x2 : Int32} (hK : StK K) (ha0 : IsSt K a0 6 ky0) (hq1 : IsAk K a1) (hv : (∃ (v1 : Int32), Ev G d mX0_isFromSums 0 [(0, .ref a1), (1, .int (V a0 2))] (K, n, V, J, O) (some (.int v1)) (K, n, V, J, O) ∧ ((v1 = 0 → (∃ (v2 : Int32), Ev G d mX4_priceFor 0 [(0, .ref a0), (1, .ref a1), (2, .int x2)] (K, n, V, J, O) (some (.int v2)) (K, n, V, J, O) ∧ r = some (.int v2))) ∧ (¬ v1 = 0 → (∃ (v3 : Int32), Ev G d mX5_levels 0 [(0, .int x2)] (K, n, V, J, O) (some (.int v3)) (K, n, V, J, O) ∧ r = some (.int ((2 : Int32) * v3))))))) : Ev G (d + 1) mX6_priceFor 0 [(0, .ref a0), (1, .ref a1), (2, .int x2)] (K, n, V, J, O) r (K, n, V, J, O) := by
  refine Ev.mk fun Q hq => ?_
  refine wp_aload_n (i := 1) dX6_priceFor_0 rfl rfl ?_
  refine wp_aload_n (i := 0) dX6_priceFor_1 rfl rfl ?_
  refine wz_getI dX6_priceFor_2 (st_0 ha0) (f6_36 _ (by decide)) rfl ?_
  obtain ⟨v1, hE, hv⟩ := hv
  refine wz_callV (vs := [.int (V a0 2)]) (st := []) dX6_priceFor_5 (ak_0 hq1) rfl k6_39_0 hE rfl (Nat.le_of_ble_eq_true rfl) (Nat.le_of_ble_eq_true rfl) ?_
  change wp _ _ _ _ _ [.int v1] _ _ _
  refine wp_if_eq 20 dX6_priceFor_8 (by decide) (fun q => ?_) (fun q => ?_)
  · replace hv := hv.1 q
    refine wp_aload_n (i := 0) dX6_priceFor_20 rfl rfl ?_
    refine wp_aload_n (i := 1) dX6_priceFor_21 rfl rfl ?_
    refine wp_iload_n (i := 2) dX6_priceFor_22 rfl rfl ?_
    obtain ⟨v2, hE, hv⟩ := hv
    refine wz_callSU (vs := [.ref a1, .int x2]) (st := []) dX6_priceFor_23 (st_0 ha0) (acls_at (by decide)) su6_67 hE rfl (Nat.le_of_ble_eq_true rfl) (Nat.le_of_ble_eq_true rfl) ?_
    change wp _ _ _ _ _ [.int v2] _ _ _
    obtain rfl := hv
    exact wp_ireturn dX6_priceFor_26 rfl rfl rfl hq
  · replace hv := hv.2 q
    refine wp_iconst (v := 2) dX6_priceFor_11 (by decide) ?_
    refine wp_iload_n (i := 2) dX6_priceFor_12 rfl rfl ?_
    obtain ⟨v3, hE, hv⟩ := hv
    refine wz_callST (vs := [.int x2]) (st := [.int (2 : Int32)]) dX6_priceFor_13 k6_64 hE rfl (Nat.le_of_ble_eq_true rfl) (Nat.le_of_ble_eq_true rfl) ?_
    change wp _ _ _ _ _ [.int v3, .int (2 : Int32)] _ _ _
    refine wp_imul dX6_priceFor_16 ?_
    refine wp_goto 26 dX6_priceFor_17 (by decide) ?_
    obtain rfl := hv
    exact wp_ireturn dX6_priceFor_26 rfl rfl rfl hq
theorem wX6_mends_0 {a0 : Nat} {ky0 : Nat} {x1 : Int32} (hK : StK K) (ha0 : IsSt K a0 6 ky0) (hv : (∃ (V1 : SV), Ev G d mX5_led 0 [(0, .ref a0), (1, .int (80 : Int32))] (K, n, V, J, O) none (K, n, V1, J, O) ∧ (∃ (v3 : Int32) (V2 : SV), Ev G d mX4_mends 0 [(0, .ref a0), (1, .int x1)] (K, n, V1, J, O) (some (.int v3)) (K, n, V2, J, O) ∧ (∃ (v5 : Int32) (V4 : SV), Ev G d mX3_finds 0 [(0, .ref a0), (1, .int x1)] (K, n, V2, J, O) (some (.int v5)) (K, n, V4, J, O) ∧ (r = some (.int (v3 + v5)) ∧ V' = V4))))) : Ev G (d + 1) mX6_mends 0 [(0, .ref a0), (1, .int x1)] (K, n, V, J, O) r (K, n, V', J, O) := by
  refine Ev.mk fun Q hq => ?_
  refine wp_aload_n (i := 0) dX6_mends_0 rfl rfl ?_
  refine wp_bipush (v := 80) dX6_mends_1 (by decide) ?_
  obtain ⟨V1, hE, hv⟩ := hv
  refine wz_callU (vs := [.int (80 : Int32)]) (st := []) dX6_mends_3 (st_0 ha0) rfl k6_71_6 hE rfl (Nat.le_of_ble_eq_true rfl) (Nat.le_of_ble_eq_true rfl) ?_
  change wp _ _ _ _ _ [] _ _ _
  refine wp_aload_n (i := 0) dX6_mends_6 rfl rfl ?_
  refine wp_iload_n (i := 1) dX6_mends_7 rfl rfl ?_
  obtain ⟨v3, V2, hE, hv⟩ := hv
  refine wz_callSU (vs := [.int x1]) (st := []) dX6_mends_8 (st_0 ha0) (acls_at (by decide)) su6_74 hE rfl (Nat.le_of_ble_eq_true rfl) (Nat.le_of_ble_eq_true rfl) ?_
  change wp _ _ _ _ _ [.int v3] _ _ _
  refine wp_aload_n (i := 0) dX6_mends_11 rfl rfl ?_
  refine wp_iload_n (i := 1) dX6_mends_12 rfl rfl ?_
  obtain ⟨v5, V4, hE, hv⟩ := hv
  refine wz_callSV (vs := [.int x1]) (st := [.int v3]) dX6_mends_13 (st_0 ha0) (acls_at (by decide)) sv6_77 hE rfl (Nat.le_of_ble_eq_true rfl) (Nat.le_of_ble_eq_true rfl) ?_
  change wp _ _ _ _ _ [.int v5, .int v3] _ _ _
  refine wp_iadd dX6_mends_16 ?_
  obtain ⟨rfl, rfl⟩ := hv
  exact wp_ireturn dX6_mends_17 rfl rfl rfl hq
theorem wX7_kind_0 {a0 : Nat} {ci0 ky0 : Nat} (hK : StK K) (ha0 : IsSt K a0 ci0 ky0) (hc0 : ci0 ∈ [1, 7]) (hv : r = some (.int (4 : Int32))) : Ev G d mX7_kind 0 [(0, .ref a0)] (K, n, V, J, O) r (K, n, V, J, O) := by
  refine Ev.mk fun Q hq => ?_
  refine wp_iconst (v := 4) dX7_kind_0 (by decide) ?_
  obtain rfl := hv
  exact wp_ireturn dX7_kind_1 rfl rfl rfl hq
theorem wX7_bucketOf_0 {a0 : Nat} {ci0 ky0 : Nat} {x1 : Int32} (hK : StK K) (ha0 : IsSt K a0 ci0 ky0) (hc0 : ci0 ∈ [1, 7]) (hv : (vp_in x1 80 ∧ r = some (.int ((V (4 + 1 + ky0) (x1).toNatClampNeg) - (V (4 + 1 + ky0) (x1).toNatClampNeg) / (8 : Int32) * (8 : Int32))))) : Ev G d mX7_bucketOf 0 [(0, .ref a0), (1, .int x1)] (K, n, V, J, O) r (K, n, V, J, O) := by
  refine Ev.mk fun Q hq => ?_
  refine wp_aload_n (i := 0) dX7_bucketOf_0 rfl rfl ?_
  refine wz_getR (b := (4 + 1 + ky0)) dX7_bucketOf_1 (st_0 ha0) (f7_21 _ (sb_tab_all hc0)) rfl ?_
  refine wp_iload_n (i := 1) dX7_bucketOf_4 rfl rfl ?_
  obtain ⟨z1, hv⟩ := hv
  refine wz_iaload dX7_bucketOf_5 (st_k hK ha0) z1 ?_
  refine wp_bipush (v := 8) dX7_bucketOf_6 (by decide) ?_
  refine wp_irem dX7_bucketOf_8 (by decide) ?_
  obtain rfl := hv
  exact wp_ireturn dX7_bucketOf_9 rfl rfl rfl hq
theorem wX7_startOf_0 {a0 : Nat} {ky0 : Nat} {x1 : Int32} (hK : StK K) (ha0 : IsSt K a0 7 ky0) (hv : Ev G (d + 1) mX7_startOf 2 [(0, .ref a0), (1, .int x1), (2, .int (0 : Int32))] (K, n, V, J, O) r (K, n, V, J, O)) : Ev G (d + 1) mX7_startOf 0 [(0, .ref a0), (1, .int x1)] (K, n, V, J, O) r (K, n, V, J, O) := by
  refine Ev.mk fun Q hq => ?_
  refine wp_iconst (v := 0) dX7_startOf_0 (by decide) ?_
  refine wx_istore_n (ls' := [(0, .ref a0), (1, .int x1), (2, .int (0 : Int32))]) (i := 2) dX7_startOf_1 rfl (by decide) rfl ?_
  exact hv Q hq
theorem wX7_startOf_2 {a0 : Nat} {ky0 : Nat} {x1 : Int32} {x2 : Int32} (hK : StK K) (ha0 : IsSt K a0 7 ky0) (hv : (((V a0 10) ≤ x2 → r = some (.int x2)) ∧ (¬ (V a0 10) ≤ x2 → (vp_in x2 80 ∧ (∃ (v2 : Int32), Ev G d mX7_bucketOf 0 [(0, .ref a0), (1, .int (V (a0 + 2) (x2).toNatClampNeg))] (K, n, V, J, O) (some (.int v2)) (K, n, V, J, O) ∧ ((x1 ≤ v2 → r = some (.int x2)) ∧ (¬ x1 ≤ v2 → Ev G (d + 1) mX7_startOf 2 [(0, .ref a0), (1, .int x1), (2, .int (x2 + 1))] (K, n, V, J, O) r (K, n, V, J, O)))))))) : Ev G (d + 1) mX7_startOf 2 [(0, .ref a0), (1, .int x1), (2, .int x2)] (K, n, V, J, O) r (K, n, V, J, O) := by
  refine Ev.mk fun Q hq => ?_
  refine wp_iload_n (i := 2) dX7_startOf_2 rfl rfl ?_
  refine wp_aload_n (i := 0) dX7_startOf_3 rfl rfl ?_
  refine wz_getI dX7_startOf_4 (st_0 ha0) (f7_24 _ (by decide)) rfl ?_
  refine wp_icmp_ge 30 dX7_startOf_7 (by decide) (fun q => ?_) (fun q => ?_)
  · replace hv := hv.1 q
    refine wp_iload_n (i := 2) dX7_startOf_30 rfl rfl ?_
    obtain rfl := hv
    exact wp_ireturn dX7_startOf_31 rfl rfl rfl hq
  · replace hv := hv.2 q
    refine wp_aload_n (i := 0) dX7_startOf_10 rfl rfl ?_
    refine wp_aload_n (i := 0) dX7_startOf_11 rfl rfl ?_
    refine wz_getR (b := (a0 + 2)) dX7_startOf_12 (st_0 ha0) (f7_15 _ (by decide)) rfl ?_
    refine wp_iload_n (i := 2) dX7_startOf_15 rfl rfl ?_
    obtain ⟨z1, hv⟩ := hv
    refine wz_iaload dX7_startOf_16 (st_tab ha0 (by decide)) z1 ?_
    obtain ⟨v2, hE, hv⟩ := hv
    refine wz_callV (vs := [.int (V (a0 + 2) (x2).toNatClampNeg)]) (st := []) dX7_startOf_17 (st_0 ha0) rfl k7_28_7 hE rfl (Nat.le_of_ble_eq_true rfl) (Nat.le_of_ble_eq_true rfl) ?_
    change wp _ _ _ _ _ [.int v2] _ _ _
    refine wp_iload_n (i := 1) dX7_startOf_20 rfl rfl ?_
    refine wp_icmp_ge 30 dX7_startOf_21 (by decide) (fun q => ?_) (fun q => ?_)
    · replace hv := hv.1 q
      refine wp_iload_n (i := 2) dX7_startOf_30 rfl rfl ?_
      obtain rfl := hv
      exact wp_ireturn dX7_startOf_31 rfl rfl rfl hq
    · replace hv := hv.2 q
      refine wx_iinc (v := 1) (ls' := [(0, .ref a0), (1, .int x1), (2, .int (x2 + 1))]) dX7_startOf_24 rfl (by decide) (by decide) rfl ?_
      refine wp_goto 2 dX7_startOf_27 (by decide) ?_
      exact hv Q hq
theorem wX7_putName_0 {a0 : Nat} {ky0 : Nat} {x1 : Int32} (hK : StK K) (ha0 : IsSt K a0 7 ky0) (hv : (((V a0 10) < (Int32.ofNat 80) → (∃ (v1 : Int32), Ev G d mX7_bucketOf 0 [(0, .ref a0), (1, .int x1)] (K, n, (up2 V a0 8 ((V a0 8) + (1 : Int32))), J, O) (some (.int v1)) (K, n, (up2 V a0 8 ((V a0 8) + (1 : Int32))), J, O) ∧ (∃ (v2 : Int32), Ev G d mX7_startOf 0 [(0, .ref a0), (1, .int (v1 + (1 : Int32)))] (K, n, (up2 V a0 8 ((V a0 8) + (1 : Int32))), J, O) (some (.int v2)) (K, n, (up2 V a0 8 ((V a0 8) + (1 : Int32))), J, O) ∧ ((¬ v2 < 0 ∧ ¬ (v2 + (1 : Int32)) < 0 ∧ ¬ ((V a0 10) - v2) < 0 ∧ (v2).toNatClampNeg + (((V a0 10) - v2)).toNatClampNeg ≤ 80 ∧ ((v2 + (1 : Int32))).toNatClampNeg + (((V a0 10) - v2)).toNatClampNeg ≤ 80) ∧ (vp_in v2 80 ∧ (r = none ∧ V' = (up2 (up2 (upA (up2 V a0 8 ((V a0 8) + (1 : Int32))) (a0 + 2) (va_cpy ((up2 V a0 8 ((V a0 8) + (1 : Int32))) (a0 + 2)) ((up2 V a0 8 ((V a0 8) + (1 : Int32))) (a0 + 2)) (v2).toNatClampNeg ((v2 + (1 : Int32))).toNatClampNeg (((V a0 10) - v2)).toNatClampNeg)) (a0 + 2) (v2).toNatClampNeg x1) a0 10 (((up2 (upA (up2 V a0 8 ((V a0 8) + (1 : Int32))) (a0 + 2) (va_cpy ((up2 V a0 8 ((V a0 8) + (1 : Int32))) (a0 + 2)) ((up2 V a0 8 ((V a0 8) + (1 : Int32))) (a0 + 2)) (v2).toNatClampNeg ((v2 + (1 : Int32))).toNatClampNeg (((V a0 10) - v2)).toNatClampNeg)) (a0 + 2) (v2).toNatClampNeg x1) a0 10) + (1 : Int32))))))))) ∧ (¬ (V a0 10) < (Int32.ofNat 80) → (r = none ∧ V' = (up2 V a0 8 ((V a0 8) + (1 : Int32))))))) : Ev G (d + 1) mX7_putName 0 [(0, .ref a0), (1, .int x1)] (K, n, V, J, O) r (K, n, V', J, O) := by
  refine Ev.mk fun Q hq => ?_
  refine wp_aload_n (i := 0) dX7_putName_0 rfl rfl ?_
  refine wp_dupR dX7_putName_1 ?_
  refine wz_getI dX7_putName_2 (st_0 ha0) (f7_32 _ (by decide)) rfl ?_
  refine wp_iconst (v := 1) dX7_putName_5 (by decide) ?_
  refine wp_iadd dX7_putName_6 ?_
  refine wz_putI dX7_putName_7 (st_0 ha0) (w7_32 _ (by decide)) rfl ?_
  refine wp_aload_n (i := 0) dX7_putName_10 rfl rfl ?_
  refine wz_getIe (v := (V a0 10)) dX7_putName_11 (st_0 ha0) (f7_24 _ (by decide)) rfl (up2_k (by decide)) ?_
  refine wp_aload_n (i := 0) dX7_putName_14 rfl rfl ?_
  refine wz_getR (b := (a0 + 2)) dX7_putName_15 (st_0 ha0) (f7_15 _ (by decide)) rfl ?_
  refine wz_alen dX7_putName_18 (st_tab ha0 (by decide)) (by decide) ?_
  refine wp_icmp_lt 23 dX7_putName_19 (by decide) (fun q => ?_) (fun q => ?_)
  · replace hv := hv.1 q
    refine wp_aload_n (i := 0) dX7_putName_23 rfl rfl ?_
    refine wp_aload_n (i := 0) dX7_putName_24 rfl rfl ?_
    refine wp_iload_n (i := 1) dX7_putName_25 rfl rfl ?_
    obtain ⟨v1, hE, hv⟩ := hv
    refine wz_callV (vs := [.int x1]) (st := [.ref a0]) dX7_putName_26 (st_0 ha0) rfl k7_28_7 hE rfl (Nat.le_of_ble_eq_true rfl) (Nat.le_of_ble_eq_true rfl) ?_
    change wp _ _ _ _ _ [.int v1, .ref a0] _ _ _
    refine wp_iconst (v := 1) dX7_putName_29 (by decide) ?_
    refine wp_iadd dX7_putName_30 ?_
    obtain ⟨v2, hE, hv⟩ := hv
    refine wz_callV (vs := [.int (v1 + (1 : Int32))]) (st := []) dX7_putName_31 (st_0 ha0) rfl k7_35_7 hE rfl (Nat.le_of_ble_eq_true rfl) (Nat.le_of_ble_eq_true rfl) ?_
    change wp _ _ _ _ _ [.int v2] _ _ _
    refine wx_istore_n (ls' := [(0, .ref a0), (1, .int x1), (2, .int v2)]) (i := 2) dX7_putName_34 rfl (by decide) rfl ?_
    refine wp_aload_n (i := 0) dX7_putName_35 rfl rfl ?_
    refine wz_getR (b := (a0 + 2)) dX7_putName_36 (st_0 ha0) (f7_15 _ (by decide)) rfl ?_
    refine wp_iload_n (i := 2) dX7_putName_39 rfl rfl ?_
    refine wp_aload_n (i := 0) dX7_putName_40 rfl rfl ?_
    refine wz_getR (b := (a0 + 2)) dX7_putName_41 (st_0 ha0) (f7_15 _ (by decide)) rfl ?_
    refine wp_iload_n (i := 2) dX7_putName_44 rfl rfl ?_
    refine wp_iconst (v := 1) dX7_putName_45 (by decide) ?_
    refine wp_iadd dX7_putName_46 ?_
    refine wp_aload_n (i := 0) dX7_putName_47 rfl rfl ?_
    refine wz_getIe (v := (V a0 10)) dX7_putName_48 (st_0 ha0) (f7_24 _ (by decide)) rfl (up2_k (by decide)) ?_
    refine wp_iload_n (i := 2) dX7_putName_51 rfl rfl ?_
    refine wp_isub dX7_putName_52 ?_
    obtain ⟨⟨z1, z2, z3, z4, z5⟩, hv⟩ := hv
    refine wz_copyI dX7_putName_53 cp7_38 (st_tab ha0 (by decide)) (st_tab ha0 (by decide)) z1 z2 z3 z4 z5 (by decide) ?_
    refine wp_aload_n (i := 0) dX7_putName_56 rfl rfl ?_
    refine wz_getR (b := (a0 + 2)) dX7_putName_57 (st_0 ha0) (f7_15 _ (by decide)) rfl ?_
    refine wp_iload_n (i := 2) dX7_putName_60 rfl rfl ?_
    refine wp_iload_n (i := 1) dX7_putName_61 rfl rfl ?_
    obtain ⟨z3, hv⟩ := hv
    refine wz_iastore dX7_putName_62 (st_tab ha0 (by decide)) z3 ?_
    refine wp_aload_n (i := 0) dX7_putName_63 rfl rfl ?_
    refine wp_dupR dX7_putName_64 ?_
    refine wz_getI dX7_putName_65 (st_0 ha0) (f7_24 _ (by decide)) rfl ?_
    refine wp_iconst (v := 1) dX7_putName_68 (by decide) ?_
    refine wp_iadd dX7_putName_69 ?_
    refine wz_putI dX7_putName_70 (st_0 ha0) (w7_24 _ (by decide)) rfl ?_
    obtain ⟨rfl, rfl⟩ := hv
    exact wp_return dX7_putName_73 rfl rfl hq
  · replace hv := hv.2 q
    obtain ⟨rfl, rfl⟩ := hv
    exact wp_return dX7_putName_22 rfl rfl hq
theorem wX7_takeName_0 {a0 : Nat} {ky0 : Nat} {x1 : Int32} (hK : StK K) (ha0 : IsSt K a0 7 ky0) (hv : (∃ (v1 : Int32), Ev G d mX7_bucketOf 0 [(0, .ref a0), (1, .int x1)] (K, n, V, J, O) (some (.int v1)) (K, n, V, J, O) ∧ (∃ (v2 : Int32), Ev G d mX7_startOf 0 [(0, .ref a0), (1, .int v1)] (K, n, V, J, O) (some (.int v2)) (K, n, V, J, O) ∧ Ev G (d + 1) mX7_takeName 10 [(0, .ref a0), (1, .int x1), (2, .int v2)] (K, n, V, J, O) r (K, n, V', J, O)))) : Ev G (d + 1) mX7_takeName 0 [(0, .ref a0), (1, .int x1)] (K, n, V, J, O) r (K, n, V', J, O) := by
  refine Ev.mk fun Q hq => ?_
  refine wp_aload_n (i := 0) dX7_takeName_0 rfl rfl ?_
  refine wp_aload_n (i := 0) dX7_takeName_1 rfl rfl ?_
  refine wp_iload_n (i := 1) dX7_takeName_2 rfl rfl ?_
  obtain ⟨v1, hE, hv⟩ := hv
  refine wz_callV (vs := [.int x1]) (st := [.ref a0]) dX7_takeName_3 (st_0 ha0) rfl k7_28_7 hE rfl (Nat.le_of_ble_eq_true rfl) (Nat.le_of_ble_eq_true rfl) ?_
  change wp _ _ _ _ _ [.int v1, .ref a0] _ _ _
  obtain ⟨v2, hE, hv⟩ := hv
  refine wz_callV (vs := [.int v1]) (st := []) dX7_takeName_6 (st_0 ha0) rfl k7_35_7 hE rfl (Nat.le_of_ble_eq_true rfl) (Nat.le_of_ble_eq_true rfl) ?_
  change wp _ _ _ _ _ [.int v2] _ _ _
  refine wx_istore_n (ls' := [(0, .ref a0), (1, .int x1), (2, .int v2)]) (i := 2) dX7_takeName_9 rfl (by decide) rfl ?_
  exact hv Q hq
theorem wX7_takeName_10 {a0 : Nat} {ky0 : Nat} {x1 : Int32} {x2 : Int32} (hK : StK K) (ha0 : IsSt K a0 7 ky0) (hv : (((V a0 10) ≤ x2 → ((x2 < (V a0 10) → ((¬ (x2 + (1 : Int32)) < 0 ∧ ¬ x2 < 0 ∧ ¬ (((V a0 10) - (1 : Int32)) - x2) < 0 ∧ ((x2 + (1 : Int32))).toNatClampNeg + ((((V a0 10) - (1 : Int32)) - x2)).toNatClampNeg ≤ 80 ∧ (x2).toNatClampNeg + ((((V a0 10) - (1 : Int32)) - x2)).toNatClampNeg ≤ 80) ∧ (r = none ∧ V' = (upA (up2 (up2 V a0 8 ((V a0 8) + (1 : Int32))) a0 10 ((V a0 10) - (1 : Int32))) (a0 + 2) (va_cpy ((up2 (up2 V a0 8 ((V a0 8) + (1 : Int32))) a0 10 ((V a0 10) - (1 : Int32))) (a0 + 2)) ((up2 (up2 V a0 8 ((V a0 8) + (1 : Int32))) a0 10 ((V a0 10) - (1 : Int32))) (a0 + 2)) ((x2 + (1 : Int32))).toNatClampNeg (x2).toNatClampNeg ((((V a0 10) - (1 : Int32)) - x2)).toNatClampNeg))))) ∧ (¬ x2 < (V a0 10) → (r = none ∧ V' = V)))) ∧ (¬ (V a0 10) ≤ x2 → (vp_in x2 80 ∧ (((V (a0 + 2) (x2).toNatClampNeg) = x1 → ((x2 < (V a0 10) → ((¬ (x2 + (1 : Int32)) < 0 ∧ ¬ x2 < 0 ∧ ¬ (((V a0 10) - (1 : Int32)) - x2) < 0 ∧ ((x2 + (1 : Int32))).toNatClampNeg + ((((V a0 10) - (1 : Int32)) - x2)).toNatClampNeg ≤ 80 ∧ (x2).toNatClampNeg + ((((V a0 10) - (1 : Int32)) - x2)).toNatClampNeg ≤ 80) ∧ (r = none ∧ V' = (upA (up2 (up2 V a0 8 ((V a0 8) + (1 : Int32))) a0 10 ((V a0 10) - (1 : Int32))) (a0 + 2) (va_cpy ((up2 (up2 V a0 8 ((V a0 8) + (1 : Int32))) a0 10 ((V a0 10) - (1 : Int32))) (a0 + 2)) ((up2 (up2 V a0 8 ((V a0 8) + (1 : Int32))) a0 10 ((V a0 10) - (1 : Int32))) (a0 + 2)) ((x2 + (1 : Int32))).toNatClampNeg (x2).toNatClampNeg ((((V a0 10) - (1 : Int32)) - x2)).toNatClampNeg))))) ∧ (¬ x2 < (V a0 10) → (r = none ∧ V' = V)))) ∧ (¬ (V (a0 + 2) (x2).toNatClampNeg) = x1 → Ev G (d + 1) mX7_takeName 10 [(0, .ref a0), (1, .int x1), (2, .int (x2 + 1))] (K, n, (up2 V a0 8 ((V a0 8) + (1 : Int32))), J, O) r (K, n, V', J, O))))))) : Ev G (d + 1) mX7_takeName 10 [(0, .ref a0), (1, .int x1), (2, .int x2)] (K, n, V, J, O) r (K, n, V', J, O) := by
  refine Ev.mk fun Q hq => ?_
  refine wp_iload_n (i := 2) dX7_takeName_10 rfl rfl ?_
  refine wp_aload_n (i := 0) dX7_takeName_11 rfl rfl ?_
  refine wz_getI dX7_takeName_12 (st_0 ha0) (f7_24 _ (by decide)) rfl ?_
  refine wp_icmp_ge 44 dX7_takeName_15 (by decide) (fun q => ?_) (fun q => ?_)
  · replace hv := hv.1 q
    refine wp_iload_n (i := 2) dX7_takeName_44 rfl rfl ?_
    refine wp_aload_n (i := 0) dX7_takeName_45 rfl rfl ?_
    refine wz_getI dX7_takeName_46 (st_0 ha0) (f7_24 _ (by decide)) rfl ?_
    refine wp_icmp_lt 53 dX7_takeName_49 (by decide) (fun q => ?_) (fun q => ?_)
    · replace hv := hv.1 q
      refine wp_aload_n (i := 0) dX7_takeName_53 rfl rfl ?_
      refine wp_dupR dX7_takeName_54 ?_
      refine wz_getI dX7_takeName_55 (st_0 ha0) (f7_32 _ (by decide)) rfl ?_
      refine wp_iconst (v := 1) dX7_takeName_58 (by decide) ?_
      refine wp_iadd dX7_takeName_59 ?_
      refine wz_putI dX7_takeName_60 (st_0 ha0) (w7_32 _ (by decide)) rfl ?_
      refine wp_aload_n (i := 0) dX7_takeName_63 rfl rfl ?_
      refine wp_dupR dX7_takeName_64 ?_
      refine wz_getIe (v := (V a0 10)) dX7_takeName_65 (st_0 ha0) (f7_24 _ (by decide)) rfl (up2_k (by decide)) ?_
      refine wp_iconst (v := 1) dX7_takeName_68 (by decide) ?_
      refine wp_isub dX7_takeName_69 ?_
      refine wz_putI dX7_takeName_70 (st_0 ha0) (w7_24 _ (by decide)) rfl ?_
      refine wp_aload_n (i := 0) dX7_takeName_73 rfl rfl ?_
      refine wz_getR (b := (a0 + 2)) dX7_takeName_74 (st_0 ha0) (f7_15 _ (by decide)) rfl ?_
      refine wp_iload_n (i := 2) dX7_takeName_77 rfl rfl ?_
      refine wp_iconst (v := 1) dX7_takeName_78 (by decide) ?_
      refine wp_iadd dX7_takeName_79 ?_
      refine wp_aload_n (i := 0) dX7_takeName_80 rfl rfl ?_
      refine wz_getR (b := (a0 + 2)) dX7_takeName_81 (st_0 ha0) (f7_15 _ (by decide)) rfl ?_
      refine wp_iload_n (i := 2) dX7_takeName_84 rfl rfl ?_
      refine wp_aload_n (i := 0) dX7_takeName_85 rfl rfl ?_
      refine wz_getIe (v := ((V a0 10) - (1 : Int32))) dX7_takeName_86 (st_0 ha0) (f7_24 _ (by decide)) rfl up2_s ?_
      refine wp_iload_n (i := 2) dX7_takeName_89 rfl rfl ?_
      refine wp_isub dX7_takeName_90 ?_
      obtain ⟨⟨z1, z2, z3, z4, z5⟩, hv⟩ := hv
      refine wz_copyI dX7_takeName_91 cp7_38 (st_tab ha0 (by decide)) (st_tab ha0 (by decide)) z1 z2 z3 z4 z5 (by decide) ?_
      obtain ⟨rfl, rfl⟩ := hv
      exact wp_return dX7_takeName_94 rfl rfl hq
    · replace hv := hv.2 q
      obtain ⟨rfl, rfl⟩ := hv
      exact wp_return dX7_takeName_52 rfl rfl hq
  · replace hv := hv.2 q
    refine wp_aload_n (i := 0) dX7_takeName_18 rfl rfl ?_
    refine wz_getR (b := (a0 + 2)) dX7_takeName_19 (st_0 ha0) (f7_15 _ (by decide)) rfl ?_
    refine wp_iload_n (i := 2) dX7_takeName_22 rfl rfl ?_
    obtain ⟨z1, hv⟩ := hv
    refine wz_iaload dX7_takeName_23 (st_tab ha0 (by decide)) z1 ?_
    refine wp_iload_n (i := 1) dX7_takeName_24 rfl rfl ?_
    refine wp_icmp_eq 44 dX7_takeName_25 (by decide) (fun q => ?_) (fun q => ?_)
    · replace hv := hv.1 q
      refine wp_iload_n (i := 2) dX7_takeName_44 rfl rfl ?_
      refine wp_aload_n (i := 0) dX7_takeName_45 rfl rfl ?_
      refine wz_getI dX7_takeName_46 (st_0 ha0) (f7_24 _ (by decide)) rfl ?_
      refine wp_icmp_lt 53 dX7_takeName_49 (by decide) (fun q => ?_) (fun q => ?_)
      · replace hv := hv.1 q
        refine wp_aload_n (i := 0) dX7_takeName_53 rfl rfl ?_
        refine wp_dupR dX7_takeName_54 ?_
        refine wz_getI dX7_takeName_55 (st_0 ha0) (f7_32 _ (by decide)) rfl ?_
        refine wp_iconst (v := 1) dX7_takeName_58 (by decide) ?_
        refine wp_iadd dX7_takeName_59 ?_
        refine wz_putI dX7_takeName_60 (st_0 ha0) (w7_32 _ (by decide)) rfl ?_
        refine wp_aload_n (i := 0) dX7_takeName_63 rfl rfl ?_
        refine wp_dupR dX7_takeName_64 ?_
        refine wz_getIe (v := (V a0 10)) dX7_takeName_65 (st_0 ha0) (f7_24 _ (by decide)) rfl (up2_k (by decide)) ?_
        refine wp_iconst (v := 1) dX7_takeName_68 (by decide) ?_
        refine wp_isub dX7_takeName_69 ?_
        refine wz_putI dX7_takeName_70 (st_0 ha0) (w7_24 _ (by decide)) rfl ?_
        refine wp_aload_n (i := 0) dX7_takeName_73 rfl rfl ?_
        refine wz_getR (b := (a0 + 2)) dX7_takeName_74 (st_0 ha0) (f7_15 _ (by decide)) rfl ?_
        refine wp_iload_n (i := 2) dX7_takeName_77 rfl rfl ?_
        refine wp_iconst (v := 1) dX7_takeName_78 (by decide) ?_
        refine wp_iadd dX7_takeName_79 ?_
        refine wp_aload_n (i := 0) dX7_takeName_80 rfl rfl ?_
        refine wz_getR (b := (a0 + 2)) dX7_takeName_81 (st_0 ha0) (f7_15 _ (by decide)) rfl ?_
        refine wp_iload_n (i := 2) dX7_takeName_84 rfl rfl ?_
        refine wp_aload_n (i := 0) dX7_takeName_85 rfl rfl ?_
        refine wz_getIe (v := ((V a0 10) - (1 : Int32))) dX7_takeName_86 (st_0 ha0) (f7_24 _ (by decide)) rfl up2_s ?_
        refine wp_iload_n (i := 2) dX7_takeName_89 rfl rfl ?_
        refine wp_isub dX7_takeName_90 ?_
        obtain ⟨⟨z1, z2, z3, z4, z5⟩, hv⟩ := hv
        refine wz_copyI dX7_takeName_91 cp7_38 (st_tab ha0 (by decide)) (st_tab ha0 (by decide)) z1 z2 z3 z4 z5 (by decide) ?_
        obtain ⟨rfl, rfl⟩ := hv
        exact wp_return dX7_takeName_94 rfl rfl hq
      · replace hv := hv.2 q
        obtain ⟨rfl, rfl⟩ := hv
        exact wp_return dX7_takeName_52 rfl rfl hq
    · replace hv := hv.2 q
      refine wp_aload_n (i := 0) dX7_takeName_28 rfl rfl ?_
      refine wp_dupR dX7_takeName_29 ?_
      refine wz_getI dX7_takeName_30 (st_0 ha0) (f7_32 _ (by decide)) rfl ?_
      refine wp_iconst (v := 1) dX7_takeName_33 (by decide) ?_
      refine wp_iadd dX7_takeName_34 ?_
      refine wz_putI dX7_takeName_35 (st_0 ha0) (w7_32 _ (by decide)) rfl ?_
      refine wx_iinc (v := 1) (ls' := [(0, .ref a0), (1, .int x1), (2, .int (x2 + 1))]) dX7_takeName_38 rfl (by decide) (by decide) rfl ?_
      refine wp_goto 10 dX7_takeName_41 (by decide) ?_
      exact hv Q hq
theorem wX7_howMany_0 {a0 : Nat} {ci0 ky0 : Nat} (hK : StK K) (ha0 : IsSt K a0 ci0 ky0) (hc0 : ci0 ∈ [1, 7]) (hv : r = some (.int (V a0 10))) : Ev G d mX7_howMany 0 [(0, .ref a0)] (K, n, V, J, O) r (K, n, V, J, O) := by
  refine Ev.mk fun Q hq => ?_
  refine wp_aload_n (i := 0) dX7_howMany_0 rfl rfl ?_
  refine wz_getI dX7_howMany_1 (st_0 ha0) (f7_24 _ hc0) (sf_tab_10 hc0) ?_
  obtain rfl := hv
  exact wp_ireturn dX7_howMany_4 rfl rfl rfl hq
theorem wX7_nameIn_0 {a0 : Nat} {ci0 ky0 : Nat} {x1 : Int32} (hK : StK K) (ha0 : IsSt K a0 ci0 ky0) (hc0 : ci0 ∈ [1, 7]) (hv : (∃ (v1 : Int32), Ev G d mX11_isWithin 0 [(0, .int x1), (1, .int (0 : Int32)), (2, .int ((V a0 10) - (1 : Int32)))] (K, n, V, J, O) (some (.int v1)) (K, n, V, J, O) ∧ ((v1 = 0 → r = some (.int (-1 : Int32))) ∧ (¬ v1 = 0 → (vp_in x1 (tbN ci0) ∧ r = some (.int (V (a0 + 2) (x1).toNatClampNeg))))))) : Ev G (d + 1) mX7_nameIn 0 [(0, .ref a0), (1, .int x1)] (K, n, V, J, O) r (K, n, V, J, O) := by
  refine Ev.mk fun Q hq => ?_
  refine wp_iload_n (i := 1) dX7_nameIn_0 rfl rfl ?_
  refine wp_iconst (v := 0) dX7_nameIn_1 (by decide) ?_
  refine wp_aload_n (i := 0) dX7_nameIn_2 rfl rfl ?_
  refine wz_getI dX7_nameIn_3 (st_0 ha0) (f7_24 _ hc0) (sf_tab_10 hc0) ?_
  refine wp_iconst (v := 1) dX7_nameIn_6 (by decide) ?_
  refine wp_isub dX7_nameIn_7 ?_
  obtain ⟨v1, hE, hv⟩ := hv
  refine wz_callSN (vs := [.int x1, .int (0 : Int32), .int ((V a0 10) - (1 : Int32))]) (st := []) dX7_nameIn_8 k7_44 hE rfl (Nat.le_of_ble_eq_true rfl) (Nat.le_of_ble_eq_true rfl) ?_
  change wp _ _ _ _ _ [.int v1] _ _ _
  refine wp_if_eq 23 dX7_nameIn_11 (by decide) (fun q => ?_) (fun q => ?_)
  · replace hv := hv.1 q
    refine wp_iconst (v := -1) dX7_nameIn_23 (by decide) ?_
    obtain rfl := hv
    exact wp_ireturn dX7_nameIn_24 rfl rfl rfl hq
  · replace hv := hv.2 q
    refine wp_aload_n (i := 0) dX7_nameIn_14 rfl rfl ?_
    refine wz_getR (b := (a0 + 2)) dX7_nameIn_15 (st_0 ha0) (f7_15 _ hc0) (sf_tab_9 hc0) ?_
    refine wp_iload_n (i := 1) dX7_nameIn_18 rfl rfl ?_
    obtain ⟨z2, hv⟩ := hv
    refine wz_iaload dX7_nameIn_19 (st_tab ha0 hc0) z2 ?_
    refine wp_goto 24 dX7_nameIn_20 (by decide) ?_
    obtain rfl := hv
    exact wp_ireturn dX7_nameIn_24 rfl rfl rfl hq
theorem wX7_run_0 {a0 : Nat} {ky0 : Nat} {a1 : Nat} (hK : StK K) (ha0 : IsSt K a0 7 ky0) (hq1 : IsAk K a1) (hv : (∃ (v1 : Int32), Ev G d mX0_hasEqual 0 [(0, .ref a1), (1, .int (V a0 2))] (K, n, V, J, O) (some (.int v1)) (K, n, V, J, O) ∧ (∃ (v2 : Int32), Ev G d mX0_firstEqual 0 [(0, .ref a1), (1, .int (V a0 2))] (K, n, V, J, O) (some (.int v2)) (K, n, V, J, O) ∧ Ev G (d + 1) mX7_run 24 [(0, .ref a0), (1, .ref a1), (2, .int v1), (3, .int (v2 - v2 / (8 : Int32) * (8 : Int32))), (4, .int (0 : Int32))] (K, n, V, J, O) r (K, n, V', J, O)))) : Ev G (d + 1) mX7_run 0 [(0, .ref a0), (1, .ref a1)] (K, n, V, J, O) r (K, n, V', J, O) := by
  refine Ev.mk fun Q hq => ?_
  refine wp_aload_n (i := 1) dX7_run_0 rfl rfl ?_
  refine wp_aload_n (i := 0) dX7_run_1 rfl rfl ?_
  refine wz_getI dX7_run_2 (st_0 ha0) (f7_48 _ (by decide)) rfl ?_
  obtain ⟨v1, hE, hv⟩ := hv
  refine wz_callV (vs := [.int (V a0 2)]) (st := []) dX7_run_5 (ak_0 hq1) rfl k7_51_0 hE rfl (Nat.le_of_ble_eq_true rfl) (Nat.le_of_ble_eq_true rfl) ?_
  change wp _ _ _ _ _ [.int v1] _ _ _
  refine wx_istore_n (ls' := [(0, .ref a0), (1, .ref a1), (2, .int v1)]) (i := 2) dX7_run_8 rfl (by decide) rfl ?_
  refine wp_aload_n (i := 1) dX7_run_9 rfl rfl ?_
  refine wp_aload_n (i := 0) dX7_run_10 rfl rfl ?_
  refine wz_getI dX7_run_11 (st_0 ha0) (f7_48 _ (by decide)) rfl ?_
  obtain ⟨v2, hE, hv⟩ := hv
  refine wz_callV (vs := [.int (V a0 2)]) (st := []) dX7_run_14 (ak_0 hq1) rfl k7_57_0 hE rfl (Nat.le_of_ble_eq_true rfl) (Nat.le_of_ble_eq_true rfl) ?_
  change wp _ _ _ _ _ [.int v2] _ _ _
  refine wp_bipush (v := 8) dX7_run_17 (by decide) ?_
  refine wp_irem dX7_run_19 (by decide) ?_
  refine wx_istore_n (ls' := [(0, .ref a0), (1, .ref a1), (2, .int v1), (3, .int (v2 - v2 / (8 : Int32) * (8 : Int32)))]) (i := 3) dX7_run_20 rfl (by decide) rfl ?_
  refine wp_iconst (v := 0) dX7_run_21 (by decide) ?_
  refine wx_istore (ls' := [(0, .ref a0), (1, .ref a1), (2, .int v1), (3, .int (v2 - v2 / (8 : Int32) * (8 : Int32))), (4, .int (0 : Int32))]) dX7_run_22 (by decide) rfl ?_
  exact hv Q hq
theorem wX7_run_24 {a0 : Nat} {ky0 : Nat} {a1 : Nat} {x2 : Int32} {x3 : Int32} {x4 : Int32} (hK : StK K) (ha0 : IsSt K a0 7 ky0) (hq1 : IsAk K a1) (hv : (((V a0 10) ≤ x4 → (∃ (v1 : Int32), Ev G d mX0_result 0 [(0, .ref a1)] (K, n, V, J, O) (some (.int v1)) (K, n, V, J, O) ∧ (r = some (.int v1) ∧ V' = V))) ∧ (¬ (V a0 10) ≤ x4 → ((x2 = 0 → (vp_in x4 80 ∧ (∃ (V3 : SV), Ev G d mX0_see 0 [(0, .ref a1), (1, .ref 1), (2, .int ((up2 V a0 8 ((V a0 8) + (1 : Int32))) (a0 + 2) (x4).toNatClampNeg))] (K, n, (up2 V a0 8 ((V a0 8) + (1 : Int32))), J, O) none (K, n, V3, J, O) ∧ Ev G (d + 1) mX7_run 24 [(0, .ref a0), (1, .ref a1), (2, .int x2), (3, .int x3), (4, .int (x4 + 1))] (K, n, V3, J, O) r (K, n, V', J, O)))) ∧ (¬ x2 = 0 → (vp_in x4 80 ∧ (∃ (v5 : Int32), Ev G d mX7_bucketOf 0 [(0, .ref a0), (1, .int (V (a0 + 2) (x4).toNatClampNeg))] (K, n, V, J, O) (some (.int v5)) (K, n, V, J, O) ∧ ((v5 ≠ x3 → Ev G (d + 1) mX7_run 24 [(0, .ref a0), (1, .ref a1), (2, .int x2), (3, .int x3), (4, .int (x4 + 1))] (K, n, V, J, O) r (K, n, V', J, O)) ∧ (v5 = x3 → (vp_in x4 80 ∧ (∃ (V7 : SV), Ev G d mX0_see 0 [(0, .ref a1), (1, .ref 1), (2, .int ((up2 V a0 8 ((V a0 8) + (1 : Int32))) (a0 + 2) (x4).toNatClampNeg))] (K, n, (up2 V a0 8 ((V a0 8) + (1 : Int32))), J, O) none (K, n, V7, J, O) ∧ Ev G (d + 1) mX7_run 24 [(0, .ref a0), (1, .ref a1), (2, .int x2), (3, .int x3), (4, .int (x4 + 1))] (K, n, V7, J, O) r (K, n, V', J, O)))))))))))) : Ev G (d + 1) mX7_run 24 [(0, .ref a0), (1, .ref a1), (2, .int x2), (3, .int x3), (4, .int x4)] (K, n, V, J, O) r (K, n, V', J, O) := by
  refine Ev.mk fun Q hq => ?_
  refine wp_iload dX7_run_24 rfl ?_
  refine wp_aload_n (i := 0) dX7_run_26 rfl rfl ?_
  refine wz_getI dX7_run_27 (st_0 ha0) (f7_24 _ (by decide)) rfl ?_
  refine wp_icmp_ge 83 dX7_run_30 (by decide) (fun q => ?_) (fun q => ?_)
  · replace hv := hv.1 q
    refine wp_aload_n (i := 1) dX7_run_83 rfl rfl ?_
    obtain ⟨v1, hE, hv⟩ := hv
    refine wz_callV (vs := []) (st := []) dX7_run_84 (ak_0 hq1) rfl k7_68_0 hE rfl (Nat.le_of_ble_eq_true rfl) (Nat.le_of_ble_eq_true rfl) ?_
    change wp _ _ _ _ _ [.int v1] _ _ _
    obtain ⟨rfl, rfl⟩ := hv
    exact wp_ireturn dX7_run_87 rfl rfl rfl hq
  · replace hv := hv.2 q
    refine wp_iload_n (i := 2) dX7_run_33 rfl rfl ?_
    refine wp_if_eq 52 dX7_run_34 (by decide) (fun q => ?_) (fun q => ?_)
    · replace hv := hv.1 q
      refine wp_aload_n (i := 0) dX7_run_52 rfl rfl ?_
      refine wp_dupR dX7_run_53 ?_
      refine wz_getI dX7_run_54 (st_0 ha0) (f7_32 _ (by decide)) rfl ?_
      refine wp_iconst (v := 1) dX7_run_57 (by decide) ?_
      refine wp_iadd dX7_run_58 ?_
      refine wz_putI dX7_run_59 (st_0 ha0) (w7_32 _ (by decide)) rfl ?_
      refine wp_aload_n (i := 1) dX7_run_62 rfl rfl ?_
      refine wp_aload_n (i := 0) dX7_run_63 rfl rfl ?_
      refine wz_getR (b := 1) dX7_run_64 (st_0 ha0) (f7_60 _ (by decide)) rfl ?_
      refine wp_aload_n (i := 0) dX7_run_67 rfl rfl ?_
      refine wz_getR (b := (a0 + 2)) dX7_run_68 (st_0 ha0) (f7_15 _ (by decide)) rfl ?_
      refine wp_iload dX7_run_71 rfl ?_
      obtain ⟨z2, hv⟩ := hv
      refine wz_iaload dX7_run_73 (st_tab ha0 (by decide)) z2 ?_
      obtain ⟨V3, hE, hv⟩ := hv
      refine wz_callV (vs := [.ref 1, .int ((up2 V a0 8 ((V a0 8) + (1 : Int32))) (a0 + 2) (x4).toNatClampNeg)]) (st := []) dX7_run_74 (ak_0 hq1) rfl k7_64_0 hE rfl (Nat.le_of_ble_eq_true rfl) (Nat.le_of_ble_eq_true rfl) ?_
      change wp _ _ _ _ _ [] _ _ _
      refine wx_iinc (v := 1) (ls' := [(0, .ref a0), (1, .ref a1), (2, .int x2), (3, .int x3), (4, .int (x4 + 1))]) dX7_run_77 rfl (by decide) (by decide) rfl ?_
      refine wp_goto 24 dX7_run_80 (by decide) ?_
      exact hv Q hq
    · replace hv := hv.2 q
      refine wp_aload_n (i := 0) dX7_run_37 rfl rfl ?_
      refine wp_aload_n (i := 0) dX7_run_38 rfl rfl ?_
      refine wz_getR (b := (a0 + 2)) dX7_run_39 (st_0 ha0) (f7_15 _ (by decide)) rfl ?_
      refine wp_iload dX7_run_42 rfl ?_
      obtain ⟨z4, hv⟩ := hv
      refine wz_iaload dX7_run_44 (st_tab ha0 (by decide)) z4 ?_
      obtain ⟨v5, hE, hv⟩ := hv
      refine wz_callV (vs := [.int (V (a0 + 2) (x4).toNatClampNeg)]) (st := []) dX7_run_45 (st_0 ha0) rfl k7_28_7 hE rfl (Nat.le_of_ble_eq_true rfl) (Nat.le_of_ble_eq_true rfl) ?_
      change wp _ _ _ _ _ [.int v5] _ _ _
      refine wp_iload_n (i := 3) dX7_run_48 rfl rfl ?_
      refine wp_icmp_ne 77 dX7_run_49 (by decide) (fun q => ?_) (fun q => ?_)
      · replace hv := hv.1 q
        refine wx_iinc (v := 1) (ls' := [(0, .ref a0), (1, .ref a1), (2, .int x2), (3, .int x3), (4, .int (x4 + 1))]) dX7_run_77 rfl (by decide) (by decide) rfl ?_
        refine wp_goto 24 dX7_run_80 (by decide) ?_
        exact hv Q hq
      · replace hv := hv.2 q
        refine wp_aload_n (i := 0) dX7_run_52 rfl rfl ?_
        refine wp_dupR dX7_run_53 ?_
        refine wz_getI dX7_run_54 (st_0 ha0) (f7_32 _ (by decide)) rfl ?_
        refine wp_iconst (v := 1) dX7_run_57 (by decide) ?_
        refine wp_iadd dX7_run_58 ?_
        refine wz_putI dX7_run_59 (st_0 ha0) (w7_32 _ (by decide)) rfl ?_
        refine wp_aload_n (i := 1) dX7_run_62 rfl rfl ?_
        refine wp_aload_n (i := 0) dX7_run_63 rfl rfl ?_
        refine wz_getR (b := 1) dX7_run_64 (st_0 ha0) (f7_60 _ (by decide)) rfl ?_
        refine wp_aload_n (i := 0) dX7_run_67 rfl rfl ?_
        refine wz_getR (b := (a0 + 2)) dX7_run_68 (st_0 ha0) (f7_15 _ (by decide)) rfl ?_
        refine wp_iload dX7_run_71 rfl ?_
        obtain ⟨z6, hv⟩ := hv
        refine wz_iaload dX7_run_73 (st_tab ha0 (by decide)) z6 ?_
        obtain ⟨V7, hE, hv⟩ := hv
        refine wz_callV (vs := [.ref 1, .int ((up2 V a0 8 ((V a0 8) + (1 : Int32))) (a0 + 2) (x4).toNatClampNeg)]) (st := []) dX7_run_74 (ak_0 hq1) rfl k7_64_0 hE rfl (Nat.le_of_ble_eq_true rfl) (Nat.le_of_ble_eq_true rfl) ?_
        change wp _ _ _ _ _ [] _ _ _
        refine wx_iinc (v := 1) (ls' := [(0, .ref a0), (1, .ref a1), (2, .int x2), (3, .int x3), (4, .int (x4 + 1))]) dX7_run_77 rfl (by decide) (by decide) rfl ?_
        refine wp_goto 24 dX7_run_80 (by decide) ?_
        exact hv Q hq
theorem wX7_priceFor_0 {a0 : Nat} {ci0 ky0 : Nat} {a1 : Nat} {x2 : Int32} (hK : StK K) (ha0 : IsSt K a0 ci0 ky0) (hc0 : ci0 ∈ [1, 7]) (hq1 : IsAk K a1) (hv : (∃ (v1 : Int32), Ev G d mX0_hasEqual 0 [(0, .ref a1), (1, .int (V a0 2))] (K, n, V, J, O) (some (.int v1)) (K, n, V, J, O) ∧ ((v1 = 0 → r = some (.int x2)) ∧ (¬ v1 = 0 → r = some (.int ((x2 / (8 : Int32)) + (1 : Int32))))))) : Ev G (d + 1) mX7_priceFor 0 [(0, .ref a0), (1, .ref a1), (2, .int x2)] (K, n, V, J, O) r (K, n, V, J, O) := by
  refine Ev.mk fun Q hq => ?_
  refine wp_aload_n (i := 1) dX7_priceFor_0 rfl rfl ?_
  refine wp_aload_n (i := 0) dX7_priceFor_1 rfl rfl ?_
  refine wz_getI dX7_priceFor_2 (st_0 ha0) (f7_48 _ (sb_tab_all hc0)) rfl ?_
  obtain ⟨v1, hE, hv⟩ := hv
  refine wz_callV (vs := [.int (V a0 2)]) (st := []) dX7_priceFor_5 (ak_0 hq1) rfl k7_51_0 hE rfl (Nat.le_of_ble_eq_true rfl) (Nat.le_of_ble_eq_true rfl) ?_
  change wp _ _ _ _ _ [.int v1] _ _ _
  refine wp_if_eq 20 dX7_priceFor_8 (by decide) (fun q => ?_) (fun q => ?_)
  · replace hv := hv.1 q
    refine wp_iload_n (i := 2) dX7_priceFor_20 rfl rfl ?_
    obtain rfl := hv
    exact wp_ireturn dX7_priceFor_21 rfl rfl rfl hq
  · replace hv := hv.2 q
    refine wp_iload_n (i := 2) dX7_priceFor_11 rfl rfl ?_
    refine wp_bipush (v := 8) dX7_priceFor_12 (by decide) ?_
    refine wp_idiv dX7_priceFor_14 (by decide) ?_
    refine wp_iconst (v := 1) dX7_priceFor_15 (by decide) ?_
    refine wp_iadd dX7_priceFor_16 ?_
    refine wp_goto 21 dX7_priceFor_17 (by decide) ?_
    obtain rfl := hv
    exact wp_ireturn dX7_priceFor_21 rfl rfl rfl hq
theorem wX7_priceOfPut_0 {a0 : Nat} {ci0 ky0 : Nat} {x1 : Int32} (hK : StK K) (ha0 : IsSt K a0 ci0 ky0) (hc0 : ci0 ∈ [1, 7]) (hv : r = some (.int (1 : Int32))) : Ev G d mX7_priceOfPut 0 [(0, .ref a0), (1, .int x1)] (K, n, V, J, O) r (K, n, V, J, O) := by
  refine Ev.mk fun Q hq => ?_
  refine wp_iconst (v := 1) dX7_priceOfPut_0 (by decide) ?_
  obtain rfl := hv
  exact wp_ireturn dX7_priceOfPut_1 rfl rfl rfl hq
theorem wX7_finds_0 {a0 : Nat} {ci0 ky0 : Nat} {x1 : Int32} (hK : StK K) (ha0 : IsSt K a0 ci0 ky0) (hc0 : ci0 ∈ [1, 7]) (hv : (∃ (V1 : SV), Ev G d mX5_led 0 [(0, .ref a0), (1, .int (50 : Int32))] (K, n, V, J, O) none (K, n, V1, J, O) ∧ (∃ (v3 : Int32) (V2 : SV), Ev G d mX5_finds 0 [(0, .ref a0), (1, .int x1)] (K, n, V1, J, O) (some (.int v3)) (K, n, V2, J, O) ∧ (r = some (.int (v3 * (3 : Int32))) ∧ V' = V2)))) : Ev G (d + 1) mX7_finds 0 [(0, .ref a0), (1, .int x1)] (K, n, V, J, O) r (K, n, V', J, O) := by
  refine Ev.mk fun Q hq => ?_
  refine wp_aload_n (i := 0) dX7_finds_0 rfl rfl ?_
  refine wp_bipush (v := 50) dX7_finds_1 (by decide) ?_
  obtain ⟨V1, hE, hv⟩ := hv
  refine wz_callX (vs := [.int (50 : Int32)]) (st := []) dX7_finds_3 (st_0 ha0) (kx7_72 (vs7_72_tab hc0)).1 hE rfl (kx7_72 (vs7_72_tab hc0)).2 (Nat.le_of_ble_eq_true rfl) ?_
  change wp _ _ _ _ _ [] _ _ _
  refine wp_aload_n (i := 0) dX7_finds_6 rfl rfl ?_
  refine wp_iload_n (i := 1) dX7_finds_7 rfl rfl ?_
  obtain ⟨v3, V2, hE, hv⟩ := hv
  refine wz_callSU (vs := [.int x1]) (st := []) dX7_finds_8 (st_0 ha0) (acls_at (lt13 (sb_tab_all hc0))) su7_76 hE rfl (Nat.le_of_ble_eq_true rfl) (Nat.le_of_ble_eq_true rfl) ?_
  change wp _ _ _ _ _ [.int v3] _ _ _
  refine wp_iconst (v := 3) dX7_finds_11 (by decide) ?_
  refine wp_imul dX7_finds_12 ?_
  obtain ⟨rfl, rfl⟩ := hv
  exact wp_ireturn dX7_finds_13 rfl rfl rfl hq
theorem wX8_has_0 {x1 : Int32} (hK : StK K)  (hv : (∃ (v1 : Int32), Ev G d mX11_isWithin 0 [(0, .int x1), (1, .int (0 : Int32)), (2, .int ((V 1 2) - (1 : Int32)))] (K, n, V, J, O) (some (.int v1)) (K, n, V, J, O) ∧ ((v1 = 0 ∨ v1 = 1) ∧ r = some (.int v1)))) : Ev G (d + 1) mX8_has 0 [(0, .ref 1), (1, .int x1)] (K, n, V, J, O) r (K, n, V, J, O) := by
  refine Ev.mk fun Q hq => ?_
  refine wp_iload_n (i := 1) dX8_has_0 rfl rfl ?_
  refine wp_iconst (v := 0) dX8_has_1 (by decide) ?_
  refine wp_aload_n (i := 0) dX8_has_2 rfl rfl ?_
  refine wz_getI dX8_has_3 (k1 hK) (f8_41 _ (by decide)) rfl ?_
  refine wp_iconst (v := 1) dX8_has_6 (by decide) ?_
  refine wp_isub dX8_has_7 ?_
  obtain ⟨v1, hE, hv⟩ := hv
  refine wz_callSN (vs := [.int x1, .int (0 : Int32), .int ((V 1 2) - (1 : Int32))]) (st := []) dX8_has_8 k8_45 hE rfl (Nat.le_of_ble_eq_true rfl) (Nat.le_of_ble_eq_true rfl) ?_
  change wp _ _ _ _ _ [.int v1] _ _ _
  obtain ⟨z, hv⟩ := hv
  obtain rfl := hv
  exact wp_ireturn dX8_has_11 rfl (by rcases z with z | z <;> rw [z] <;> decide) rfl hq
theorem wX8_isIn_0 {x1 : Int32} (hK : StK K)  (hv : (vp_in x1 80 ∧ (((V 9 (x1).toNatClampNeg) ≠ (1000 : Int32) → r = some (.int (0 : Int32))) ∧ ((V 9 (x1).toNatClampNeg) = (1000 : Int32) → r = some (.int (1 : Int32)))))) : Ev G d mX8_isIn 0 [(0, .ref 1), (1, .int x1)] (K, n, V, J, O) r (K, n, V, J, O) := by
  refine Ev.mk fun Q hq => ?_
  refine wp_aload_n (i := 0) dX8_isIn_0 rfl rfl ?_
  refine wz_getR (b := 9) dX8_isIn_1 (k1 hK) (f8_23 _ (by decide)) rfl ?_
  refine wp_iload_n (i := 1) dX8_isIn_4 rfl rfl ?_
  obtain ⟨z1, hv⟩ := hv
  refine wz_iaload dX8_isIn_5 (k9 hK) z1 ?_
  refine wp_sipush (v := 1000) dX8_isIn_6 (by decide) ?_
  refine wp_icmp_ne 16 dX8_isIn_9 (by decide) (fun q => ?_) (fun q => ?_)
  · replace hv := hv.1 q
    refine wp_iconst (v := 0) dX8_isIn_16 (by decide) ?_
    obtain rfl := hv
    exact wp_ireturn dX8_isIn_17 rfl (by decide) rfl hq
  · replace hv := hv.2 q
    refine wp_iconst (v := 1) dX8_isIn_12 (by decide) ?_
    refine wp_goto 17 dX8_isIn_13 (by decide) ?_
    obtain rfl := hv
    exact wp_ireturn dX8_isIn_17 rfl (by decide) rfl hq
theorem wX8_value_0 {x1 : Int32} {x2 : Int32} (hK : StK K)  (hv : (vp_in x2 4 ∧ (vp_in x1 80 ∧ r = some (.int (V (4 + 1 + (x2).toNatClampNeg) (x1).toNatClampNeg))))) : Ev G d mX8_value 0 [(0, .ref 1), (1, .int x1), (2, .int x2)] (K, n, V, J, O) r (K, n, V, J, O) := by
  refine Ev.mk fun Q hq => ?_
  refine wp_aload_n (i := 0) dX8_value_0 rfl rfl ?_
  refine wz_getR (b := 4) dX8_value_1 (k1 hK) (f8_20 _ (by decide)) rfl ?_
  refine wp_iload_n (i := 2) dX8_value_4 rfl rfl ?_
  obtain ⟨z1, hv⟩ := hv
  refine wz_aaload (b := 4) dX8_value_5 (k4 hK) (by decide) z1 ?_
  refine wp_iload_n (i := 1) dX8_value_6 rfl rfl ?_
  obtain ⟨z2, hv⟩ := hv
  refine wz_iaload dX8_value_7 (kr4 hK (in_lt z1)) z2 ?_
  obtain rfl := hv
  exact wp_ireturn dX8_value_8 rfl rfl rfl hq
theorem wX8_countIn_0  (hK : StK K)  (hv : r = some (.int ((V 1 2) - (V 1 6)))) : Ev G d mX8_countIn 0 [(0, .ref 1)] (K, n, V, J, O) r (K, n, V, J, O) := by
  refine Ev.mk fun Q hq => ?_
  refine wp_aload_n (i := 0) dX8_countIn_0 rfl rfl ?_
  refine wz_getI dX8_countIn_1 (k1 hK) (f8_41 _ (by decide)) rfl ?_
  refine wp_aload_n (i := 0) dX8_countIn_4 rfl rfl ?_
  refine wz_getI dX8_countIn_5 (k1 hK) (f8_49 _ (by decide)) rfl ?_
  refine wp_isub dX8_countIn_8 ?_
  obtain rfl := hv
  exact wp_ireturn dX8_countIn_9 rfl rfl rfl hq
theorem wX8_sum_0 {x1 : Int32} (hK : StK K)  (hv : Ev G (d + 1) mX8_sum 4 [(0, .ref 1), (1, .int x1), (2, .int (0 : Int32)), (3, .int (0 : Int32))] (K, n, V, J, O) r (K, n, V, J, O)) : Ev G (d + 1) mX8_sum 0 [(0, .ref 1), (1, .int x1)] (K, n, V, J, O) r (K, n, V, J, O) := by
  refine Ev.mk fun Q hq => ?_
  refine wp_iconst (v := 0) dX8_sum_0 (by decide) ?_
  refine wx_istore_n (ls' := [(0, .ref 1), (1, .int x1), (2, .int (0 : Int32))]) (i := 2) dX8_sum_1 rfl (by decide) rfl ?_
  refine wp_iconst (v := 0) dX8_sum_2 (by decide) ?_
  refine wx_istore_n (ls' := [(0, .ref 1), (1, .int x1), (2, .int (0 : Int32)), (3, .int (0 : Int32))]) (i := 3) dX8_sum_3 rfl (by decide) rfl ?_
  exact hv Q hq
theorem wX8_sum_4 {x1 : Int32} {x2 : Int32} {x3 : Int32} (hK : StK K)  (hv : (((V 1 2) ≤ x3 → r = some (.int x2)) ∧ (¬ (V 1 2) ≤ x3 → (∃ (v1 : Int32), Ev G d mX8_isIn 0 [(0, .ref 1), (1, .int x3)] (K, n, V, J, O) (some (.int v1)) (K, n, V, J, O) ∧ ((v1 = 0 → Ev G (d + 1) mX8_sum 4 [(0, .ref 1), (1, .int x1), (2, .int (x2 + (0 : Int32))), (3, .int (x3 + 1))] (K, n, V, J, O) r (K, n, V, J, O)) ∧ (¬ v1 = 0 → (∃ (v2 : Int32), Ev G d mX8_value 0 [(0, .ref 1), (1, .int x3), (2, .int x1)] (K, n, V, J, O) (some (.int v2)) (K, n, V, J, O) ∧ Ev G (d + 1) mX8_sum 4 [(0, .ref 1), (1, .int x1), (2, .int (x2 + v2)), (3, .int (x3 + 1))] (K, n, V, J, O) r (K, n, V, J, O)))))))) : Ev G (d + 1) mX8_sum 4 [(0, .ref 1), (1, .int x1), (2, .int x2), (3, .int x3)] (K, n, V, J, O) r (K, n, V, J, O) := by
  refine Ev.mk fun Q hq => ?_
  refine wp_iload_n (i := 3) dX8_sum_4 rfl rfl ?_
  refine wp_aload_n (i := 0) dX8_sum_5 rfl rfl ?_
  refine wz_getI dX8_sum_6 (k1 hK) (f8_41 _ (by decide)) rfl ?_
  refine wp_icmp_ge 39 dX8_sum_9 (by decide) (fun q => ?_) (fun q => ?_)
  · replace hv := hv.1 q
    refine wp_iload_n (i := 2) dX8_sum_39 rfl rfl ?_
    obtain rfl := hv
    exact wp_ireturn dX8_sum_40 rfl rfl rfl hq
  · replace hv := hv.2 q
    refine wp_iload_n (i := 2) dX8_sum_12 rfl rfl ?_
    refine wp_aload_n (i := 0) dX8_sum_13 rfl rfl ?_
    refine wp_iload_n (i := 3) dX8_sum_14 rfl rfl ?_
    obtain ⟨v1, hE, hv⟩ := hv
    refine wz_callV (vs := [.int x3]) (st := [.int x2]) dX8_sum_15 (k1 hK) rfl k8_52_8 hE rfl (Nat.le_of_ble_eq_true rfl) (Nat.le_of_ble_eq_true rfl) ?_
    change wp _ _ _ _ _ [.int v1, .int x2] _ _ _
    refine wp_if_eq 30 dX8_sum_18 (by decide) (fun q => ?_) (fun q => ?_)
    · replace hv := hv.1 q
      refine wp_iconst (v := 0) dX8_sum_30 (by decide) ?_
      refine wp_iadd dX8_sum_31 ?_
      refine wx_istore_n (ls' := [(0, .ref 1), (1, .int x1), (2, .int (x2 + (0 : Int32))), (3, .int x3)]) (i := 2) dX8_sum_32 rfl (by decide) rfl ?_
      refine wx_iinc (v := 1) (ls' := [(0, .ref 1), (1, .int x1), (2, .int (x2 + (0 : Int32))), (3, .int (x3 + 1))]) dX8_sum_33 rfl (by decide) (by decide) rfl ?_
      refine wp_goto 4 dX8_sum_36 (by decide) ?_
      exact hv Q hq
    · replace hv := hv.2 q
      refine wp_aload_n (i := 0) dX8_sum_21 rfl rfl ?_
      refine wp_iload_n (i := 3) dX8_sum_22 rfl rfl ?_
      refine wp_iload_n (i := 1) dX8_sum_23 rfl rfl ?_
      obtain ⟨v2, hE, hv⟩ := hv
      refine wz_callV (vs := [.int x3, .int x1]) (st := [.int x2]) dX8_sum_24 (k1 hK) rfl k8_56_8 hE rfl (Nat.le_of_ble_eq_true rfl) (Nat.le_of_ble_eq_true rfl) ?_
      change wp _ _ _ _ _ [.int v2, .int x2] _ _ _
      refine wp_goto 31 dX8_sum_27 (by decide) ?_
      refine wp_iadd dX8_sum_31 ?_
      refine wx_istore_n (ls' := [(0, .ref 1), (1, .int x1), (2, .int (x2 + v2)), (3, .int x3)]) (i := 2) dX8_sum_32 rfl (by decide) rfl ?_
      refine wx_iinc (v := 1) (ls' := [(0, .ref 1), (1, .int x1), (2, .int (x2 + v2)), (3, .int (x3 + 1))]) dX8_sum_33 rfl (by decide) (by decide) rfl ?_
      refine wp_goto 4 dX8_sum_36 (by decide) ?_
      exact hv Q hq
theorem wX8_hasLikes_0 {x1 : Int32} (hK : StK K)  (hv : Ev G (d + 1) mX8_hasLikes 2 [(0, .ref 1), (1, .int x1), (2, .int (0 : Int32))] (K, n, V, J, O) r (K, n, V, J, O)) : Ev G (d + 1) mX8_hasLikes 0 [(0, .ref 1), (1, .int x1)] (K, n, V, J, O) r (K, n, V, J, O) := by
  refine Ev.mk fun Q hq => ?_
  refine wp_iconst (v := 0) dX8_hasLikes_0 (by decide) ?_
  refine wx_istore_n (ls' := [(0, .ref 1), (1, .int x1), (2, .int (0 : Int32))]) (i := 2) dX8_hasLikes_1 rfl (by decide) rfl ?_
  exact hv Q hq
theorem wX8_hasLikes_2 {x1 : Int32} {x2 : Int32} (hK : StK K)  (hv : (((V 1 2) ≤ x2 → r = some (.int (0 : Int32))) ∧ (¬ (V 1 2) ≤ x2 → (∃ (v1 : Int32), Ev G d mX8_isIn 0 [(0, .ref 1), (1, .int x2)] (K, n, V, J, O) (some (.int v1)) (K, n, V, J, O) ∧ ((v1 = 0 → Ev G (d + 1) mX8_hasLikes 2 [(0, .ref 1), (1, .int x1), (2, .int (x2 + 1))] (K, n, V, J, O) r (K, n, V, J, O)) ∧ (¬ v1 = 0 → (∃ (v2 : Int32), Ev G d mX8_value 0 [(0, .ref 1), (1, .int x2), (2, .int x1)] (K, n, V, J, O) (some (.int v2)) (K, n, V, J, O) ∧ (∃ (v3 : Int32), Ev G d mX8_hasAhead 0 [(0, .ref 1), (1, .int x2), (2, .int x1), (3, .int v2)] (K, n, V, J, O) (some (.int v3)) (K, n, V, J, O) ∧ ((v3 = 0 → Ev G (d + 1) mX8_hasLikes 2 [(0, .ref 1), (1, .int x1), (2, .int (x2 + 1))] (K, n, V, J, O) r (K, n, V, J, O)) ∧ (¬ v3 = 0 → r = some (.int (1 : Int32)))))))))))) : Ev G (d + 1) mX8_hasLikes 2 [(0, .ref 1), (1, .int x1), (2, .int x2)] (K, n, V, J, O) r (K, n, V, J, O) := by
  refine Ev.mk fun Q hq => ?_
  refine wp_iload_n (i := 2) dX8_hasLikes_2 rfl rfl ?_
  refine wp_aload_n (i := 0) dX8_hasLikes_3 rfl rfl ?_
  refine wz_getI dX8_hasLikes_4 (k1 hK) (f8_41 _ (by decide)) rfl ?_
  refine wp_icmp_ge 41 dX8_hasLikes_7 (by decide) (fun q => ?_) (fun q => ?_)
  · replace hv := hv.1 q
    refine wp_iconst (v := 0) dX8_hasLikes_41 (by decide) ?_
    obtain rfl := hv
    exact wp_ireturn dX8_hasLikes_42 rfl (by decide) rfl hq
  · replace hv := hv.2 q
    refine wp_aload_n (i := 0) dX8_hasLikes_10 rfl rfl ?_
    refine wp_iload_n (i := 2) dX8_hasLikes_11 rfl rfl ?_
    obtain ⟨v1, hE, hv⟩ := hv
    refine wz_callV (vs := [.int x2]) (st := []) dX8_hasLikes_12 (k1 hK) rfl k8_52_8 hE rfl (Nat.le_of_ble_eq_true rfl) (Nat.le_of_ble_eq_true rfl) ?_
    change wp _ _ _ _ _ [.int v1] _ _ _
    refine wp_if_eq 35 dX8_hasLikes_15 (by decide) (fun q => ?_) (fun q => ?_)
    · replace hv := hv.1 q
      refine wx_iinc (v := 1) (ls' := [(0, .ref 1), (1, .int x1), (2, .int (x2 + 1))]) dX8_hasLikes_35 rfl (by decide) (by decide) rfl ?_
      refine wp_goto 2 dX8_hasLikes_38 (by decide) ?_
      exact hv Q hq
    · replace hv := hv.2 q
      refine wp_aload_n (i := 0) dX8_hasLikes_18 rfl rfl ?_
      refine wp_iload_n (i := 2) dX8_hasLikes_19 rfl rfl ?_
      refine wp_iload_n (i := 1) dX8_hasLikes_20 rfl rfl ?_
      refine wp_aload_n (i := 0) dX8_hasLikes_21 rfl rfl ?_
      refine wp_iload_n (i := 2) dX8_hasLikes_22 rfl rfl ?_
      refine wp_iload_n (i := 1) dX8_hasLikes_23 rfl rfl ?_
      obtain ⟨v2, hE, hv⟩ := hv
      refine wz_callV (vs := [.int x2, .int x1]) (st := [.int x1, .int x2, .ref 1]) dX8_hasLikes_24 (k1 hK) rfl k8_56_8 hE rfl (Nat.le_of_ble_eq_true rfl) (Nat.le_of_ble_eq_true rfl) ?_
      change wp _ _ _ _ _ [.int v2, .int x1, .int x2, .ref 1] _ _ _
      obtain ⟨v3, hE, hv⟩ := hv
      refine wz_callV (vs := [.int x2, .int x1, .int v2]) (st := []) dX8_hasLikes_27 (k1 hK) rfl k8_60_8 hE rfl (Nat.le_of_ble_eq_true rfl) (Nat.le_of_ble_eq_true rfl) ?_
      change wp _ _ _ _ _ [.int v3] _ _ _
      refine wp_if_eq 35 dX8_hasLikes_30 (by decide) (fun q => ?_) (fun q => ?_)
      · replace hv := hv.1 q
        refine wx_iinc (v := 1) (ls' := [(0, .ref 1), (1, .int x1), (2, .int (x2 + 1))]) dX8_hasLikes_35 rfl (by decide) (by decide) rfl ?_
        refine wp_goto 2 dX8_hasLikes_38 (by decide) ?_
        exact hv Q hq
      · replace hv := hv.2 q
        refine wp_iconst (v := 1) dX8_hasLikes_33 (by decide) ?_
        obtain rfl := hv
        exact wp_ireturn dX8_hasLikes_34 rfl (by decide) rfl hq
theorem wX8_hasAhead_0 {x1 : Int32} {x2 : Int32} {x3 : Int32} (hK : StK K)  (hv : Ev G (d + 1) mX8_hasAhead 3 [(0, .ref 1), (1, .int x1), (2, .int x2), (3, .int x3), (4, .int (0 : Int32))] (K, n, V, J, O) r (K, n, V, J, O)) : Ev G (d + 1) mX8_hasAhead 0 [(0, .ref 1), (1, .int x1), (2, .int x2), (3, .int x3)] (K, n, V, J, O) r (K, n, V, J, O) := by
  refine Ev.mk fun Q hq => ?_
  refine wp_iconst (v := 0) dX8_hasAhead_0 (by decide) ?_
  refine wx_istore (ls' := [(0, .ref 1), (1, .int x1), (2, .int x2), (3, .int x3), (4, .int (0 : Int32))]) dX8_hasAhead_1 (by decide) rfl ?_
  exact hv Q hq
theorem wX8_hasAhead_3 {x1 : Int32} {x2 : Int32} {x3 : Int32} {x4 : Int32} (hK : StK K)  (hv : ((x1 ≤ x4 → r = some (.int (0 : Int32))) ∧ (¬ x1 ≤ x4 → (∃ (v1 : Int32), Ev G d mX8_isIn 0 [(0, .ref 1), (1, .int x4)] (K, n, V, J, O) (some (.int v1)) (K, n, V, J, O) ∧ ((v1 = 0 → Ev G (d + 1) mX8_hasAhead 3 [(0, .ref 1), (1, .int x1), (2, .int x2), (3, .int x3), (4, .int (x4 + 1))] (K, n, V, J, O) r (K, n, V, J, O)) ∧ (¬ v1 = 0 → (∃ (v2 : Int32), Ev G d mX8_value 0 [(0, .ref 1), (1, .int x4), (2, .int x2)] (K, n, V, J, O) (some (.int v2)) (K, n, V, J, O) ∧ ((v2 ≠ x3 → Ev G (d + 1) mX8_hasAhead 3 [(0, .ref 1), (1, .int x1), (2, .int x2), (3, .int x3), (4, .int (x4 + 1))] (K, n, V, J, O) r (K, n, V, J, O)) ∧ (v2 = x3 → r = some (.int (1 : Int32))))))))))) : Ev G (d + 1) mX8_hasAhead 3 [(0, .ref 1), (1, .int x1), (2, .int x2), (3, .int x3), (4, .int x4)] (K, n, V, J, O) r (K, n, V, J, O) := by
  refine Ev.mk fun Q hq => ?_
  refine wp_iload dX8_hasAhead_3 rfl ?_
  refine wp_iload_n (i := 1) dX8_hasAhead_5 rfl rfl ?_
  refine wp_icmp_ge 37 dX8_hasAhead_6 (by decide) (fun q => ?_) (fun q => ?_)
  · replace hv := hv.1 q
    refine wp_iconst (v := 0) dX8_hasAhead_37 (by decide) ?_
    obtain rfl := hv
    exact wp_ireturn dX8_hasAhead_38 rfl (by decide) rfl hq
  · replace hv := hv.2 q
    refine wp_aload_n (i := 0) dX8_hasAhead_9 rfl rfl ?_
    refine wp_iload dX8_hasAhead_10 rfl ?_
    obtain ⟨v1, hE, hv⟩ := hv
    refine wz_callV (vs := [.int x4]) (st := []) dX8_hasAhead_12 (k1 hK) rfl k8_52_8 hE rfl (Nat.le_of_ble_eq_true rfl) (Nat.le_of_ble_eq_true rfl) ?_
    change wp _ _ _ _ _ [.int v1] _ _ _
    refine wp_if_eq 31 dX8_hasAhead_15 (by decide) (fun q => ?_) (fun q => ?_)
    · replace hv := hv.1 q
      refine wx_iinc (v := 1) (ls' := [(0, .ref 1), (1, .int x1), (2, .int x2), (3, .int x3), (4, .int (x4 + 1))]) dX8_hasAhead_31 rfl (by decide) (by decide) rfl ?_
      refine wp_goto 3 dX8_hasAhead_34 (by decide) ?_
      exact hv Q hq
    · replace hv := hv.2 q
      refine wp_aload_n (i := 0) dX8_hasAhead_18 rfl rfl ?_
      refine wp_iload dX8_hasAhead_19 rfl ?_
      refine wp_iload_n (i := 2) dX8_hasAhead_21 rfl rfl ?_
      obtain ⟨v2, hE, hv⟩ := hv
      refine wz_callV (vs := [.int x4, .int x2]) (st := []) dX8_hasAhead_22 (k1 hK) rfl k8_56_8 hE rfl (Nat.le_of_ble_eq_true rfl) (Nat.le_of_ble_eq_true rfl) ?_
      change wp _ _ _ _ _ [.int v2] _ _ _
      refine wp_iload_n (i := 3) dX8_hasAhead_25 rfl rfl ?_
      refine wp_icmp_ne 31 dX8_hasAhead_26 (by decide) (fun q => ?_) (fun q => ?_)
      · replace hv := hv.1 q
        refine wx_iinc (v := 1) (ls' := [(0, .ref 1), (1, .int x1), (2, .int x2), (3, .int x3), (4, .int (x4 + 1))]) dX8_hasAhead_31 rfl (by decide) (by decide) rfl ?_
        refine wp_goto 3 dX8_hasAhead_34 (by decide) ?_
        exact hv Q hq
      · replace hv := hv.2 q
        refine wp_iconst (v := 1) dX8_hasAhead_29 (by decide) ?_
        obtain rfl := hv
        exact wp_ireturn dX8_hasAhead_30 rfl (by decide) rfl hq
theorem wX8_wouldBreak_0 {x1 : Int32} {x2 : Int32} (hK : StK K)  (hv : (vp_in x1 4 ∧ (((V 2 (x1).toNatClampNeg) ≠ (1 : Int32) → (vp_in x1 4 ∧ (((V 3 (x1).toNatClampNeg) = (-1 : Int32) → r = some (.int (0 : Int32))) ∧ (¬ (V 3 (x1).toNatClampNeg) = (-1 : Int32) → (∃ (v3 : Int32), Ev G d mX8_sum 0 [(0, .ref 1), (1, .int x1)] (K, n, V, J, O) (some (.int v3)) (K, n, V, J, O) ∧ (vp_in x1 4 ∧ (((v3 + x2) ≤ (V 3 (x1).toNatClampNeg) → r = some (.int (0 : Int32))) ∧ (¬ (v3 + x2) ≤ (V 3 (x1).toNatClampNeg) → r = some (.int (1 : Int32)))))))))) ∧ ((V 2 (x1).toNatClampNeg) = (1 : Int32) → (∃ (v5 : Int32), Ev G d mX8_hasAhead 0 [(0, .ref 1), (1, .int (V 1 2)), (2, .int x1), (3, .int x2)] (K, n, V, J, O) (some (.int v5)) (K, n, V, J, O) ∧ ((v5 = 0 → (vp_in x1 4 ∧ (((V 3 (x1).toNatClampNeg) = (-1 : Int32) → r = some (.int (0 : Int32))) ∧ (¬ (V 3 (x1).toNatClampNeg) = (-1 : Int32) → (∃ (v7 : Int32), Ev G d mX8_sum 0 [(0, .ref 1), (1, .int x1)] (K, n, V, J, O) (some (.int v7)) (K, n, V, J, O) ∧ (vp_in x1 4 ∧ (((v7 + x2) ≤ (V 3 (x1).toNatClampNeg) → r = some (.int (0 : Int32))) ∧ (¬ (v7 + x2) ≤ (V 3 (x1).toNatClampNeg) → r = some (.int (1 : Int32)))))))))) ∧ (¬ v5 = 0 → r = some (.int (1 : Int32))))))))) : Ev G (d + 1) mX8_wouldBreak 0 [(0, .ref 1), (1, .int x1), (2, .int x2)] (K, n, V, J, O) r (K, n, V, J, O) := by
  refine Ev.mk fun Q hq => ?_
  refine wp_aload_n (i := 0) dX8_wouldBreak_0 rfl rfl ?_
  refine wz_getR (b := 2) dX8_wouldBreak_1 (k1 hK) (f8_9 _ (by decide)) rfl ?_
  refine wp_iload_n (i := 1) dX8_wouldBreak_4 rfl rfl ?_
  obtain ⟨z1, hv⟩ := hv
  refine wz_iaload dX8_wouldBreak_5 (k2 hK) z1 ?_
  refine wp_iconst (v := 1) dX8_wouldBreak_6 (by decide) ?_
  refine wp_icmp_ne 25 dX8_wouldBreak_7 (by decide) (fun q => ?_) (fun q => ?_)
  · replace hv := hv.1 q
    refine wp_aload_n (i := 0) dX8_wouldBreak_25 rfl rfl ?_
    refine wz_getR (b := 3) dX8_wouldBreak_26 (k1 hK) (f8_15 _ (by decide)) rfl ?_
    refine wp_iload_n (i := 1) dX8_wouldBreak_29 rfl rfl ?_
    obtain ⟨z2, hv⟩ := hv
    refine wz_iaload dX8_wouldBreak_30 (k3 hK) z2 ?_
    refine wp_iconst (v := -1) dX8_wouldBreak_31 (by decide) ?_
    refine wp_icmp_eq 55 dX8_wouldBreak_32 (by decide) (fun q => ?_) (fun q => ?_)
    · replace hv := hv.1 q
      refine wp_iconst (v := 0) dX8_wouldBreak_55 (by decide) ?_
      obtain rfl := hv
      exact wp_ireturn dX8_wouldBreak_56 rfl (by decide) rfl hq
    · replace hv := hv.2 q
      refine wp_aload_n (i := 0) dX8_wouldBreak_35 rfl rfl ?_
      refine wp_iload_n (i := 1) dX8_wouldBreak_36 rfl rfl ?_
      obtain ⟨v3, hE, hv⟩ := hv
      refine wz_callV (vs := [.int x1]) (st := []) dX8_wouldBreak_37 (k1 hK) rfl k8_63_8 hE rfl (Nat.le_of_ble_eq_true rfl) (Nat.le_of_ble_eq_true rfl) ?_
      change wp _ _ _ _ _ [.int v3] _ _ _
      refine wp_iload_n (i := 2) dX8_wouldBreak_40 rfl rfl ?_
      refine wp_iadd dX8_wouldBreak_41 ?_
      refine wp_aload_n (i := 0) dX8_wouldBreak_42 rfl rfl ?_
      refine wz_getR (b := 3) dX8_wouldBreak_43 (k1 hK) (f8_15 _ (by decide)) rfl ?_
      refine wp_iload_n (i := 1) dX8_wouldBreak_46 rfl rfl ?_
      obtain ⟨z4, hv⟩ := hv
      refine wz_iaload dX8_wouldBreak_47 (k3 hK) z4 ?_
      refine wp_icmp_le 55 dX8_wouldBreak_48 (by decide) (fun q => ?_) (fun q => ?_)
      · replace hv := hv.1 q
        refine wp_iconst (v := 0) dX8_wouldBreak_55 (by decide) ?_
        obtain rfl := hv
        exact wp_ireturn dX8_wouldBreak_56 rfl (by decide) rfl hq
      · replace hv := hv.2 q
        refine wp_iconst (v := 1) dX8_wouldBreak_51 (by decide) ?_
        refine wp_goto 56 dX8_wouldBreak_52 (by decide) ?_
        obtain rfl := hv
        exact wp_ireturn dX8_wouldBreak_56 rfl (by decide) rfl hq
  · replace hv := hv.2 q
    refine wp_aload_n (i := 0) dX8_wouldBreak_10 rfl rfl ?_
    refine wp_aload_n (i := 0) dX8_wouldBreak_11 rfl rfl ?_
    refine wz_getI dX8_wouldBreak_12 (k1 hK) (f8_41 _ (by decide)) rfl ?_
    refine wp_iload_n (i := 1) dX8_wouldBreak_15 rfl rfl ?_
    refine wp_iload_n (i := 2) dX8_wouldBreak_16 rfl rfl ?_
    obtain ⟨v5, hE, hv⟩ := hv
    refine wz_callV (vs := [.int (V 1 2), .int x1, .int x2]) (st := []) dX8_wouldBreak_17 (k1 hK) rfl k8_60_8 hE rfl (Nat.le_of_ble_eq_true rfl) (Nat.le_of_ble_eq_true rfl) ?_
    change wp _ _ _ _ _ [.int v5] _ _ _
    refine wp_if_eq 25 dX8_wouldBreak_20 (by decide) (fun q => ?_) (fun q => ?_)
    · replace hv := hv.1 q
      refine wp_aload_n (i := 0) dX8_wouldBreak_25 rfl rfl ?_
      refine wz_getR (b := 3) dX8_wouldBreak_26 (k1 hK) (f8_15 _ (by decide)) rfl ?_
      refine wp_iload_n (i := 1) dX8_wouldBreak_29 rfl rfl ?_
      obtain ⟨z6, hv⟩ := hv
      refine wz_iaload dX8_wouldBreak_30 (k3 hK) z6 ?_
      refine wp_iconst (v := -1) dX8_wouldBreak_31 (by decide) ?_
      refine wp_icmp_eq 55 dX8_wouldBreak_32 (by decide) (fun q => ?_) (fun q => ?_)
      · replace hv := hv.1 q
        refine wp_iconst (v := 0) dX8_wouldBreak_55 (by decide) ?_
        obtain rfl := hv
        exact wp_ireturn dX8_wouldBreak_56 rfl (by decide) rfl hq
      · replace hv := hv.2 q
        refine wp_aload_n (i := 0) dX8_wouldBreak_35 rfl rfl ?_
        refine wp_iload_n (i := 1) dX8_wouldBreak_36 rfl rfl ?_
        obtain ⟨v7, hE, hv⟩ := hv
        refine wz_callV (vs := [.int x1]) (st := []) dX8_wouldBreak_37 (k1 hK) rfl k8_63_8 hE rfl (Nat.le_of_ble_eq_true rfl) (Nat.le_of_ble_eq_true rfl) ?_
        change wp _ _ _ _ _ [.int v7] _ _ _
        refine wp_iload_n (i := 2) dX8_wouldBreak_40 rfl rfl ?_
        refine wp_iadd dX8_wouldBreak_41 ?_
        refine wp_aload_n (i := 0) dX8_wouldBreak_42 rfl rfl ?_
        refine wz_getR (b := 3) dX8_wouldBreak_43 (k1 hK) (f8_15 _ (by decide)) rfl ?_
        refine wp_iload_n (i := 1) dX8_wouldBreak_46 rfl rfl ?_
        obtain ⟨z8, hv⟩ := hv
        refine wz_iaload dX8_wouldBreak_47 (k3 hK) z8 ?_
        refine wp_icmp_le 55 dX8_wouldBreak_48 (by decide) (fun q => ?_) (fun q => ?_)
        · replace hv := hv.1 q
          refine wp_iconst (v := 0) dX8_wouldBreak_55 (by decide) ?_
          obtain rfl := hv
          exact wp_ireturn dX8_wouldBreak_56 rfl (by decide) rfl hq
        · replace hv := hv.2 q
          refine wp_iconst (v := 1) dX8_wouldBreak_51 (by decide) ?_
          refine wp_goto 56 dX8_wouldBreak_52 (by decide) ?_
          obtain rfl := hv
          exact wp_ireturn dX8_wouldBreak_56 rfl (by decide) rfl hq
    · replace hv := hv.2 q
      refine wp_iconst (v := 1) dX8_wouldBreak_23 (by decide) ?_
      obtain rfl := hv
      exact wp_ireturn dX8_wouldBreak_24 rfl (by decide) rfl hq
theorem wX8_add_0 {x1 : Int32} {x2 : Int32} {x3 : Int32} {x4 : Int32} (hK : StK K)  (hv : (vp_in (0 : Int32) 4 ∧ (vp_in (V 1 2) 80 ∧ (vp_in (1 : Int32) 4 ∧ (vp_in ((up2 V (4 + 1 + ((0 : Int32)).toNatClampNeg) ((V 1 2)).toNatClampNeg x1) 1 2) 80 ∧ (vp_in (2 : Int32) 4 ∧ (vp_in ((up2 (up2 V (4 + 1 + ((0 : Int32)).toNatClampNeg) ((V 1 2)).toNatClampNeg x1) (4 + 1 + ((1 : Int32)).toNatClampNeg) (((up2 V (4 + 1 + ((0 : Int32)).toNatClampNeg) ((V 1 2)).toNatClampNeg x1) 1 2)).toNatClampNeg x2) 1 2) 80 ∧ (vp_in (3 : Int32) 4 ∧ (vp_in ((up2 (up2 (up2 V (4 + 1 + ((0 : Int32)).toNatClampNeg) ((V 1 2)).toNatClampNeg x1) (4 + 1 + ((1 : Int32)).toNatClampNeg) (((up2 V (4 + 1 + ((0 : Int32)).toNatClampNeg) ((V 1 2)).toNatClampNeg x1) 1 2)).toNatClampNeg x2) (4 + 1 + ((2 : Int32)).toNatClampNeg) (((up2 (up2 V (4 + 1 + ((0 : Int32)).toNatClampNeg) ((V 1 2)).toNatClampNeg x1) (4 + 1 + ((1 : Int32)).toNatClampNeg) (((up2 V (4 + 1 + ((0 : Int32)).toNatClampNeg) ((V 1 2)).toNatClampNeg x1) 1 2)).toNatClampNeg x2) 1 2)).toNatClampNeg x3) 1 2) 80 ∧ (vp_in ((up2 (up2 (up2 (up2 V (4 + 1 + ((0 : Int32)).toNatClampNeg) ((V 1 2)).toNatClampNeg x1) (4 + 1 + ((1 : Int32)).toNatClampNeg) (((up2 V (4 + 1 + ((0 : Int32)).toNatClampNeg) ((V 1 2)).toNatClampNeg x1) 1 2)).toNatClampNeg x2) (4 + 1 + ((2 : Int32)).toNatClampNeg) (((up2 (up2 V (4 + 1 + ((0 : Int32)).toNatClampNeg) ((V 1 2)).toNatClampNeg x1) (4 + 1 + ((1 : Int32)).toNatClampNeg) (((up2 V (4 + 1 + ((0 : Int32)).toNatClampNeg) ((V 1 2)).toNatClampNeg x1) 1 2)).toNatClampNeg x2) 1 2)).toNatClampNeg x3) (4 + 1 + ((3 : Int32)).toNatClampNeg) (((up2 (up2 (up2 V (4 + 1 + ((0 : Int32)).toNatClampNeg) ((V 1 2)).toNatClampNeg x1) (4 + 1 + ((1 : Int32)).toNatClampNeg) (((up2 V (4 + 1 + ((0 : Int32)).toNatClampNeg) ((V 1 2)).toNatClampNeg x1) 1 2)).toNatClampNeg x2) (4 + 1 + ((2 : Int32)).toNatClampNeg) (((up2 (up2 V (4 + 1 + ((0 : Int32)).toNatClampNeg) ((V 1 2)).toNatClampNeg x1) (4 + 1 + ((1 : Int32)).toNatClampNeg) (((up2 V (4 + 1 + ((0 : Int32)).toNatClampNeg) ((V 1 2)).toNatClampNeg x1) 1 2)).toNatClampNeg x2) 1 2)).toNatClampNeg x3) 1 2)).toNatClampNeg x4) 1 2) 80 ∧ (r = some (.int ((((up2 (up2 (up2 (up2 V (4 + 1 + ((0 : Int32)).toNatClampNeg) ((V 1 2)).toNatClampNeg x1) (4 + 1 + ((1 : Int32)).toNatClampNeg) (((up2 V (4 + 1 + ((0 : Int32)).toNatClampNeg) ((V 1 2)).toNatClampNeg x1) 1 2)).toNatClampNeg x2) (4 + 1 + ((2 : Int32)).toNatClampNeg) (((up2 (up2 V (4 + 1 + ((0 : Int32)).toNatClampNeg) ((V 1 2)).toNatClampNeg x1) (4 + 1 + ((1 : Int32)).toNatClampNeg) (((up2 V (4 + 1 + ((0 : Int32)).toNatClampNeg) ((V 1 2)).toNatClampNeg x1) 1 2)).toNatClampNeg x2) 1 2)).toNatClampNeg x3) (4 + 1 + ((3 : Int32)).toNatClampNeg) (((up2 (up2 (up2 V (4 + 1 + ((0 : Int32)).toNatClampNeg) ((V 1 2)).toNatClampNeg x1) (4 + 1 + ((1 : Int32)).toNatClampNeg) (((up2 V (4 + 1 + ((0 : Int32)).toNatClampNeg) ((V 1 2)).toNatClampNeg x1) 1 2)).toNatClampNeg x2) (4 + 1 + ((2 : Int32)).toNatClampNeg) (((up2 (up2 V (4 + 1 + ((0 : Int32)).toNatClampNeg) ((V 1 2)).toNatClampNeg x1) (4 + 1 + ((1 : Int32)).toNatClampNeg) (((up2 V (4 + 1 + ((0 : Int32)).toNatClampNeg) ((V 1 2)).toNatClampNeg x1) 1 2)).toNatClampNeg x2) 1 2)).toNatClampNeg x3) 1 2)).toNatClampNeg x4) 1 2) + (1 : Int32)) - (1 : Int32))) ∧ V' = (up2 (up2 (up2 (up2 (up2 (up2 V (4 + 1 + ((0 : Int32)).toNatClampNeg) ((V 1 2)).toNatClampNeg x1) (4 + 1 + ((1 : Int32)).toNatClampNeg) (((up2 V (4 + 1 + ((0 : Int32)).toNatClampNeg) ((V 1 2)).toNatClampNeg x1) 1 2)).toNatClampNeg x2) (4 + 1 + ((2 : Int32)).toNatClampNeg) (((up2 (up2 V (4 + 1 + ((0 : Int32)).toNatClampNeg) ((V 1 2)).toNatClampNeg x1) (4 + 1 + ((1 : Int32)).toNatClampNeg) (((up2 V (4 + 1 + ((0 : Int32)).toNatClampNeg) ((V 1 2)).toNatClampNeg x1) 1 2)).toNatClampNeg x2) 1 2)).toNatClampNeg x3) (4 + 1 + ((3 : Int32)).toNatClampNeg) (((up2 (up2 (up2 V (4 + 1 + ((0 : Int32)).toNatClampNeg) ((V 1 2)).toNatClampNeg x1) (4 + 1 + ((1 : Int32)).toNatClampNeg) (((up2 V (4 + 1 + ((0 : Int32)).toNatClampNeg) ((V 1 2)).toNatClampNeg x1) 1 2)).toNatClampNeg x2) (4 + 1 + ((2 : Int32)).toNatClampNeg) (((up2 (up2 V (4 + 1 + ((0 : Int32)).toNatClampNeg) ((V 1 2)).toNatClampNeg x1) (4 + 1 + ((1 : Int32)).toNatClampNeg) (((up2 V (4 + 1 + ((0 : Int32)).toNatClampNeg) ((V 1 2)).toNatClampNeg x1) 1 2)).toNatClampNeg x2) 1 2)).toNatClampNeg x3) 1 2)).toNatClampNeg x4) 9 (((up2 (up2 (up2 (up2 V (4 + 1 + ((0 : Int32)).toNatClampNeg) ((V 1 2)).toNatClampNeg x1) (4 + 1 + ((1 : Int32)).toNatClampNeg) (((up2 V (4 + 1 + ((0 : Int32)).toNatClampNeg) ((V 1 2)).toNatClampNeg x1) 1 2)).toNatClampNeg x2) (4 + 1 + ((2 : Int32)).toNatClampNeg) (((up2 (up2 V (4 + 1 + ((0 : Int32)).toNatClampNeg) ((V 1 2)).toNatClampNeg x1) (4 + 1 + ((1 : Int32)).toNatClampNeg) (((up2 V (4 + 1 + ((0 : Int32)).toNatClampNeg) ((V 1 2)).toNatClampNeg x1) 1 2)).toNatClampNeg x2) 1 2)).toNatClampNeg x3) (4 + 1 + ((3 : Int32)).toNatClampNeg) (((up2 (up2 (up2 V (4 + 1 + ((0 : Int32)).toNatClampNeg) ((V 1 2)).toNatClampNeg x1) (4 + 1 + ((1 : Int32)).toNatClampNeg) (((up2 V (4 + 1 + ((0 : Int32)).toNatClampNeg) ((V 1 2)).toNatClampNeg x1) 1 2)).toNatClampNeg x2) (4 + 1 + ((2 : Int32)).toNatClampNeg) (((up2 (up2 V (4 + 1 + ((0 : Int32)).toNatClampNeg) ((V 1 2)).toNatClampNeg x1) (4 + 1 + ((1 : Int32)).toNatClampNeg) (((up2 V (4 + 1 + ((0 : Int32)).toNatClampNeg) ((V 1 2)).toNatClampNeg x1) 1 2)).toNatClampNeg x2) 1 2)).toNatClampNeg x3) 1 2)).toNatClampNeg x4) 1 2)).toNatClampNeg (1000 : Int32)) 1 2 (((up2 (up2 (up2 (up2 V (4 + 1 + ((0 : Int32)).toNatClampNeg) ((V 1 2)).toNatClampNeg x1) (4 + 1 + ((1 : Int32)).toNatClampNeg) (((up2 V (4 + 1 + ((0 : Int32)).toNatClampNeg) ((V 1 2)).toNatClampNeg x1) 1 2)).toNatClampNeg x2) (4 + 1 + ((2 : Int32)).toNatClampNeg) (((up2 (up2 V (4 + 1 + ((0 : Int32)).toNatClampNeg) ((V 1 2)).toNatClampNeg x1) (4 + 1 + ((1 : Int32)).toNatClampNeg) (((up2 V (4 + 1 + ((0 : Int32)).toNatClampNeg) ((V 1 2)).toNatClampNeg x1) 1 2)).toNatClampNeg x2) 1 2)).toNatClampNeg x3) (4 + 1 + ((3 : Int32)).toNatClampNeg) (((up2 (up2 (up2 V (4 + 1 + ((0 : Int32)).toNatClampNeg) ((V 1 2)).toNatClampNeg x1) (4 + 1 + ((1 : Int32)).toNatClampNeg) (((up2 V (4 + 1 + ((0 : Int32)).toNatClampNeg) ((V 1 2)).toNatClampNeg x1) 1 2)).toNatClampNeg x2) (4 + 1 + ((2 : Int32)).toNatClampNeg) (((up2 (up2 V (4 + 1 + ((0 : Int32)).toNatClampNeg) ((V 1 2)).toNatClampNeg x1) (4 + 1 + ((1 : Int32)).toNatClampNeg) (((up2 V (4 + 1 + ((0 : Int32)).toNatClampNeg) ((V 1 2)).toNatClampNeg x1) 1 2)).toNatClampNeg x2) 1 2)).toNatClampNeg x3) 1 2)).toNatClampNeg x4) 1 2) + (1 : Int32)))))))))))))) : Ev G d mX8_add 0 [(0, .ref 1), (1, .int x1), (2, .int x2), (3, .int x3), (4, .int x4)] (K, n, V, J, O) r (K, n, V', J, O) := by
  refine Ev.mk fun Q hq => ?_
  refine wp_aload_n (i := 0) dX8_add_0 rfl rfl ?_
  refine wz_getR (b := 4) dX8_add_1 (k1 hK) (f8_20 _ (by decide)) rfl ?_
  refine wp_iconst (v := 0) dX8_add_4 (by decide) ?_
  obtain ⟨z1, hv⟩ := hv
  refine wz_aaload (b := 4) dX8_add_5 (k4 hK) (by decide) z1 ?_
  refine wp_aload_n (i := 0) dX8_add_6 rfl rfl ?_
  refine wz_getI dX8_add_7 (k1 hK) (f8_41 _ (by decide)) rfl ?_
  refine wp_iload_n (i := 1) dX8_add_10 rfl rfl ?_
  obtain ⟨z2, hv⟩ := hv
  refine wz_iastore dX8_add_11 (kr4 hK (in_lt z1)) z2 ?_
  refine wp_aload_n (i := 0) dX8_add_12 rfl rfl ?_
  refine wz_getR (b := 4) dX8_add_13 (k1 hK) (f8_20 _ (by decide)) rfl ?_
  refine wp_iconst (v := 1) dX8_add_16 (by decide) ?_
  obtain ⟨z3, hv⟩ := hv
  refine wz_aaload (b := 4) dX8_add_17 (k4 hK) (by decide) z3 ?_
  refine wp_aload_n (i := 0) dX8_add_18 rfl rfl ?_
  refine wz_getI dX8_add_19 (k1 hK) (f8_41 _ (by decide)) rfl ?_
  refine wp_iload_n (i := 2) dX8_add_22 rfl rfl ?_
  obtain ⟨z4, hv⟩ := hv
  refine wz_iastore dX8_add_23 (kr4 hK (in_lt z3)) z4 ?_
  refine wp_aload_n (i := 0) dX8_add_24 rfl rfl ?_
  refine wz_getR (b := 4) dX8_add_25 (k1 hK) (f8_20 _ (by decide)) rfl ?_
  refine wp_iconst (v := 2) dX8_add_28 (by decide) ?_
  obtain ⟨z5, hv⟩ := hv
  refine wz_aaload (b := 4) dX8_add_29 (k4 hK) (by decide) z5 ?_
  refine wp_aload_n (i := 0) dX8_add_30 rfl rfl ?_
  refine wz_getI dX8_add_31 (k1 hK) (f8_41 _ (by decide)) rfl ?_
  refine wp_iload_n (i := 3) dX8_add_34 rfl rfl ?_
  obtain ⟨z6, hv⟩ := hv
  refine wz_iastore dX8_add_35 (kr4 hK (in_lt z5)) z6 ?_
  refine wp_aload_n (i := 0) dX8_add_36 rfl rfl ?_
  refine wz_getR (b := 4) dX8_add_37 (k1 hK) (f8_20 _ (by decide)) rfl ?_
  refine wp_iconst (v := 3) dX8_add_40 (by decide) ?_
  obtain ⟨z7, hv⟩ := hv
  refine wz_aaload (b := 4) dX8_add_41 (k4 hK) (by decide) z7 ?_
  refine wp_aload_n (i := 0) dX8_add_42 rfl rfl ?_
  refine wz_getI dX8_add_43 (k1 hK) (f8_41 _ (by decide)) rfl ?_
  refine wp_iload dX8_add_46 rfl ?_
  obtain ⟨z8, hv⟩ := hv
  refine wz_iastore dX8_add_48 (kr4 hK (in_lt z7)) z8 ?_
  refine wp_aload_n (i := 0) dX8_add_49 rfl rfl ?_
  refine wz_getR (b := 9) dX8_add_50 (k1 hK) (f8_23 _ (by decide)) rfl ?_
  refine wp_aload_n (i := 0) dX8_add_53 rfl rfl ?_
  refine wz_getI dX8_add_54 (k1 hK) (f8_41 _ (by decide)) rfl ?_
  refine wp_sipush (v := 1000) dX8_add_57 (by decide) ?_
  obtain ⟨z9, hv⟩ := hv
  refine wz_iastore dX8_add_60 (k9 hK) z9 ?_
  refine wp_aload_n (i := 0) dX8_add_61 rfl rfl ?_
  refine wp_dupR dX8_add_62 ?_
  refine wz_getIe (v := ((up2 (up2 (up2 (up2 V (4 + 1 + ((0 : Int32)).toNatClampNeg) ((V 1 2)).toNatClampNeg x1) (4 + 1 + ((1 : Int32)).toNatClampNeg) (((up2 V (4 + 1 + ((0 : Int32)).toNatClampNeg) ((V 1 2)).toNatClampNeg x1) 1 2)).toNatClampNeg x2) (4 + 1 + ((2 : Int32)).toNatClampNeg) (((up2 (up2 V (4 + 1 + ((0 : Int32)).toNatClampNeg) ((V 1 2)).toNatClampNeg x1) (4 + 1 + ((1 : Int32)).toNatClampNeg) (((up2 V (4 + 1 + ((0 : Int32)).toNatClampNeg) ((V 1 2)).toNatClampNeg x1) 1 2)).toNatClampNeg x2) 1 2)).toNatClampNeg x3) (4 + 1 + ((3 : Int32)).toNatClampNeg) (((up2 (up2 (up2 V (4 + 1 + ((0 : Int32)).toNatClampNeg) ((V 1 2)).toNatClampNeg x1) (4 + 1 + ((1 : Int32)).toNatClampNeg) (((up2 V (4 + 1 + ((0 : Int32)).toNatClampNeg) ((V 1 2)).toNatClampNeg x1) 1 2)).toNatClampNeg x2) (4 + 1 + ((2 : Int32)).toNatClampNeg) (((up2 (up2 V (4 + 1 + ((0 : Int32)).toNatClampNeg) ((V 1 2)).toNatClampNeg x1) (4 + 1 + ((1 : Int32)).toNatClampNeg) (((up2 V (4 + 1 + ((0 : Int32)).toNatClampNeg) ((V 1 2)).toNatClampNeg x1) 1 2)).toNatClampNeg x2) 1 2)).toNatClampNeg x3) 1 2)).toNatClampNeg x4) 1 2)) dX8_add_63 (k1 hK) (f8_41 _ (by decide)) rfl (up2_a (by decide)) ?_
  refine wp_iconst (v := 1) dX8_add_66 (by decide) ?_
  refine wp_iadd dX8_add_67 ?_
  refine wz_putI dX8_add_68 (k1 hK) (w8_41 _ (by decide)) rfl ?_
  refine wp_aload_n (i := 0) dX8_add_71 rfl rfl ?_
  refine wz_getIe (v := (((up2 (up2 (up2 (up2 V (4 + 1 + ((0 : Int32)).toNatClampNeg) ((V 1 2)).toNatClampNeg x1) (4 + 1 + ((1 : Int32)).toNatClampNeg) (((up2 V (4 + 1 + ((0 : Int32)).toNatClampNeg) ((V 1 2)).toNatClampNeg x1) 1 2)).toNatClampNeg x2) (4 + 1 + ((2 : Int32)).toNatClampNeg) (((up2 (up2 V (4 + 1 + ((0 : Int32)).toNatClampNeg) ((V 1 2)).toNatClampNeg x1) (4 + 1 + ((1 : Int32)).toNatClampNeg) (((up2 V (4 + 1 + ((0 : Int32)).toNatClampNeg) ((V 1 2)).toNatClampNeg x1) 1 2)).toNatClampNeg x2) 1 2)).toNatClampNeg x3) (4 + 1 + ((3 : Int32)).toNatClampNeg) (((up2 (up2 (up2 V (4 + 1 + ((0 : Int32)).toNatClampNeg) ((V 1 2)).toNatClampNeg x1) (4 + 1 + ((1 : Int32)).toNatClampNeg) (((up2 V (4 + 1 + ((0 : Int32)).toNatClampNeg) ((V 1 2)).toNatClampNeg x1) 1 2)).toNatClampNeg x2) (4 + 1 + ((2 : Int32)).toNatClampNeg) (((up2 (up2 V (4 + 1 + ((0 : Int32)).toNatClampNeg) ((V 1 2)).toNatClampNeg x1) (4 + 1 + ((1 : Int32)).toNatClampNeg) (((up2 V (4 + 1 + ((0 : Int32)).toNatClampNeg) ((V 1 2)).toNatClampNeg x1) 1 2)).toNatClampNeg x2) 1 2)).toNatClampNeg x3) 1 2)).toNatClampNeg x4) 1 2) + (1 : Int32))) dX8_add_72 (k1 hK) (f8_41 _ (by decide)) rfl up2_s ?_
  refine wp_iconst (v := 1) dX8_add_75 (by decide) ?_
  refine wp_isub dX8_add_76 ?_
  obtain ⟨rfl, rfl⟩ := hv
  exact wp_ireturn dX8_add_77 rfl rfl rfl hq
theorem wX8_remove_0 {x1 : Int32} (hK : StK K)  (hv : (vp_in x1 80 ∧ (r = none ∧ V' = (up2 (up2 V 9 (x1).toNatClampNeg (V 1 6)) 1 6 ((V 1 6) + (1 : Int32)))))) : Ev G d mX8_remove 0 [(0, .ref 1), (1, .int x1)] (K, n, V, J, O) r (K, n, V', J, O) := by
  refine Ev.mk fun Q hq => ?_
  refine wp_aload_n (i := 0) dX8_remove_0 rfl rfl ?_
  refine wz_getR (b := 9) dX8_remove_1 (k1 hK) (f8_23 _ (by decide)) rfl ?_
  refine wp_iload_n (i := 1) dX8_remove_4 rfl rfl ?_
  refine wp_aload_n (i := 0) dX8_remove_5 rfl rfl ?_
  refine wz_getI dX8_remove_6 (k1 hK) (f8_49 _ (by decide)) rfl ?_
  obtain ⟨z1, hv⟩ := hv
  refine wz_iastore dX8_remove_9 (k9 hK) z1 ?_
  refine wp_aload_n (i := 0) dX8_remove_10 rfl rfl ?_
  refine wp_dupR dX8_remove_11 ?_
  refine wz_getIe (v := (V 1 6)) dX8_remove_12 (k1 hK) (f8_49 _ (by decide)) rfl (up2_a (by decide)) ?_
  refine wp_iconst (v := 1) dX8_remove_15 (by decide) ?_
  refine wp_iadd dX8_remove_16 ?_
  refine wz_putI dX8_remove_17 (k1 hK) (w8_49 _ (by decide)) rfl ?_
  obtain ⟨rfl, rfl⟩ := hv
  exact wp_return dX8_remove_20 rfl rfl hq
theorem wX8_addWalk_0 {x1 : Int32} (hK : StK K)  (hv : (vp_in (V 1 3) 4 ∧ ((x1 = 0 → (vp_in (V 1 3) 4 ∧ ((x1 = 0 → (vp_in (V 1 3) 4 ∧ (r = some (.int (((V 1 3) + (1 : Int32)) - (1 : Int32))) ∧ V' = (up2 (up2 (up2 (up2 V 10 ((V 1 3)).toNatClampNeg (0 : Int32)) 11 ((V 1 3)).toNatClampNeg (80 : Int32)) 12 ((V 1 3)).toNatClampNeg (1000 : Int32)) 1 3 ((V 1 3) + (1 : Int32)))))) ∧ (¬ x1 = 0 → (vp_in (V 1 3) 4 ∧ (r = some (.int (((V 1 3) + (1 : Int32)) - (1 : Int32))) ∧ V' = (up2 (up2 (up2 (up2 V 10 ((V 1 3)).toNatClampNeg (0 : Int32)) 11 ((V 1 3)).toNatClampNeg (80 : Int32)) 12 ((V 1 3)).toNatClampNeg (V 1 6)) 1 3 ((V 1 3) + (1 : Int32))))))))) ∧ (¬ x1 = 0 → (vp_in (V 1 3) 4 ∧ ((x1 = 0 → (vp_in (V 1 3) 4 ∧ (r = some (.int (((V 1 3) + (1 : Int32)) - (1 : Int32))) ∧ V' = (up2 (up2 (up2 (up2 V 10 ((V 1 3)).toNatClampNeg (0 : Int32)) 11 ((V 1 3)).toNatClampNeg (V 1 2)) 12 ((V 1 3)).toNatClampNeg (1000 : Int32)) 1 3 ((V 1 3) + (1 : Int32)))))) ∧ (¬ x1 = 0 → (vp_in (V 1 3) 4 ∧ (r = some (.int (((V 1 3) + (1 : Int32)) - (1 : Int32))) ∧ V' = (up2 (up2 (up2 (up2 V 10 ((V 1 3)).toNatClampNeg (0 : Int32)) 11 ((V 1 3)).toNatClampNeg (V 1 2)) 12 ((V 1 3)).toNatClampNeg (V 1 6)) 1 3 ((V 1 3) + (1 : Int32)))))))))))) : Ev G d mX8_addWalk 0 [(0, .ref 1), (1, .int x1)] (K, n, V, J, O) r (K, n, V', J, O) := by
  refine Ev.mk fun Q hq => ?_
  refine wp_aload_n (i := 0) dX8_addWalk_0 rfl rfl ?_
  refine wz_getR (b := 10) dX8_addWalk_1 (k1 hK) (f8_26 _ (by decide)) rfl ?_
  refine wp_aload_n (i := 0) dX8_addWalk_4 rfl rfl ?_
  refine wz_getI dX8_addWalk_5 (k1 hK) (f8_67 _ (by decide)) rfl ?_
  refine wp_iconst (v := 0) dX8_addWalk_8 (by decide) ?_
  obtain ⟨z1, hv⟩ := hv
  refine wz_iastore dX8_addWalk_9 (k10 hK) z1 ?_
  refine wp_aload_n (i := 0) dX8_addWalk_10 rfl rfl ?_
  refine wz_getR (b := 11) dX8_addWalk_11 (k1 hK) (f8_29 _ (by decide)) rfl ?_
  refine wp_aload_n (i := 0) dX8_addWalk_14 rfl rfl ?_
  refine wz_getIe (v := (V 1 3)) dX8_addWalk_15 (k1 hK) (f8_67 _ (by decide)) rfl (up2_a (by decide)) ?_
  refine wp_iload_n (i := 1) dX8_addWalk_18 rfl rfl ?_
  refine wp_if_eq 29 dX8_addWalk_19 (by decide) (fun q => ?_) (fun q => ?_)
  · replace hv := hv.1 q
    refine wp_bipush (v := 80) dX8_addWalk_29 (by decide) ?_
    obtain ⟨z2, hv⟩ := hv
    refine wz_iastore dX8_addWalk_31 (k11 hK) z2 ?_
    refine wp_aload_n (i := 0) dX8_addWalk_32 rfl rfl ?_
    refine wz_getR (b := 12) dX8_addWalk_33 (k1 hK) (f8_32 _ (by decide)) rfl ?_
    refine wp_aload_n (i := 0) dX8_addWalk_36 rfl rfl ?_
    refine wz_getIe (v := (V 1 3)) dX8_addWalk_37 (k1 hK) (f8_67 _ (by decide)) rfl (Eq.trans (up2_a (by decide)) (up2_a (by decide))) ?_
    refine wp_iload_n (i := 1) dX8_addWalk_40 rfl rfl ?_
    refine wp_if_eq 51 dX8_addWalk_41 (by decide) (fun q => ?_) (fun q => ?_)
    · replace hv := hv.1 q
      refine wp_sipush (v := 1000) dX8_addWalk_51 (by decide) ?_
      obtain ⟨z3, hv⟩ := hv
      refine wz_iastore dX8_addWalk_54 (k12 hK) z3 ?_
      refine wp_aload_n (i := 0) dX8_addWalk_55 rfl rfl ?_
      refine wp_dupR dX8_addWalk_56 ?_
      refine wz_getIe (v := (V 1 3)) dX8_addWalk_57 (k1 hK) (f8_67 _ (by decide)) rfl (Eq.trans (up2_a (by decide)) (Eq.trans (up2_a (by decide)) (up2_a (by decide)))) ?_
      refine wp_iconst (v := 1) dX8_addWalk_60 (by decide) ?_
      refine wp_iadd dX8_addWalk_61 ?_
      refine wz_putI dX8_addWalk_62 (k1 hK) (w8_67 _ (by decide)) rfl ?_
      refine wp_aload_n (i := 0) dX8_addWalk_65 rfl rfl ?_
      refine wz_getIe (v := ((V 1 3) + (1 : Int32))) dX8_addWalk_66 (k1 hK) (f8_67 _ (by decide)) rfl up2_s ?_
      refine wp_iconst (v := 1) dX8_addWalk_69 (by decide) ?_
      refine wp_isub dX8_addWalk_70 ?_
      obtain ⟨rfl, rfl⟩ := hv
      exact wp_ireturn dX8_addWalk_71 rfl rfl rfl hq
    · replace hv := hv.2 q
      refine wp_aload_n (i := 0) dX8_addWalk_44 rfl rfl ?_
      refine wz_getIe (v := (V 1 6)) dX8_addWalk_45 (k1 hK) (f8_49 _ (by decide)) rfl (Eq.trans (up2_a (by decide)) (up2_a (by decide))) ?_
      refine wp_goto 54 dX8_addWalk_48 (by decide) ?_
      obtain ⟨z4, hv⟩ := hv
      refine wz_iastore dX8_addWalk_54 (k12 hK) z4 ?_
      refine wp_aload_n (i := 0) dX8_addWalk_55 rfl rfl ?_
      refine wp_dupR dX8_addWalk_56 ?_
      refine wz_getIe (v := (V 1 3)) dX8_addWalk_57 (k1 hK) (f8_67 _ (by decide)) rfl (Eq.trans (up2_a (by decide)) (Eq.trans (up2_a (by decide)) (up2_a (by decide)))) ?_
      refine wp_iconst (v := 1) dX8_addWalk_60 (by decide) ?_
      refine wp_iadd dX8_addWalk_61 ?_
      refine wz_putI dX8_addWalk_62 (k1 hK) (w8_67 _ (by decide)) rfl ?_
      refine wp_aload_n (i := 0) dX8_addWalk_65 rfl rfl ?_
      refine wz_getIe (v := ((V 1 3) + (1 : Int32))) dX8_addWalk_66 (k1 hK) (f8_67 _ (by decide)) rfl up2_s ?_
      refine wp_iconst (v := 1) dX8_addWalk_69 (by decide) ?_
      refine wp_isub dX8_addWalk_70 ?_
      obtain ⟨rfl, rfl⟩ := hv
      exact wp_ireturn dX8_addWalk_71 rfl rfl rfl hq
  · replace hv := hv.2 q
    refine wp_aload_n (i := 0) dX8_addWalk_22 rfl rfl ?_
    refine wz_getIe (v := (V 1 2)) dX8_addWalk_23 (k1 hK) (f8_41 _ (by decide)) rfl (up2_a (by decide)) ?_
    refine wp_goto 31 dX8_addWalk_26 (by decide) ?_
    obtain ⟨z5, hv⟩ := hv
    refine wz_iastore dX8_addWalk_31 (k11 hK) z5 ?_
    refine wp_aload_n (i := 0) dX8_addWalk_32 rfl rfl ?_
    refine wz_getR (b := 12) dX8_addWalk_33 (k1 hK) (f8_32 _ (by decide)) rfl ?_
    refine wp_aload_n (i := 0) dX8_addWalk_36 rfl rfl ?_
    refine wz_getIe (v := (V 1 3)) dX8_addWalk_37 (k1 hK) (f8_67 _ (by decide)) rfl (Eq.trans (up2_a (by decide)) (up2_a (by decide))) ?_
    refine wp_iload_n (i := 1) dX8_addWalk_40 rfl rfl ?_
    refine wp_if_eq 51 dX8_addWalk_41 (by decide) (fun q => ?_) (fun q => ?_)
    · replace hv := hv.1 q
      refine wp_sipush (v := 1000) dX8_addWalk_51 (by decide) ?_
      obtain ⟨z6, hv⟩ := hv
      refine wz_iastore dX8_addWalk_54 (k12 hK) z6 ?_
      refine wp_aload_n (i := 0) dX8_addWalk_55 rfl rfl ?_
      refine wp_dupR dX8_addWalk_56 ?_
      refine wz_getIe (v := (V 1 3)) dX8_addWalk_57 (k1 hK) (f8_67 _ (by decide)) rfl (Eq.trans (up2_a (by decide)) (Eq.trans (up2_a (by decide)) (up2_a (by decide)))) ?_
      refine wp_iconst (v := 1) dX8_addWalk_60 (by decide) ?_
      refine wp_iadd dX8_addWalk_61 ?_
      refine wz_putI dX8_addWalk_62 (k1 hK) (w8_67 _ (by decide)) rfl ?_
      refine wp_aload_n (i := 0) dX8_addWalk_65 rfl rfl ?_
      refine wz_getIe (v := ((V 1 3) + (1 : Int32))) dX8_addWalk_66 (k1 hK) (f8_67 _ (by decide)) rfl up2_s ?_
      refine wp_iconst (v := 1) dX8_addWalk_69 (by decide) ?_
      refine wp_isub dX8_addWalk_70 ?_
      obtain ⟨rfl, rfl⟩ := hv
      exact wp_ireturn dX8_addWalk_71 rfl rfl rfl hq
    · replace hv := hv.2 q
      refine wp_aload_n (i := 0) dX8_addWalk_44 rfl rfl ?_
      refine wz_getIe (v := (V 1 6)) dX8_addWalk_45 (k1 hK) (f8_49 _ (by decide)) rfl (Eq.trans (up2_a (by decide)) (up2_a (by decide))) ?_
      refine wp_goto 54 dX8_addWalk_48 (by decide) ?_
      obtain ⟨z7, hv⟩ := hv
      refine wz_iastore dX8_addWalk_54 (k12 hK) z7 ?_
      refine wp_aload_n (i := 0) dX8_addWalk_55 rfl rfl ?_
      refine wp_dupR dX8_addWalk_56 ?_
      refine wz_getIe (v := (V 1 3)) dX8_addWalk_57 (k1 hK) (f8_67 _ (by decide)) rfl (Eq.trans (up2_a (by decide)) (Eq.trans (up2_a (by decide)) (up2_a (by decide)))) ?_
      refine wp_iconst (v := 1) dX8_addWalk_60 (by decide) ?_
      refine wp_iadd dX8_addWalk_61 ?_
      refine wz_putI dX8_addWalk_62 (k1 hK) (w8_67 _ (by decide)) rfl ?_
      refine wp_aload_n (i := 0) dX8_addWalk_65 rfl rfl ?_
      refine wz_getIe (v := ((V 1 3) + (1 : Int32))) dX8_addWalk_66 (k1 hK) (f8_67 _ (by decide)) rfl up2_s ?_
      refine wp_iconst (v := 1) dX8_addWalk_69 (by decide) ?_
      refine wp_isub dX8_addWalk_70 ?_
      obtain ⟨rfl, rfl⟩ := hv
      exact wp_ireturn dX8_addWalk_71 rfl rfl rfl hq
theorem wX8_walkOn_0 {x1 : Int32} (hK : StK K)  (hv : (vp_in x1 4 ∧ (vp_in x1 4 ∧ Ev G d mX8_walkOn 21 [(0, .ref 1), (1, .int x1), (2, .int (if (V 11 (x1).toNatClampNeg) < (V 1 2) then (V 11 (x1).toNatClampNeg) else (V 1 2))), (3, .int (V 10 (x1).toNatClampNeg))] (K, n, V, J, O) r (K, n, V', J, O)))) : Ev G d mX8_walkOn 0 [(0, .ref 1), (1, .int x1)] (K, n, V, J, O) r (K, n, V', J, O) := by
  refine Ev.mk fun Q hq => ?_
  refine wp_aload_n (i := 0) dX8_walkOn_0 rfl rfl ?_
  refine wz_getI dX8_walkOn_1 (k1 hK) (f8_41 _ (by decide)) rfl ?_
  refine wp_aload_n (i := 0) dX8_walkOn_4 rfl rfl ?_
  refine wz_getR (b := 11) dX8_walkOn_5 (k1 hK) (f8_29 _ (by decide)) rfl ?_
  refine wp_iload_n (i := 1) dX8_walkOn_8 rfl rfl ?_
  obtain ⟨z1, hv⟩ := hv
  refine wz_iaload dX8_walkOn_9 (k11 hK) z1 ?_
  refine wp_mmin dX8_walkOn_10 ma8_70 mmin1 mth2 mmin3 (Nat.le_of_ble_eq_true rfl) ⟨Nat.le_refl _, Nat.le_refl _⟩ ?_
  refine wx_istore_n (ls' := [(0, .ref 1), (1, .int x1), (2, .int (if (V 11 (x1).toNatClampNeg) < (V 1 2) then (V 11 (x1).toNatClampNeg) else (V 1 2)))]) (i := 2) dX8_walkOn_13 rfl (by decide) rfl ?_
  refine wp_aload_n (i := 0) dX8_walkOn_14 rfl rfl ?_
  refine wz_getR (b := 10) dX8_walkOn_15 (k1 hK) (f8_26 _ (by decide)) rfl ?_
  refine wp_iload_n (i := 1) dX8_walkOn_18 rfl rfl ?_
  obtain ⟨z2, hv⟩ := hv
  refine wz_iaload dX8_walkOn_19 (k10 hK) z2 ?_
  refine wx_istore_n (ls' := [(0, .ref 1), (1, .int x1), (2, .int (if (V 11 (x1).toNatClampNeg) < (V 1 2) then (V 11 (x1).toNatClampNeg) else (V 1 2))), (3, .int (V 10 (x1).toNatClampNeg))]) (i := 3) dX8_walkOn_20 rfl (by decide) rfl ?_
  exact hv Q hq
theorem wX8_walkOn_21 {x1 : Int32} {x2 : Int32} {x3 : Int32} (hK : StK K)  (hv : ((x2 ≤ x3 → (vp_in x1 4 ∧ (r = some (.int (-1 : Int32)) ∧ V' = (up2 V 10 (x1).toNatClampNeg x2)))) ∧ (¬ x2 ≤ x3 → (vp_in x3 80 ∧ (vp_in x1 4 ∧ (((V 9 (x3).toNatClampNeg) < (V 12 (x1).toNatClampNeg) → Ev G d mX8_walkOn 21 [(0, .ref 1), (1, .int x1), (2, .int x2), (3, .int (x3 + 1))] (K, n, V, J, O) r (K, n, V', J, O)) ∧ (¬ (V 9 (x3).toNatClampNeg) < (V 12 (x1).toNatClampNeg) → (vp_in x1 4 ∧ (r = some (.int x3) ∧ V' = (up2 V 10 (x1).toNatClampNeg (x3 + (1 : Int32)))))))))))) : Ev G d mX8_walkOn 21 [(0, .ref 1), (1, .int x1), (2, .int x2), (3, .int x3)] (K, n, V, J, O) r (K, n, V', J, O) := by
  refine Ev.mk fun Q hq => ?_
  refine wp_iload_n (i := 3) dX8_walkOn_21 rfl rfl ?_
  refine wp_iload_n (i := 2) dX8_walkOn_22 rfl rfl ?_
  refine wp_icmp_ge 58 dX8_walkOn_23 (by decide) (fun q => ?_) (fun q => ?_)
  · replace hv := hv.1 q
    refine wp_aload_n (i := 0) dX8_walkOn_58 rfl rfl ?_
    refine wz_getR (b := 10) dX8_walkOn_59 (k1 hK) (f8_26 _ (by decide)) rfl ?_
    refine wp_iload_n (i := 1) dX8_walkOn_62 rfl rfl ?_
    refine wp_iload_n (i := 2) dX8_walkOn_63 rfl rfl ?_
    obtain ⟨z1, hv⟩ := hv
    refine wz_iastore dX8_walkOn_64 (k10 hK) z1 ?_
    refine wp_iconst (v := -1) dX8_walkOn_65 (by decide) ?_
    obtain ⟨rfl, rfl⟩ := hv
    exact wp_ireturn dX8_walkOn_66 rfl rfl rfl hq
  · replace hv := hv.2 q
    refine wp_aload_n (i := 0) dX8_walkOn_26 rfl rfl ?_
    refine wz_getR (b := 9) dX8_walkOn_27 (k1 hK) (f8_23 _ (by decide)) rfl ?_
    refine wp_iload_n (i := 3) dX8_walkOn_30 rfl rfl ?_
    obtain ⟨z2, hv⟩ := hv
    refine wz_iaload dX8_walkOn_31 (k9 hK) z2 ?_
    refine wp_aload_n (i := 0) dX8_walkOn_32 rfl rfl ?_
    refine wz_getR (b := 12) dX8_walkOn_33 (k1 hK) (f8_32 _ (by decide)) rfl ?_
    refine wp_iload_n (i := 1) dX8_walkOn_36 rfl rfl ?_
    obtain ⟨z3, hv⟩ := hv
    refine wz_iaload dX8_walkOn_37 (k12 hK) z3 ?_
    refine wp_icmp_lt 52 dX8_walkOn_38 (by decide) (fun q => ?_) (fun q => ?_)
    · replace hv := hv.1 q
      refine wx_iinc (v := 1) (ls' := [(0, .ref 1), (1, .int x1), (2, .int x2), (3, .int (x3 + 1))]) dX8_walkOn_52 rfl (by decide) (by decide) rfl ?_
      refine wp_goto 21 dX8_walkOn_55 (by decide) ?_
      exact hv Q hq
    · replace hv := hv.2 q
      refine wp_aload_n (i := 0) dX8_walkOn_41 rfl rfl ?_
      refine wz_getR (b := 10) dX8_walkOn_42 (k1 hK) (f8_26 _ (by decide)) rfl ?_
      refine wp_iload_n (i := 1) dX8_walkOn_45 rfl rfl ?_
      refine wp_iload_n (i := 3) dX8_walkOn_46 rfl rfl ?_
      refine wp_iconst (v := 1) dX8_walkOn_47 (by decide) ?_
      refine wp_iadd dX8_walkOn_48 ?_
      obtain ⟨z4, hv⟩ := hv
      refine wz_iastore dX8_walkOn_49 (k10 hK) z4 ?_
      refine wp_iload_n (i := 3) dX8_walkOn_50 rfl rfl ?_
      obtain ⟨rfl, rfl⟩ := hv
      exact wp_ireturn dX8_walkOn_51 rfl rfl rfl hq
theorem wX9_addDay_0 {x1 : Int32} {x2 : Int32} (hK : StK K)  (hv : (vp_in (V 13 0) 12 ∧ (vp_in (V 13 0) 12 ∧ (r = some (.int ((V 13 0) + (1 : Int32))) ∧ V' = (up2 (up2 (up2 V 14 ((V 13 0)).toNatClampNeg x1) 15 ((V 13 0)).toNatClampNeg x2) 13 0 ((V 13 0) + (1 : Int32))))))) : Ev G d mX9_addDay 0 [(0, .ref 13), (1, .int x1), (2, .int x2)] (K, n, V, J, O) r (K, n, V', J, O) := by
  refine Ev.mk fun Q hq => ?_
  refine wp_aload_n (i := 0) dX9_addDay_0 rfl rfl ?_
  refine wz_getR (b := 14) dX9_addDay_1 (k13 hK) (f9_15 _ (by decide)) rfl ?_
  refine wp_aload_n (i := 0) dX9_addDay_4 rfl rfl ?_
  refine wz_getI dX9_addDay_5 (k13 hK) (f9_39 _ (by decide)) rfl ?_
  refine wp_iload_n (i := 1) dX9_addDay_8 rfl rfl ?_
  obtain ⟨z1, hv⟩ := hv
  refine wz_iastore dX9_addDay_9 (k14 hK) z1 ?_
  refine wp_aload_n (i := 0) dX9_addDay_10 rfl rfl ?_
  refine wz_getR (b := 15) dX9_addDay_11 (k13 hK) (f9_19 _ (by decide)) rfl ?_
  refine wp_aload_n (i := 0) dX9_addDay_14 rfl rfl ?_
  refine wz_getIe (v := (V 13 0)) dX9_addDay_15 (k13 hK) (f9_39 _ (by decide)) rfl (up2_a (by decide)) ?_
  refine wp_iload_n (i := 2) dX9_addDay_18 rfl rfl ?_
  obtain ⟨z2, hv⟩ := hv
  refine wz_iastore dX9_addDay_19 (k15 hK) z2 ?_
  refine wp_aload_n (i := 0) dX9_addDay_20 rfl rfl ?_
  refine wp_dupR dX9_addDay_21 ?_
  refine wz_getIe (v := (V 13 0)) dX9_addDay_22 (k13 hK) (f9_39 _ (by decide)) rfl (Eq.trans (up2_a (by decide)) (up2_a (by decide))) ?_
  refine wp_iconst (v := 1) dX9_addDay_25 (by decide) ?_
  refine wp_iadd dX9_addDay_26 ?_
  refine wz_putI dX9_addDay_27 (k13 hK) (w9_39 _ (by decide)) rfl ?_
  refine wp_aload_n (i := 0) dX9_addDay_30 rfl rfl ?_
  refine wz_getIe (v := ((V 13 0) + (1 : Int32))) dX9_addDay_31 (k13 hK) (f9_39 _ (by decide)) rfl up2_s ?_
  obtain ⟨rfl, rfl⟩ := hv
  exact wp_ireturn dX9_addDay_34 rfl rfl rfl hq
theorem wX9_leastDrift_0 {x1 : Int32} (hK : StK K)  (hv : Ev G d mX9_leastDrift 7 [(0, .ref 13), (1, .int x1), (2, .int (0 : Int32)), (3, .int (0 : Int32)), (4, .int (0 : Int32))] (K, n, V, J, O) r (K, n, V, J, O)) : Ev G d mX9_leastDrift 0 [(0, .ref 13), (1, .int x1)] (K, n, V, J, O) r (K, n, V, J, O) := by
  refine Ev.mk fun Q hq => ?_
  refine wp_iconst (v := 0) dX9_leastDrift_0 (by decide) ?_
  refine wx_istore_n (ls' := [(0, .ref 13), (1, .int x1), (2, .int (0 : Int32))]) (i := 2) dX9_leastDrift_1 rfl (by decide) rfl ?_
  refine wp_iconst (v := 0) dX9_leastDrift_2 (by decide) ?_
  refine wx_istore_n (ls' := [(0, .ref 13), (1, .int x1), (2, .int (0 : Int32)), (3, .int (0 : Int32))]) (i := 3) dX9_leastDrift_3 rfl (by decide) rfl ?_
  refine wp_iconst (v := 0) dX9_leastDrift_4 (by decide) ?_
  refine wx_istore (ls' := [(0, .ref 13), (1, .int x1), (2, .int (0 : Int32)), (3, .int (0 : Int32)), (4, .int (0 : Int32))]) dX9_leastDrift_5 (by decide) rfl ?_
  exact hv Q hq
theorem wX9_leastDrift_7 {x1 : Int32} {x2 : Int32} {x3 : Int32} {x4 : Int32} (hK : StK K)  (hv : (((V 13 0) ≤ x4 → r = some (.int (if x3 < x2 then x3 else x2))) ∧ (¬ (V 13 0) ≤ x4 → ((x4 ≠ 0 → ((x4 ≠ 0 → (vp_in x4 12 ∧ (vp_in x4 12 ∧ Ev G d mX9_leastDrift 7 [(0, .ref 13), (1, .int x1), (2, .int ((if (x3 + x1) < x2 then (x3 + x1) else x2) + (V 14 (x4).toNatClampNeg))), (3, .int ((if (x2 + x1) < x3 then (x2 + x1) else x3) + (V 15 (x4).toNatClampNeg))), (4, .int (x4 + 1))] (K, n, V, J, O) r (K, n, V, J, O)))) ∧ (x4 = 0 → (vp_in x4 12 ∧ (vp_in x4 12 ∧ Ev G d mX9_leastDrift 7 [(0, .ref 13), (1, .int x1), (2, .int ((if (x3 + x1) < x2 then (x3 + x1) else x2) + (V 14 (x4).toNatClampNeg))), (3, .int (x3 + (V 15 (x4).toNatClampNeg))), (4, .int (x4 + 1))] (K, n, V, J, O) r (K, n, V, J, O)))))) ∧ (x4 = 0 → ((x4 ≠ 0 → (vp_in x4 12 ∧ (vp_in x4 12 ∧ Ev G d mX9_leastDrift 7 [(0, .ref 13), (1, .int x1), (2, .int (x2 + (V 14 (x4).toNatClampNeg))), (3, .int ((if (x2 + x1) < x3 then (x2 + x1) else x3) + (V 15 (x4).toNatClampNeg))), (4, .int (x4 + 1))] (K, n, V, J, O) r (K, n, V, J, O)))) ∧ (x4 = 0 → (vp_in x4 12 ∧ (vp_in x4 12 ∧ Ev G d mX9_leastDrift 7 [(0, .ref 13), (1, .int x1), (2, .int (x2 + (V 14 (x4).toNatClampNeg))), (3, .int (x3 + (V 15 (x4).toNatClampNeg))), (4, .int (x4 + 1))] (K, n, V, J, O) r (K, n, V, J, O)))))))))) : Ev G d mX9_leastDrift 7 [(0, .ref 13), (1, .int x1), (2, .int x2), (3, .int x3), (4, .int x4)] (K, n, V, J, O) r (K, n, V, J, O) := by
  refine Ev.mk fun Q hq => ?_
  refine wp_iload dX9_leastDrift_7 rfl ?_
  refine wp_aload_n (i := 0) dX9_leastDrift_9 rfl rfl ?_
  refine wz_getI dX9_leastDrift_10 (k13 hK) (f9_39 _ (by decide)) rfl ?_
  refine wp_icmp_ge 80 dX9_leastDrift_13 (by decide) (fun q => ?_) (fun q => ?_)
  · replace hv := hv.1 q
    refine wp_iload_n (i := 2) dX9_leastDrift_80 rfl rfl ?_
    refine wp_iload_n (i := 3) dX9_leastDrift_81 rfl rfl ?_
    refine wp_mmin dX9_leastDrift_82 ma9_42 mmin1 mth2 mmin3 (Nat.le_of_ble_eq_true rfl) ⟨Nat.le_refl _, Nat.le_refl _⟩ ?_
    obtain rfl := hv
    exact wp_ireturn dX9_leastDrift_85 rfl rfl rfl hq
  · replace hv := hv.2 q
    refine wp_iload dX9_leastDrift_16 rfl ?_
    refine wp_if_ne 25 dX9_leastDrift_18 (by decide) (fun q => ?_) (fun q => ?_)
    · replace hv := hv.1 q
      refine wp_iload_n (i := 2) dX9_leastDrift_25 rfl rfl ?_
      refine wp_iload_n (i := 3) dX9_leastDrift_26 rfl rfl ?_
      refine wp_iload_n (i := 1) dX9_leastDrift_27 rfl rfl ?_
      refine wp_iadd dX9_leastDrift_28 ?_
      refine wp_mmin dX9_leastDrift_29 ma9_42 mmin1 mth2 mmin3 (Nat.le_of_ble_eq_true rfl) ⟨Nat.le_refl _, Nat.le_refl _⟩ ?_
      refine wx_istore (ls' := [(0, .ref 13), (1, .int x1), (2, .int x2), (3, .int x3), (4, .int x4), (5, .int (if (x3 + x1) < x2 then (x3 + x1) else x2))]) dX9_leastDrift_32 (by decide) rfl ?_
      refine wp_iload dX9_leastDrift_34 rfl ?_
      refine wp_if_ne 43 dX9_leastDrift_36 (by decide) (fun q => ?_) (fun q => ?_)
      · replace hv := hv.1 q
        refine wp_iload_n (i := 3) dX9_leastDrift_43 rfl rfl ?_
        refine wp_iload_n (i := 2) dX9_leastDrift_44 rfl rfl ?_
        refine wp_iload_n (i := 1) dX9_leastDrift_45 rfl rfl ?_
        refine wp_iadd dX9_leastDrift_46 ?_
        refine wp_mmin dX9_leastDrift_47 ma9_42 mmin1 mth2 mmin3 (Nat.le_of_ble_eq_true rfl) ⟨Nat.le_refl _, Nat.le_refl _⟩ ?_
        refine wx_istore (ls' := [(0, .ref 13), (1, .int x1), (2, .int x2), (3, .int x3), (4, .int x4), (5, .int (if (x3 + x1) < x2 then (x3 + x1) else x2)), (6, .int (if (x2 + x1) < x3 then (x2 + x1) else x3))]) dX9_leastDrift_50 (by decide) rfl ?_
        refine wp_iload dX9_leastDrift_52 rfl ?_
        refine wp_aload_n (i := 0) dX9_leastDrift_54 rfl rfl ?_
        refine wz_getR (b := 14) dX9_leastDrift_55 (k13 hK) (f9_15 _ (by decide)) rfl ?_
        refine wp_iload dX9_leastDrift_58 rfl ?_
        obtain ⟨z1, hv⟩ := hv
        refine wz_iaload dX9_leastDrift_60 (k14 hK) z1 ?_
        refine wp_iadd dX9_leastDrift_61 ?_
        refine wx_istore_n (ls' := [(0, .ref 13), (1, .int x1), (2, .int ((if (x3 + x1) < x2 then (x3 + x1) else x2) + (V 14 (x4).toNatClampNeg))), (3, .int x3), (4, .int x4), (5, .int (if (x3 + x1) < x2 then (x3 + x1) else x2)), (6, .int (if (x2 + x1) < x3 then (x2 + x1) else x3))]) (i := 2) dX9_leastDrift_62 rfl (by decide) rfl ?_
        refine wp_iload dX9_leastDrift_63 rfl ?_
        refine wp_aload_n (i := 0) dX9_leastDrift_65 rfl rfl ?_
        refine wz_getR (b := 15) dX9_leastDrift_66 (k13 hK) (f9_19 _ (by decide)) rfl ?_
        refine wp_iload dX9_leastDrift_69 rfl ?_
        obtain ⟨z2, hv⟩ := hv
        refine wz_iaload dX9_leastDrift_71 (k15 hK) z2 ?_
        refine wp_iadd dX9_leastDrift_72 ?_
        refine wx_istore_n (ls' := [(0, .ref 13), (1, .int x1), (2, .int ((if (x3 + x1) < x2 then (x3 + x1) else x2) + (V 14 (x4).toNatClampNeg))), (3, .int ((if (x2 + x1) < x3 then (x2 + x1) else x3) + (V 15 (x4).toNatClampNeg))), (4, .int x4), (5, .int (if (x3 + x1) < x2 then (x3 + x1) else x2)), (6, .int (if (x2 + x1) < x3 then (x2 + x1) else x3))]) (i := 3) dX9_leastDrift_73 rfl (by decide) rfl ?_
        refine wx_iinc (v := 1) (ls' := [(0, .ref 13), (1, .int x1), (2, .int ((if (x3 + x1) < x2 then (x3 + x1) else x2) + (V 14 (x4).toNatClampNeg))), (3, .int ((if (x2 + x1) < x3 then (x2 + x1) else x3) + (V 15 (x4).toNatClampNeg))), (4, .int (x4 + 1)), (5, .int (if (x3 + x1) < x2 then (x3 + x1) else x2)), (6, .int (if (x2 + x1) < x3 then (x2 + x1) else x3))]) dX9_leastDrift_74 rfl (by decide) (by decide) rfl ?_
        refine wp_goto 7 dX9_leastDrift_77 (by decide) ?_
        refine wx_sub (ls' := [(0, .ref 13), (1, .int x1), (2, .int ((if (x3 + x1) < x2 then (x3 + x1) else x2) + (V 14 (x4).toNatClampNeg))), (3, .int ((if (x2 + x1) < x3 then (x2 + x1) else x3) + (V 15 (x4).toNatClampNeg))), (4, .int (x4 + 1))]) [0, 1, 2, 3, 4] rfl ?_
        exact hv Q hq
      · replace hv := hv.2 q
        refine wp_iload_n (i := 3) dX9_leastDrift_39 rfl rfl ?_
        refine wp_goto 50 dX9_leastDrift_40 (by decide) ?_
        refine wx_istore (ls' := [(0, .ref 13), (1, .int x1), (2, .int x2), (3, .int x3), (4, .int x4), (5, .int (if (x3 + x1) < x2 then (x3 + x1) else x2)), (6, .int x3)]) dX9_leastDrift_50 (by decide) rfl ?_
        refine wp_iload dX9_leastDrift_52 rfl ?_
        refine wp_aload_n (i := 0) dX9_leastDrift_54 rfl rfl ?_
        refine wz_getR (b := 14) dX9_leastDrift_55 (k13 hK) (f9_15 _ (by decide)) rfl ?_
        refine wp_iload dX9_leastDrift_58 rfl ?_
        obtain ⟨z3, hv⟩ := hv
        refine wz_iaload dX9_leastDrift_60 (k14 hK) z3 ?_
        refine wp_iadd dX9_leastDrift_61 ?_
        refine wx_istore_n (ls' := [(0, .ref 13), (1, .int x1), (2, .int ((if (x3 + x1) < x2 then (x3 + x1) else x2) + (V 14 (x4).toNatClampNeg))), (3, .int x3), (4, .int x4), (5, .int (if (x3 + x1) < x2 then (x3 + x1) else x2)), (6, .int x3)]) (i := 2) dX9_leastDrift_62 rfl (by decide) rfl ?_
        refine wp_iload dX9_leastDrift_63 rfl ?_
        refine wp_aload_n (i := 0) dX9_leastDrift_65 rfl rfl ?_
        refine wz_getR (b := 15) dX9_leastDrift_66 (k13 hK) (f9_19 _ (by decide)) rfl ?_
        refine wp_iload dX9_leastDrift_69 rfl ?_
        obtain ⟨z4, hv⟩ := hv
        refine wz_iaload dX9_leastDrift_71 (k15 hK) z4 ?_
        refine wp_iadd dX9_leastDrift_72 ?_
        refine wx_istore_n (ls' := [(0, .ref 13), (1, .int x1), (2, .int ((if (x3 + x1) < x2 then (x3 + x1) else x2) + (V 14 (x4).toNatClampNeg))), (3, .int (x3 + (V 15 (x4).toNatClampNeg))), (4, .int x4), (5, .int (if (x3 + x1) < x2 then (x3 + x1) else x2)), (6, .int x3)]) (i := 3) dX9_leastDrift_73 rfl (by decide) rfl ?_
        refine wx_iinc (v := 1) (ls' := [(0, .ref 13), (1, .int x1), (2, .int ((if (x3 + x1) < x2 then (x3 + x1) else x2) + (V 14 (x4).toNatClampNeg))), (3, .int (x3 + (V 15 (x4).toNatClampNeg))), (4, .int (x4 + 1)), (5, .int (if (x3 + x1) < x2 then (x3 + x1) else x2)), (6, .int x3)]) dX9_leastDrift_74 rfl (by decide) (by decide) rfl ?_
        refine wp_goto 7 dX9_leastDrift_77 (by decide) ?_
        refine wx_sub (ls' := [(0, .ref 13), (1, .int x1), (2, .int ((if (x3 + x1) < x2 then (x3 + x1) else x2) + (V 14 (x4).toNatClampNeg))), (3, .int (x3 + (V 15 (x4).toNatClampNeg))), (4, .int (x4 + 1))]) [0, 1, 2, 3, 4] rfl ?_
        exact hv Q hq
    · replace hv := hv.2 q
      refine wp_iload_n (i := 2) dX9_leastDrift_21 rfl rfl ?_
      refine wp_goto 32 dX9_leastDrift_22 (by decide) ?_
      refine wx_istore (ls' := [(0, .ref 13), (1, .int x1), (2, .int x2), (3, .int x3), (4, .int x4), (5, .int x2)]) dX9_leastDrift_32 (by decide) rfl ?_
      refine wp_iload dX9_leastDrift_34 rfl ?_
      refine wp_if_ne 43 dX9_leastDrift_36 (by decide) (fun q => ?_) (fun q => ?_)
      · replace hv := hv.1 q
        refine wp_iload_n (i := 3) dX9_leastDrift_43 rfl rfl ?_
        refine wp_iload_n (i := 2) dX9_leastDrift_44 rfl rfl ?_
        refine wp_iload_n (i := 1) dX9_leastDrift_45 rfl rfl ?_
        refine wp_iadd dX9_leastDrift_46 ?_
        refine wp_mmin dX9_leastDrift_47 ma9_42 mmin1 mth2 mmin3 (Nat.le_of_ble_eq_true rfl) ⟨Nat.le_refl _, Nat.le_refl _⟩ ?_
        refine wx_istore (ls' := [(0, .ref 13), (1, .int x1), (2, .int x2), (3, .int x3), (4, .int x4), (5, .int x2), (6, .int (if (x2 + x1) < x3 then (x2 + x1) else x3))]) dX9_leastDrift_50 (by decide) rfl ?_
        refine wp_iload dX9_leastDrift_52 rfl ?_
        refine wp_aload_n (i := 0) dX9_leastDrift_54 rfl rfl ?_
        refine wz_getR (b := 14) dX9_leastDrift_55 (k13 hK) (f9_15 _ (by decide)) rfl ?_
        refine wp_iload dX9_leastDrift_58 rfl ?_
        obtain ⟨z5, hv⟩ := hv
        refine wz_iaload dX9_leastDrift_60 (k14 hK) z5 ?_
        refine wp_iadd dX9_leastDrift_61 ?_
        refine wx_istore_n (ls' := [(0, .ref 13), (1, .int x1), (2, .int (x2 + (V 14 (x4).toNatClampNeg))), (3, .int x3), (4, .int x4), (5, .int x2), (6, .int (if (x2 + x1) < x3 then (x2 + x1) else x3))]) (i := 2) dX9_leastDrift_62 rfl (by decide) rfl ?_
        refine wp_iload dX9_leastDrift_63 rfl ?_
        refine wp_aload_n (i := 0) dX9_leastDrift_65 rfl rfl ?_
        refine wz_getR (b := 15) dX9_leastDrift_66 (k13 hK) (f9_19 _ (by decide)) rfl ?_
        refine wp_iload dX9_leastDrift_69 rfl ?_
        obtain ⟨z6, hv⟩ := hv
        refine wz_iaload dX9_leastDrift_71 (k15 hK) z6 ?_
        refine wp_iadd dX9_leastDrift_72 ?_
        refine wx_istore_n (ls' := [(0, .ref 13), (1, .int x1), (2, .int (x2 + (V 14 (x4).toNatClampNeg))), (3, .int ((if (x2 + x1) < x3 then (x2 + x1) else x3) + (V 15 (x4).toNatClampNeg))), (4, .int x4), (5, .int x2), (6, .int (if (x2 + x1) < x3 then (x2 + x1) else x3))]) (i := 3) dX9_leastDrift_73 rfl (by decide) rfl ?_
        refine wx_iinc (v := 1) (ls' := [(0, .ref 13), (1, .int x1), (2, .int (x2 + (V 14 (x4).toNatClampNeg))), (3, .int ((if (x2 + x1) < x3 then (x2 + x1) else x3) + (V 15 (x4).toNatClampNeg))), (4, .int (x4 + 1)), (5, .int x2), (6, .int (if (x2 + x1) < x3 then (x2 + x1) else x3))]) dX9_leastDrift_74 rfl (by decide) (by decide) rfl ?_
        refine wp_goto 7 dX9_leastDrift_77 (by decide) ?_
        refine wx_sub (ls' := [(0, .ref 13), (1, .int x1), (2, .int (x2 + (V 14 (x4).toNatClampNeg))), (3, .int ((if (x2 + x1) < x3 then (x2 + x1) else x3) + (V 15 (x4).toNatClampNeg))), (4, .int (x4 + 1))]) [0, 1, 2, 3, 4] rfl ?_
        exact hv Q hq
      · replace hv := hv.2 q
        refine wp_iload_n (i := 3) dX9_leastDrift_39 rfl rfl ?_
        refine wp_goto 50 dX9_leastDrift_40 (by decide) ?_
        refine wx_istore (ls' := [(0, .ref 13), (1, .int x1), (2, .int x2), (3, .int x3), (4, .int x4), (5, .int x2), (6, .int x3)]) dX9_leastDrift_50 (by decide) rfl ?_
        refine wp_iload dX9_leastDrift_52 rfl ?_
        refine wp_aload_n (i := 0) dX9_leastDrift_54 rfl rfl ?_
        refine wz_getR (b := 14) dX9_leastDrift_55 (k13 hK) (f9_15 _ (by decide)) rfl ?_
        refine wp_iload dX9_leastDrift_58 rfl ?_
        obtain ⟨z7, hv⟩ := hv
        refine wz_iaload dX9_leastDrift_60 (k14 hK) z7 ?_
        refine wp_iadd dX9_leastDrift_61 ?_
        refine wx_istore_n (ls' := [(0, .ref 13), (1, .int x1), (2, .int (x2 + (V 14 (x4).toNatClampNeg))), (3, .int x3), (4, .int x4), (5, .int x2), (6, .int x3)]) (i := 2) dX9_leastDrift_62 rfl (by decide) rfl ?_
        refine wp_iload dX9_leastDrift_63 rfl ?_
        refine wp_aload_n (i := 0) dX9_leastDrift_65 rfl rfl ?_
        refine wz_getR (b := 15) dX9_leastDrift_66 (k13 hK) (f9_19 _ (by decide)) rfl ?_
        refine wp_iload dX9_leastDrift_69 rfl ?_
        obtain ⟨z8, hv⟩ := hv
        refine wz_iaload dX9_leastDrift_71 (k15 hK) z8 ?_
        refine wp_iadd dX9_leastDrift_72 ?_
        refine wx_istore_n (ls' := [(0, .ref 13), (1, .int x1), (2, .int (x2 + (V 14 (x4).toNatClampNeg))), (3, .int (x3 + (V 15 (x4).toNatClampNeg))), (4, .int x4), (5, .int x2), (6, .int x3)]) (i := 3) dX9_leastDrift_73 rfl (by decide) rfl ?_
        refine wx_iinc (v := 1) (ls' := [(0, .ref 13), (1, .int x1), (2, .int (x2 + (V 14 (x4).toNatClampNeg))), (3, .int (x3 + (V 15 (x4).toNatClampNeg))), (4, .int (x4 + 1)), (5, .int x2), (6, .int x3)]) dX9_leastDrift_74 rfl (by decide) (by decide) rfl ?_
        refine wp_goto 7 dX9_leastDrift_77 (by decide) ?_
        refine wx_sub (ls' := [(0, .ref 13), (1, .int x1), (2, .int (x2 + (V 14 (x4).toNatClampNeg))), (3, .int (x3 + (V 15 (x4).toNatClampNeg))), (4, .int (x4 + 1))]) [0, 1, 2, 3, 4] rfl ?_
        exact hv Q hq
theorem wX9_ruledDrift_0 {x1 : Int32} {x2 : Int32} (hK : StK K)  (hv : Ev G d mX9_ruledDrift 14 [(0, .ref 13), (1, .int x1), (2, .int x2), (3, .int (0 : Int32)), (4, .int (0 : Int32)), (5, .int (0 : Int32)), (6, .int (0 : Int32)), (7, .int (0 : Int32))] (K, n, V, J, O) r (K, n, V, J, O)) : Ev G d mX9_ruledDrift 0 [(0, .ref 13), (1, .int x1), (2, .int x2)] (K, n, V, J, O) r (K, n, V, J, O) := by
  refine Ev.mk fun Q hq => ?_
  refine wp_iconst (v := 0) dX9_ruledDrift_0 (by decide) ?_
  refine wx_istore_n (ls' := [(0, .ref 13), (1, .int x1), (2, .int x2), (3, .int (0 : Int32))]) (i := 3) dX9_ruledDrift_1 rfl (by decide) rfl ?_
  refine wp_iconst (v := 0) dX9_ruledDrift_2 (by decide) ?_
  refine wx_istore (ls' := [(0, .ref 13), (1, .int x1), (2, .int x2), (3, .int (0 : Int32)), (4, .int (0 : Int32))]) dX9_ruledDrift_3 (by decide) rfl ?_
  refine wp_iconst (v := 0) dX9_ruledDrift_5 (by decide) ?_
  refine wx_istore (ls' := [(0, .ref 13), (1, .int x1), (2, .int x2), (3, .int (0 : Int32)), (4, .int (0 : Int32)), (5, .int (0 : Int32))]) dX9_ruledDrift_6 (by decide) rfl ?_
  refine wp_iconst (v := 0) dX9_ruledDrift_8 (by decide) ?_
  refine wx_istore (ls' := [(0, .ref 13), (1, .int x1), (2, .int x2), (3, .int (0 : Int32)), (4, .int (0 : Int32)), (5, .int (0 : Int32)), (6, .int (0 : Int32))]) dX9_ruledDrift_9 (by decide) rfl ?_
  refine wp_iconst (v := 0) dX9_ruledDrift_11 (by decide) ?_
  refine wx_istore (ls' := [(0, .ref 13), (1, .int x1), (2, .int x2), (3, .int (0 : Int32)), (4, .int (0 : Int32)), (5, .int (0 : Int32)), (6, .int (0 : Int32)), (7, .int (0 : Int32))]) dX9_ruledDrift_12 (by decide) rfl ?_
  exact hv Q hq
theorem wX9_ruledDrift_14 {x1 : Int32} {x2 : Int32} {x3 : Int32} {x4 : Int32} {x5 : Int32} {x6 : Int32} {x7 : Int32} (hK : StK K)  (hv : (((V 13 0) ≤ x7 → ((x2 = 0 → r = some (.int x4)) ∧ (¬ x2 = 0 → r = some (.int x5)))) ∧ (¬ (V 13 0) ≤ x7 → ((x7 ≤ 0 → Ev G d mX9_ruledDrift 56 [(0, .ref 13), (1, .int x1), (2, .int x2), (3, .int x3), (4, .int x4), (5, .int x5), (6, .int x6), (7, .int x7)] (K, n, V, J, O) r (K, n, V, J, O)) ∧ (¬ x7 ≤ 0 → ((x6 < x1 → Ev G d mX9_ruledDrift 56 [(0, .ref 13), (1, .int x1), (2, .int x2), (3, .int x3), (4, .int x4), (5, .int x5), (6, .int x6), (7, .int x7)] (K, n, V, J, O) r (K, n, V, J, O)) ∧ (¬ x6 < x1 → ((x3 ≠ 0 → Ev G d mX9_ruledDrift 56 [(0, .ref 13), (1, .int x1), (2, .int x2), (3, .int (0 : Int32)), (4, .int (x4 + x1)), (5, .int (x5 + 1)), (6, .int (0 : Int32)), (7, .int x7)] (K, n, V, J, O) r (K, n, V, J, O)) ∧ (x3 = 0 → Ev G d mX9_ruledDrift 56 [(0, .ref 13), (1, .int x1), (2, .int x2), (3, .int (1 : Int32)), (4, .int (x4 + x1)), (5, .int (x5 + 1)), (6, .int (0 : Int32)), (7, .int x7)] (K, n, V, J, O) r (K, n, V, J, O)))))))))) : Ev G d mX9_ruledDrift 14 [(0, .ref 13), (1, .int x1), (2, .int x2), (3, .int x3), (4, .int x4), (5, .int x5), (6, .int x6), (7, .int x7)] (K, n, V, J, O) r (K, n, V, J, O) := by
  refine Ev.mk fun Q hq => ?_
  refine wp_iload dX9_ruledDrift_14 rfl ?_
  refine wp_aload_n (i := 0) dX9_ruledDrift_16 rfl rfl ?_
  refine wz_getI dX9_ruledDrift_17 (k13 hK) (f9_39 _ (by decide)) rfl ?_
  refine wp_icmp_ge 129 dX9_ruledDrift_20 (by decide) (fun q => ?_) (fun q => ?_)
  · replace hv := hv.1 q
    refine wp_iload_n (i := 2) dX9_ruledDrift_129 rfl rfl ?_
    refine wp_if_eq 138 dX9_ruledDrift_130 (by decide) (fun q => ?_) (fun q => ?_)
    · replace hv := hv.1 q
      refine wp_iload dX9_ruledDrift_138 rfl ?_
      obtain rfl := hv
      exact wp_ireturn dX9_ruledDrift_140 rfl rfl rfl hq
    · replace hv := hv.2 q
      refine wp_iload dX9_ruledDrift_133 rfl ?_
      refine wp_goto 140 dX9_ruledDrift_135 (by decide) ?_
      obtain rfl := hv
      exact wp_ireturn dX9_ruledDrift_140 rfl rfl rfl hq
  · replace hv := hv.2 q
    refine wp_iload dX9_ruledDrift_23 rfl ?_
    refine wp_if_le 56 dX9_ruledDrift_25 (by decide) (fun q => ?_) (fun q => ?_)
    · replace hv := hv.1 q
      exact hv Q hq
    · replace hv := hv.2 q
      refine wp_iload dX9_ruledDrift_28 rfl ?_
      refine wp_iload_n (i := 1) dX9_ruledDrift_30 rfl rfl ?_
      refine wp_icmp_lt 56 dX9_ruledDrift_31 (by decide) (fun q => ?_) (fun q => ?_)
      · replace hv := hv.1 q
        exact hv Q hq
      · replace hv := hv.2 q
        refine wp_iload_n (i := 3) dX9_ruledDrift_34 rfl rfl ?_
        refine wp_if_ne 42 dX9_ruledDrift_35 (by decide) (fun q => ?_) (fun q => ?_)
        · replace hv := hv.1 q
          refine wp_iconst (v := 0) dX9_ruledDrift_42 (by decide) ?_
          refine wx_istore_n (ls' := [(0, .ref 13), (1, .int x1), (2, .int x2), (3, .int (0 : Int32)), (4, .int x4), (5, .int x5), (6, .int x6), (7, .int x7)]) (i := 3) dX9_ruledDrift_43 rfl (by decide) rfl ?_
          refine wx_iinc (v := 1) (ls' := [(0, .ref 13), (1, .int x1), (2, .int x2), (3, .int (0 : Int32)), (4, .int x4), (5, .int (x5 + 1)), (6, .int x6), (7, .int x7)]) dX9_ruledDrift_44 rfl (by decide) (by decide) rfl ?_
          refine wp_iload dX9_ruledDrift_47 rfl ?_
          refine wp_iload_n (i := 1) dX9_ruledDrift_49 rfl rfl ?_
          refine wp_iadd dX9_ruledDrift_50 ?_
          refine wx_istore (ls' := [(0, .ref 13), (1, .int x1), (2, .int x2), (3, .int (0 : Int32)), (4, .int (x4 + x1)), (5, .int (x5 + 1)), (6, .int x6), (7, .int x7)]) dX9_ruledDrift_51 (by decide) rfl ?_
          refine wp_iconst (v := 0) dX9_ruledDrift_53 (by decide) ?_
          refine wx_istore (ls' := [(0, .ref 13), (1, .int x1), (2, .int x2), (3, .int (0 : Int32)), (4, .int (x4 + x1)), (5, .int (x5 + 1)), (6, .int (0 : Int32)), (7, .int x7)]) dX9_ruledDrift_54 (by decide) rfl ?_
          exact hv Q hq
        · replace hv := hv.2 q
          refine wp_iconst (v := 1) dX9_ruledDrift_38 (by decide) ?_
          refine wp_goto 43 dX9_ruledDrift_39 (by decide) ?_
          refine wx_istore_n (ls' := [(0, .ref 13), (1, .int x1), (2, .int x2), (3, .int (1 : Int32)), (4, .int x4), (5, .int x5), (6, .int x6), (7, .int x7)]) (i := 3) dX9_ruledDrift_43 rfl (by decide) rfl ?_
          refine wx_iinc (v := 1) (ls' := [(0, .ref 13), (1, .int x1), (2, .int x2), (3, .int (1 : Int32)), (4, .int x4), (5, .int (x5 + 1)), (6, .int x6), (7, .int x7)]) dX9_ruledDrift_44 rfl (by decide) (by decide) rfl ?_
          refine wp_iload dX9_ruledDrift_47 rfl ?_
          refine wp_iload_n (i := 1) dX9_ruledDrift_49 rfl rfl ?_
          refine wp_iadd dX9_ruledDrift_50 ?_
          refine wx_istore (ls' := [(0, .ref 13), (1, .int x1), (2, .int x2), (3, .int (1 : Int32)), (4, .int (x4 + x1)), (5, .int (x5 + 1)), (6, .int x6), (7, .int x7)]) dX9_ruledDrift_51 (by decide) rfl ?_
          refine wp_iconst (v := 0) dX9_ruledDrift_53 (by decide) ?_
          refine wx_istore (ls' := [(0, .ref 13), (1, .int x1), (2, .int x2), (3, .int (1 : Int32)), (4, .int (x4 + x1)), (5, .int (x5 + 1)), (6, .int (0 : Int32)), (7, .int x7)]) dX9_ruledDrift_54 (by decide) rfl ?_
          exact hv Q hq
theorem wX9_ruledDrift_56 {x1 : Int32} {x2 : Int32} {x3 : Int32} {x4 : Int32} {x5 : Int32} {x6 : Int32} {x7 : Int32} (hK : StK K)  (hv : ((x3 = 0 → (vp_in x7 12 ∧ ((x3 = 0 → (vp_in x7 12 ∧ Ev G d mX9_ruledDrift 14 [(0, .ref 13), (1, .int x1), (2, .int x2), (3, .int x3), (4, .int (x4 + (V 14 (x7).toNatClampNeg))), (5, .int x5), (6, .int (if ((x6 + (V 14 (x7).toNatClampNeg)) - (V 15 (x7).toNatClampNeg)) < (0 : Int32) then (0 : Int32) else ((x6 + (V 14 (x7).toNatClampNeg)) - (V 15 (x7).toNatClampNeg)))), (7, .int (x7 + 1))] (K, n, V, J, O) r (K, n, V, J, O))) ∧ (¬ x3 = 0 → (vp_in x7 12 ∧ Ev G d mX9_ruledDrift 14 [(0, .ref 13), (1, .int x1), (2, .int x2), (3, .int x3), (4, .int (x4 + (V 14 (x7).toNatClampNeg))), (5, .int x5), (6, .int (if ((x6 + (V 14 (x7).toNatClampNeg)) - (V 14 (x7).toNatClampNeg)) < (0 : Int32) then (0 : Int32) else ((x6 + (V 14 (x7).toNatClampNeg)) - (V 14 (x7).toNatClampNeg)))), (7, .int (x7 + 1))] (K, n, V, J, O) r (K, n, V, J, O)))))) ∧ (¬ x3 = 0 → (vp_in x7 12 ∧ ((x3 = 0 → (vp_in x7 12 ∧ Ev G d mX9_ruledDrift 14 [(0, .ref 13), (1, .int x1), (2, .int x2), (3, .int x3), (4, .int (x4 + (V 15 (x7).toNatClampNeg))), (5, .int x5), (6, .int (if ((x6 + (V 15 (x7).toNatClampNeg)) - (V 15 (x7).toNatClampNeg)) < (0 : Int32) then (0 : Int32) else ((x6 + (V 15 (x7).toNatClampNeg)) - (V 15 (x7).toNatClampNeg)))), (7, .int (x7 + 1))] (K, n, V, J, O) r (K, n, V, J, O))) ∧ (¬ x3 = 0 → (vp_in x7 12 ∧ Ev G d mX9_ruledDrift 14 [(0, .ref 13), (1, .int x1), (2, .int x2), (3, .int x3), (4, .int (x4 + (V 15 (x7).toNatClampNeg))), (5, .int x5), (6, .int (if ((x6 + (V 15 (x7).toNatClampNeg)) - (V 14 (x7).toNatClampNeg)) < (0 : Int32) then (0 : Int32) else ((x6 + (V 15 (x7).toNatClampNeg)) - (V 14 (x7).toNatClampNeg)))), (7, .int (x7 + 1))] (K, n, V, J, O) r (K, n, V, J, O)))))))) : Ev G d mX9_ruledDrift 56 [(0, .ref 13), (1, .int x1), (2, .int x2), (3, .int x3), (4, .int x4), (5, .int x5), (6, .int x6), (7, .int x7)] (K, n, V, J, O) r (K, n, V, J, O) := by
  refine Ev.mk fun Q hq => ?_
  refine wp_iload_n (i := 3) dX9_ruledDrift_56 rfl rfl ?_
  refine wp_if_eq 70 dX9_ruledDrift_57 (by decide) (fun q => ?_) (fun q => ?_)
  · replace hv := hv.1 q
    refine wp_aload_n (i := 0) dX9_ruledDrift_70 rfl rfl ?_
    refine wz_getR (b := 14) dX9_ruledDrift_71 (k13 hK) (f9_15 _ (by decide)) rfl ?_
    refine wp_iload dX9_ruledDrift_74 rfl ?_
    obtain ⟨z1, hv⟩ := hv
    refine wz_iaload dX9_ruledDrift_76 (k14 hK) z1 ?_
    refine wx_istore (ls' := [(0, .ref 13), (1, .int x1), (2, .int x2), (3, .int x3), (4, .int x4), (5, .int x5), (6, .int x6), (7, .int x7), (8, .int (V 14 (x7).toNatClampNeg))]) dX9_ruledDrift_77 (by decide) rfl ?_
    refine wp_iload_n (i := 3) dX9_ruledDrift_79 rfl rfl ?_
    refine wp_if_eq 93 dX9_ruledDrift_80 (by decide) (fun q => ?_) (fun q => ?_)
    · replace hv := hv.1 q
      refine wp_aload_n (i := 0) dX9_ruledDrift_93 rfl rfl ?_
      refine wz_getR (b := 15) dX9_ruledDrift_94 (k13 hK) (f9_19 _ (by decide)) rfl ?_
      refine wp_iload dX9_ruledDrift_97 rfl ?_
      obtain ⟨z2, hv⟩ := hv
      refine wz_iaload dX9_ruledDrift_99 (k15 hK) z2 ?_
      refine wx_istore (ls' := [(0, .ref 13), (1, .int x1), (2, .int x2), (3, .int x3), (4, .int x4), (5, .int x5), (6, .int x6), (7, .int x7), (8, .int (V 14 (x7).toNatClampNeg)), (9, .int (V 15 (x7).toNatClampNeg))]) dX9_ruledDrift_100 (by decide) rfl ?_
      refine wp_iload dX9_ruledDrift_102 rfl ?_
      refine wp_iload dX9_ruledDrift_104 rfl ?_
      refine wp_iadd dX9_ruledDrift_106 ?_
      refine wx_istore (ls' := [(0, .ref 13), (1, .int x1), (2, .int x2), (3, .int x3), (4, .int (x4 + (V 14 (x7).toNatClampNeg))), (5, .int x5), (6, .int x6), (7, .int x7), (8, .int (V 14 (x7).toNatClampNeg)), (9, .int (V 15 (x7).toNatClampNeg))]) dX9_ruledDrift_107 (by decide) rfl ?_
      refine wp_iload dX9_ruledDrift_109 rfl ?_
      refine wp_iload dX9_ruledDrift_111 rfl ?_
      refine wp_iadd dX9_ruledDrift_113 ?_
      refine wp_iload dX9_ruledDrift_114 rfl ?_
      refine wp_isub dX9_ruledDrift_116 ?_
      refine wp_iconst (v := 0) dX9_ruledDrift_117 (by decide) ?_
      refine wp_mmax dX9_ruledDrift_118 ma9_48 mmax1 mth2 mmax3 (Nat.le_of_ble_eq_true rfl) ⟨Nat.le_refl _, Nat.le_refl _⟩ ?_
      refine wx_istore (ls' := [(0, .ref 13), (1, .int x1), (2, .int x2), (3, .int x3), (4, .int (x4 + (V 14 (x7).toNatClampNeg))), (5, .int x5), (6, .int (if ((x6 + (V 14 (x7).toNatClampNeg)) - (V 15 (x7).toNatClampNeg)) < (0 : Int32) then (0 : Int32) else ((x6 + (V 14 (x7).toNatClampNeg)) - (V 15 (x7).toNatClampNeg)))), (7, .int x7), (8, .int (V 14 (x7).toNatClampNeg)), (9, .int (V 15 (x7).toNatClampNeg))]) dX9_ruledDrift_121 (by decide) rfl ?_
      refine wx_iinc (v := 1) (ls' := [(0, .ref 13), (1, .int x1), (2, .int x2), (3, .int x3), (4, .int (x4 + (V 14 (x7).toNatClampNeg))), (5, .int x5), (6, .int (if ((x6 + (V 14 (x7).toNatClampNeg)) - (V 15 (x7).toNatClampNeg)) < (0 : Int32) then (0 : Int32) else ((x6 + (V 14 (x7).toNatClampNeg)) - (V 15 (x7).toNatClampNeg)))), (7, .int (x7 + 1)), (8, .int (V 14 (x7).toNatClampNeg)), (9, .int (V 15 (x7).toNatClampNeg))]) dX9_ruledDrift_123 rfl (by decide) (by decide) rfl ?_
      refine wp_goto 14 dX9_ruledDrift_126 (by decide) ?_
      refine wx_sub (ls' := [(0, .ref 13), (1, .int x1), (2, .int x2), (3, .int x3), (4, .int (x4 + (V 14 (x7).toNatClampNeg))), (5, .int x5), (6, .int (if ((x6 + (V 14 (x7).toNatClampNeg)) - (V 15 (x7).toNatClampNeg)) < (0 : Int32) then (0 : Int32) else ((x6 + (V 14 (x7).toNatClampNeg)) - (V 15 (x7).toNatClampNeg)))), (7, .int (x7 + 1))]) [0, 1, 2, 3, 4, 5, 6, 7] rfl ?_
      exact hv Q hq
    · replace hv := hv.2 q
      refine wp_aload_n (i := 0) dX9_ruledDrift_83 rfl rfl ?_
      refine wz_getR (b := 14) dX9_ruledDrift_84 (k13 hK) (f9_15 _ (by decide)) rfl ?_
      refine wp_iload dX9_ruledDrift_87 rfl ?_
      obtain ⟨z3, hv⟩ := hv
      refine wz_iaload dX9_ruledDrift_89 (k14 hK) z3 ?_
      refine wp_goto 100 dX9_ruledDrift_90 (by decide) ?_
      refine wx_istore (ls' := [(0, .ref 13), (1, .int x1), (2, .int x2), (3, .int x3), (4, .int x4), (5, .int x5), (6, .int x6), (7, .int x7), (8, .int (V 14 (x7).toNatClampNeg)), (9, .int (V 14 (x7).toNatClampNeg))]) dX9_ruledDrift_100 (by decide) rfl ?_
      refine wp_iload dX9_ruledDrift_102 rfl ?_
      refine wp_iload dX9_ruledDrift_104 rfl ?_
      refine wp_iadd dX9_ruledDrift_106 ?_
      refine wx_istore (ls' := [(0, .ref 13), (1, .int x1), (2, .int x2), (3, .int x3), (4, .int (x4 + (V 14 (x7).toNatClampNeg))), (5, .int x5), (6, .int x6), (7, .int x7), (8, .int (V 14 (x7).toNatClampNeg)), (9, .int (V 14 (x7).toNatClampNeg))]) dX9_ruledDrift_107 (by decide) rfl ?_
      refine wp_iload dX9_ruledDrift_109 rfl ?_
      refine wp_iload dX9_ruledDrift_111 rfl ?_
      refine wp_iadd dX9_ruledDrift_113 ?_
      refine wp_iload dX9_ruledDrift_114 rfl ?_
      refine wp_isub dX9_ruledDrift_116 ?_
      refine wp_iconst (v := 0) dX9_ruledDrift_117 (by decide) ?_
      refine wp_mmax dX9_ruledDrift_118 ma9_48 mmax1 mth2 mmax3 (Nat.le_of_ble_eq_true rfl) ⟨Nat.le_refl _, Nat.le_refl _⟩ ?_
      refine wx_istore (ls' := [(0, .ref 13), (1, .int x1), (2, .int x2), (3, .int x3), (4, .int (x4 + (V 14 (x7).toNatClampNeg))), (5, .int x5), (6, .int (if ((x6 + (V 14 (x7).toNatClampNeg)) - (V 14 (x7).toNatClampNeg)) < (0 : Int32) then (0 : Int32) else ((x6 + (V 14 (x7).toNatClampNeg)) - (V 14 (x7).toNatClampNeg)))), (7, .int x7), (8, .int (V 14 (x7).toNatClampNeg)), (9, .int (V 14 (x7).toNatClampNeg))]) dX9_ruledDrift_121 (by decide) rfl ?_
      refine wx_iinc (v := 1) (ls' := [(0, .ref 13), (1, .int x1), (2, .int x2), (3, .int x3), (4, .int (x4 + (V 14 (x7).toNatClampNeg))), (5, .int x5), (6, .int (if ((x6 + (V 14 (x7).toNatClampNeg)) - (V 14 (x7).toNatClampNeg)) < (0 : Int32) then (0 : Int32) else ((x6 + (V 14 (x7).toNatClampNeg)) - (V 14 (x7).toNatClampNeg)))), (7, .int (x7 + 1)), (8, .int (V 14 (x7).toNatClampNeg)), (9, .int (V 14 (x7).toNatClampNeg))]) dX9_ruledDrift_123 rfl (by decide) (by decide) rfl ?_
      refine wp_goto 14 dX9_ruledDrift_126 (by decide) ?_
      refine wx_sub (ls' := [(0, .ref 13), (1, .int x1), (2, .int x2), (3, .int x3), (4, .int (x4 + (V 14 (x7).toNatClampNeg))), (5, .int x5), (6, .int (if ((x6 + (V 14 (x7).toNatClampNeg)) - (V 14 (x7).toNatClampNeg)) < (0 : Int32) then (0 : Int32) else ((x6 + (V 14 (x7).toNatClampNeg)) - (V 14 (x7).toNatClampNeg)))), (7, .int (x7 + 1))]) [0, 1, 2, 3, 4, 5, 6, 7] rfl ?_
      exact hv Q hq
  · replace hv := hv.2 q
    refine wp_aload_n (i := 0) dX9_ruledDrift_60 rfl rfl ?_
    refine wz_getR (b := 15) dX9_ruledDrift_61 (k13 hK) (f9_19 _ (by decide)) rfl ?_
    refine wp_iload dX9_ruledDrift_64 rfl ?_
    obtain ⟨z4, hv⟩ := hv
    refine wz_iaload dX9_ruledDrift_66 (k15 hK) z4 ?_
    refine wp_goto 77 dX9_ruledDrift_67 (by decide) ?_
    refine wx_istore (ls' := [(0, .ref 13), (1, .int x1), (2, .int x2), (3, .int x3), (4, .int x4), (5, .int x5), (6, .int x6), (7, .int x7), (8, .int (V 15 (x7).toNatClampNeg))]) dX9_ruledDrift_77 (by decide) rfl ?_
    refine wp_iload_n (i := 3) dX9_ruledDrift_79 rfl rfl ?_
    refine wp_if_eq 93 dX9_ruledDrift_80 (by decide) (fun q => ?_) (fun q => ?_)
    · replace hv := hv.1 q
      refine wp_aload_n (i := 0) dX9_ruledDrift_93 rfl rfl ?_
      refine wz_getR (b := 15) dX9_ruledDrift_94 (k13 hK) (f9_19 _ (by decide)) rfl ?_
      refine wp_iload dX9_ruledDrift_97 rfl ?_
      obtain ⟨z5, hv⟩ := hv
      refine wz_iaload dX9_ruledDrift_99 (k15 hK) z5 ?_
      refine wx_istore (ls' := [(0, .ref 13), (1, .int x1), (2, .int x2), (3, .int x3), (4, .int x4), (5, .int x5), (6, .int x6), (7, .int x7), (8, .int (V 15 (x7).toNatClampNeg)), (9, .int (V 15 (x7).toNatClampNeg))]) dX9_ruledDrift_100 (by decide) rfl ?_
      refine wp_iload dX9_ruledDrift_102 rfl ?_
      refine wp_iload dX9_ruledDrift_104 rfl ?_
      refine wp_iadd dX9_ruledDrift_106 ?_
      refine wx_istore (ls' := [(0, .ref 13), (1, .int x1), (2, .int x2), (3, .int x3), (4, .int (x4 + (V 15 (x7).toNatClampNeg))), (5, .int x5), (6, .int x6), (7, .int x7), (8, .int (V 15 (x7).toNatClampNeg)), (9, .int (V 15 (x7).toNatClampNeg))]) dX9_ruledDrift_107 (by decide) rfl ?_
      refine wp_iload dX9_ruledDrift_109 rfl ?_
      refine wp_iload dX9_ruledDrift_111 rfl ?_
      refine wp_iadd dX9_ruledDrift_113 ?_
      refine wp_iload dX9_ruledDrift_114 rfl ?_
      refine wp_isub dX9_ruledDrift_116 ?_
      refine wp_iconst (v := 0) dX9_ruledDrift_117 (by decide) ?_
      refine wp_mmax dX9_ruledDrift_118 ma9_48 mmax1 mth2 mmax3 (Nat.le_of_ble_eq_true rfl) ⟨Nat.le_refl _, Nat.le_refl _⟩ ?_
      refine wx_istore (ls' := [(0, .ref 13), (1, .int x1), (2, .int x2), (3, .int x3), (4, .int (x4 + (V 15 (x7).toNatClampNeg))), (5, .int x5), (6, .int (if ((x6 + (V 15 (x7).toNatClampNeg)) - (V 15 (x7).toNatClampNeg)) < (0 : Int32) then (0 : Int32) else ((x6 + (V 15 (x7).toNatClampNeg)) - (V 15 (x7).toNatClampNeg)))), (7, .int x7), (8, .int (V 15 (x7).toNatClampNeg)), (9, .int (V 15 (x7).toNatClampNeg))]) dX9_ruledDrift_121 (by decide) rfl ?_
      refine wx_iinc (v := 1) (ls' := [(0, .ref 13), (1, .int x1), (2, .int x2), (3, .int x3), (4, .int (x4 + (V 15 (x7).toNatClampNeg))), (5, .int x5), (6, .int (if ((x6 + (V 15 (x7).toNatClampNeg)) - (V 15 (x7).toNatClampNeg)) < (0 : Int32) then (0 : Int32) else ((x6 + (V 15 (x7).toNatClampNeg)) - (V 15 (x7).toNatClampNeg)))), (7, .int (x7 + 1)), (8, .int (V 15 (x7).toNatClampNeg)), (9, .int (V 15 (x7).toNatClampNeg))]) dX9_ruledDrift_123 rfl (by decide) (by decide) rfl ?_
      refine wp_goto 14 dX9_ruledDrift_126 (by decide) ?_
      refine wx_sub (ls' := [(0, .ref 13), (1, .int x1), (2, .int x2), (3, .int x3), (4, .int (x4 + (V 15 (x7).toNatClampNeg))), (5, .int x5), (6, .int (if ((x6 + (V 15 (x7).toNatClampNeg)) - (V 15 (x7).toNatClampNeg)) < (0 : Int32) then (0 : Int32) else ((x6 + (V 15 (x7).toNatClampNeg)) - (V 15 (x7).toNatClampNeg)))), (7, .int (x7 + 1))]) [0, 1, 2, 3, 4, 5, 6, 7] rfl ?_
      exact hv Q hq
    · replace hv := hv.2 q
      refine wp_aload_n (i := 0) dX9_ruledDrift_83 rfl rfl ?_
      refine wz_getR (b := 14) dX9_ruledDrift_84 (k13 hK) (f9_15 _ (by decide)) rfl ?_
      refine wp_iload dX9_ruledDrift_87 rfl ?_
      obtain ⟨z6, hv⟩ := hv
      refine wz_iaload dX9_ruledDrift_89 (k14 hK) z6 ?_
      refine wp_goto 100 dX9_ruledDrift_90 (by decide) ?_
      refine wx_istore (ls' := [(0, .ref 13), (1, .int x1), (2, .int x2), (3, .int x3), (4, .int x4), (5, .int x5), (6, .int x6), (7, .int x7), (8, .int (V 15 (x7).toNatClampNeg)), (9, .int (V 14 (x7).toNatClampNeg))]) dX9_ruledDrift_100 (by decide) rfl ?_
      refine wp_iload dX9_ruledDrift_102 rfl ?_
      refine wp_iload dX9_ruledDrift_104 rfl ?_
      refine wp_iadd dX9_ruledDrift_106 ?_
      refine wx_istore (ls' := [(0, .ref 13), (1, .int x1), (2, .int x2), (3, .int x3), (4, .int (x4 + (V 15 (x7).toNatClampNeg))), (5, .int x5), (6, .int x6), (7, .int x7), (8, .int (V 15 (x7).toNatClampNeg)), (9, .int (V 14 (x7).toNatClampNeg))]) dX9_ruledDrift_107 (by decide) rfl ?_
      refine wp_iload dX9_ruledDrift_109 rfl ?_
      refine wp_iload dX9_ruledDrift_111 rfl ?_
      refine wp_iadd dX9_ruledDrift_113 ?_
      refine wp_iload dX9_ruledDrift_114 rfl ?_
      refine wp_isub dX9_ruledDrift_116 ?_
      refine wp_iconst (v := 0) dX9_ruledDrift_117 (by decide) ?_
      refine wp_mmax dX9_ruledDrift_118 ma9_48 mmax1 mth2 mmax3 (Nat.le_of_ble_eq_true rfl) ⟨Nat.le_refl _, Nat.le_refl _⟩ ?_
      refine wx_istore (ls' := [(0, .ref 13), (1, .int x1), (2, .int x2), (3, .int x3), (4, .int (x4 + (V 15 (x7).toNatClampNeg))), (5, .int x5), (6, .int (if ((x6 + (V 15 (x7).toNatClampNeg)) - (V 14 (x7).toNatClampNeg)) < (0 : Int32) then (0 : Int32) else ((x6 + (V 15 (x7).toNatClampNeg)) - (V 14 (x7).toNatClampNeg)))), (7, .int x7), (8, .int (V 15 (x7).toNatClampNeg)), (9, .int (V 14 (x7).toNatClampNeg))]) dX9_ruledDrift_121 (by decide) rfl ?_
      refine wx_iinc (v := 1) (ls' := [(0, .ref 13), (1, .int x1), (2, .int x2), (3, .int x3), (4, .int (x4 + (V 15 (x7).toNatClampNeg))), (5, .int x5), (6, .int (if ((x6 + (V 15 (x7).toNatClampNeg)) - (V 14 (x7).toNatClampNeg)) < (0 : Int32) then (0 : Int32) else ((x6 + (V 15 (x7).toNatClampNeg)) - (V 14 (x7).toNatClampNeg)))), (7, .int (x7 + 1)), (8, .int (V 15 (x7).toNatClampNeg)), (9, .int (V 14 (x7).toNatClampNeg))]) dX9_ruledDrift_123 rfl (by decide) (by decide) rfl ?_
      refine wp_goto 14 dX9_ruledDrift_126 (by decide) ?_
      refine wx_sub (ls' := [(0, .ref 13), (1, .int x1), (2, .int x2), (3, .int x3), (4, .int (x4 + (V 15 (x7).toNatClampNeg))), (5, .int x5), (6, .int (if ((x6 + (V 15 (x7).toNatClampNeg)) - (V 14 (x7).toNatClampNeg)) < (0 : Int32) then (0 : Int32) else ((x6 + (V 15 (x7).toNatClampNeg)) - (V 14 (x7).toNatClampNeg)))), (7, .int (x7 + 1))]) [0, 1, 2, 3, 4, 5, 6, 7] rfl ?_
      exact hv Q hq
theorem wX9_addCell_0 {x1 : Int32} (hK : StK K)  (hv : (vp_in (V 13 1) 60 ∧ (r = some (.int ((V 13 1) + (1 : Int32))) ∧ V' = (up2 (up2 V 16 ((V 13 1)).toNatClampNeg x1) 13 1 ((V 13 1) + (1 : Int32)))))) : Ev G d mX9_addCell 0 [(0, .ref 13), (1, .int x1)] (K, n, V, J, O) r (K, n, V', J, O) := by
  refine Ev.mk fun Q hq => ?_
  refine wp_aload_n (i := 0) dX9_addCell_0 rfl rfl ?_
  refine wz_getR (b := 16) dX9_addCell_1 (k13 hK) (f9_22 _ (by decide)) rfl ?_
  refine wp_aload_n (i := 0) dX9_addCell_4 rfl rfl ?_
  refine wz_getI dX9_addCell_5 (k13 hK) (f9_51 _ (by decide)) rfl ?_
  refine wp_iload_n (i := 1) dX9_addCell_8 rfl rfl ?_
  obtain ⟨z1, hv⟩ := hv
  refine wz_iastore dX9_addCell_9 (k16 hK) z1 ?_
  refine wp_aload_n (i := 0) dX9_addCell_10 rfl rfl ?_
  refine wp_dupR dX9_addCell_11 ?_
  refine wz_getIe (v := (V 13 1)) dX9_addCell_12 (k13 hK) (f9_51 _ (by decide)) rfl (up2_a (by decide)) ?_
  refine wp_iconst (v := 1) dX9_addCell_15 (by decide) ?_
  refine wp_iadd dX9_addCell_16 ?_
  refine wz_putI dX9_addCell_17 (k13 hK) (w9_51 _ (by decide)) rfl ?_
  refine wp_aload_n (i := 0) dX9_addCell_20 rfl rfl ?_
  refine wz_getIe (v := ((V 13 1) + (1 : Int32))) dX9_addCell_21 (k13 hK) (f9_51 _ (by decide)) rfl up2_s ?_
  obtain ⟨rfl, rfl⟩ := hv
  exact wp_ireturn dX9_addCell_24 rfl rfl rfl hq
theorem wX9_missesByUsed_0 {x1 : Int32} {x2 : Int32} (hK : StK K)  (hv : Ev G (d + 1) mX9_missesByUsed 8 [(0, .ref 13), (1, .int x1), (2, .int x2), (3, .int (0 : Int32)), (4, .int (0 : Int32)), (5, .int (0 : Int32))] (K, n, V, J, O) r (K, n, V', J, O)) : Ev G (d + 1) mX9_missesByUsed 0 [(0, .ref 13), (1, .int x1), (2, .int x2)] (K, n, V, J, O) r (K, n, V', J, O) := by
  refine Ev.mk fun Q hq => ?_
  refine wp_iconst (v := 0) dX9_missesByUsed_0 (by decide) ?_
  refine wx_istore_n (ls' := [(0, .ref 13), (1, .int x1), (2, .int x2), (3, .int (0 : Int32))]) (i := 3) dX9_missesByUsed_1 rfl (by decide) rfl ?_
  refine wp_iconst (v := 0) dX9_missesByUsed_2 (by decide) ?_
  refine wx_istore (ls' := [(0, .ref 13), (1, .int x1), (2, .int x2), (3, .int (0 : Int32)), (4, .int (0 : Int32))]) dX9_missesByUsed_3 (by decide) rfl ?_
  refine wp_iconst (v := 0) dX9_missesByUsed_5 (by decide) ?_
  refine wx_istore (ls' := [(0, .ref 13), (1, .int x1), (2, .int x2), (3, .int (0 : Int32)), (4, .int (0 : Int32)), (5, .int (0 : Int32))]) dX9_missesByUsed_6 (by decide) rfl ?_
  exact hv Q hq
theorem wX9_missesByUsed_8 {x1 : Int32} {x2 : Int32} {x3 : Int32} {x4 : Int32} {x5 : Int32} (hK : StK K)  (hv : (((V 13 1) ≤ x5 → (r = some (.int x4) ∧ V' = V)) ∧ (¬ (V 13 1) ≤ x5 → (vp_in x5 60 ∧ (¬ x1 = 0 ∧ (∃ (v2 : Int32), Ev G d mX9_heldAt 0 [(0, .ref 13), (1, .int ((V 16 (x5).toNatClampNeg) / x1)), (2, .int x3)] (K, n, V, J, O) (some (.int v2)) (K, n, V, J, O) ∧ ((v2 ≠ (-1 : Int32) → ((¬ (0 : Int32) < 0 ∧ ¬ (1 : Int32) < 0 ∧ ¬ v2 < 0 ∧ ((0 : Int32)).toNatClampNeg + (v2).toNatClampNeg ≤ 8 ∧ ((1 : Int32)).toNatClampNeg + (v2).toNatClampNeg ≤ 8) ∧ (vp_in (0 : Int32) 8 ∧ Ev G (d + 1) mX9_missesByUsed 8 [(0, .ref 13), (1, .int x1), (2, .int x2), (3, .int x3), (4, .int x4), (5, .int (x5 + 1))] (K, n, (up2 (upA V 17 (va_cpy (V 17) (V 17) ((0 : Int32)).toNatClampNeg ((1 : Int32)).toNatClampNeg (v2).toNatClampNeg)) 17 ((0 : Int32)).toNatClampNeg ((V 16 (x5).toNatClampNeg) / x1)), J, O) r (K, n, V', J, O)))) ∧ (v2 = (-1 : Int32) → ((¬ (0 : Int32) < 0 ∧ ¬ (1 : Int32) < 0 ∧ ¬ ((if x2 < (x3 + (1 : Int32)) then x2 else (x3 + (1 : Int32))) - (1 : Int32)) < 0 ∧ ((0 : Int32)).toNatClampNeg + (((if x2 < (x3 + (1 : Int32)) then x2 else (x3 + (1 : Int32))) - (1 : Int32))).toNatClampNeg ≤ 8 ∧ ((1 : Int32)).toNatClampNeg + (((if x2 < (x3 + (1 : Int32)) then x2 else (x3 + (1 : Int32))) - (1 : Int32))).toNatClampNeg ≤ 8) ∧ (vp_in (0 : Int32) 8 ∧ Ev G (d + 1) mX9_missesByUsed 8 [(0, .ref 13), (1, .int x1), (2, .int x2), (3, .int (if x2 < (x3 + (1 : Int32)) then x2 else (x3 + (1 : Int32)))), (4, .int (x4 + 1)), (5, .int (x5 + 1))] (K, n, (up2 (upA V 17 (va_cpy (V 17) (V 17) ((0 : Int32)).toNatClampNeg ((1 : Int32)).toNatClampNeg (((if x2 < (x3 + (1 : Int32)) then x2 else (x3 + (1 : Int32))) - (1 : Int32))).toNatClampNeg)) 17 ((0 : Int32)).toNatClampNeg ((V 16 (x5).toNatClampNeg) / x1)), J, O) r (K, n, V', J, O))))))))))) : Ev G (d + 1) mX9_missesByUsed 8 [(0, .ref 13), (1, .int x1), (2, .int x2), (3, .int x3), (4, .int x4), (5, .int x5)] (K, n, V, J, O) r (K, n, V', J, O) := by
  refine Ev.mk fun Q hq => ?_
  refine wp_iload dX9_missesByUsed_8 rfl ?_
  refine wp_aload_n (i := 0) dX9_missesByUsed_10 rfl rfl ?_
  refine wz_getI dX9_missesByUsed_11 (k13 hK) (f9_51 _ (by decide)) rfl ?_
  refine wp_icmp_ge 88 dX9_missesByUsed_14 (by decide) (fun q => ?_) (fun q => ?_)
  · replace hv := hv.1 q
    refine wp_iload dX9_missesByUsed_88 rfl ?_
    obtain ⟨rfl, rfl⟩ := hv
    exact wp_ireturn dX9_missesByUsed_90 rfl rfl rfl hq
  · replace hv := hv.2 q
    refine wp_aload_n (i := 0) dX9_missesByUsed_17 rfl rfl ?_
    refine wz_getR (b := 16) dX9_missesByUsed_18 (k13 hK) (f9_22 _ (by decide)) rfl ?_
    refine wp_iload dX9_missesByUsed_21 rfl ?_
    obtain ⟨z1, hv⟩ := hv
    refine wz_iaload dX9_missesByUsed_23 (k16 hK) z1 ?_
    refine wp_iload_n (i := 1) dX9_missesByUsed_24 rfl rfl ?_
    obtain ⟨nz, hv⟩ := hv
    refine wp_idiv dX9_missesByUsed_25 nz ?_
    refine wx_istore (ls' := [(0, .ref 13), (1, .int x1), (2, .int x2), (3, .int x3), (4, .int x4), (5, .int x5), (6, .int ((V 16 (x5).toNatClampNeg) / x1))]) dX9_missesByUsed_26 (by decide) rfl ?_
    refine wp_aload_n (i := 0) dX9_missesByUsed_28 rfl rfl ?_
    refine wp_iload dX9_missesByUsed_29 rfl ?_
    refine wp_iload_n (i := 3) dX9_missesByUsed_31 rfl rfl ?_
    obtain ⟨v2, hE, hv⟩ := hv
    refine wz_callV (vs := [.int ((V 16 (x5).toNatClampNeg) / x1), .int x3]) (st := []) dX9_missesByUsed_32 (k13 hK) rfl k9_54_9 hE rfl (Nat.le_of_ble_eq_true rfl) (Nat.le_of_ble_eq_true rfl) ?_
    change wp _ _ _ _ _ [.int v2] _ _ _
    refine wx_istore (ls' := [(0, .ref 13), (1, .int x1), (2, .int x2), (3, .int x3), (4, .int x4), (5, .int x5), (6, .int ((V 16 (x5).toNatClampNeg) / x1)), (7, .int v2)]) dX9_missesByUsed_35 (by decide) rfl ?_
    refine wp_iload dX9_missesByUsed_37 rfl ?_
    refine wp_iconst (v := -1) dX9_missesByUsed_39 (by decide) ?_
    refine wp_icmp_ne 59 dX9_missesByUsed_40 (by decide) (fun q => ?_) (fun q => ?_)
    · replace hv := hv.1 q
      refine wp_aload_n (i := 0) dX9_missesByUsed_59 rfl rfl ?_
      refine wz_getR (b := 17) dX9_missesByUsed_60 (k13 hK) (f9_25 _ (by decide)) rfl ?_
      refine wp_iconst (v := 0) dX9_missesByUsed_63 (by decide) ?_
      refine wp_aload_n (i := 0) dX9_missesByUsed_64 rfl rfl ?_
      refine wz_getR (b := 17) dX9_missesByUsed_65 (k13 hK) (f9_25 _ (by decide)) rfl ?_
      refine wp_iconst (v := 1) dX9_missesByUsed_68 (by decide) ?_
      refine wp_iload dX9_missesByUsed_69 rfl ?_
      obtain ⟨⟨z1, z2, z3, z4, z5⟩, hv⟩ := hv
      refine wz_copyI dX9_missesByUsed_71 cp9_57 (k17 hK) (k17 hK) z1 z2 z3 z4 z5 (by decide) ?_
      refine wp_aload_n (i := 0) dX9_missesByUsed_74 rfl rfl ?_
      refine wz_getR (b := 17) dX9_missesByUsed_75 (k13 hK) (f9_25 _ (by decide)) rfl ?_
      refine wp_iconst (v := 0) dX9_missesByUsed_78 (by decide) ?_
      refine wp_iload dX9_missesByUsed_79 rfl ?_
      obtain ⟨z3, hv⟩ := hv
      refine wz_iastore dX9_missesByUsed_81 (k17 hK) z3 ?_
      refine wx_iinc (v := 1) (ls' := [(0, .ref 13), (1, .int x1), (2, .int x2), (3, .int x3), (4, .int x4), (5, .int (x5 + 1)), (6, .int ((V 16 (x5).toNatClampNeg) / x1)), (7, .int v2)]) dX9_missesByUsed_82 rfl (by decide) (by decide) rfl ?_
      refine wp_goto 8 dX9_missesByUsed_85 (by decide) ?_
      refine wx_sub (ls' := [(0, .ref 13), (1, .int x1), (2, .int x2), (3, .int x3), (4, .int x4), (5, .int (x5 + 1))]) [0, 1, 2, 3, 4, 5] rfl ?_
      exact hv Q hq
    · replace hv := hv.2 q
      refine wx_iinc (v := 1) (ls' := [(0, .ref 13), (1, .int x1), (2, .int x2), (3, .int x3), (4, .int (x4 + 1)), (5, .int x5), (6, .int ((V 16 (x5).toNatClampNeg) / x1)), (7, .int v2)]) dX9_missesByUsed_43 rfl (by decide) (by decide) rfl ?_
      refine wp_iload_n (i := 3) dX9_missesByUsed_46 rfl rfl ?_
      refine wp_iconst (v := 1) dX9_missesByUsed_47 (by decide) ?_
      refine wp_iadd dX9_missesByUsed_48 ?_
      refine wp_iload_n (i := 2) dX9_missesByUsed_49 rfl rfl ?_
      refine wp_mmin dX9_missesByUsed_50 ma9_42 mmin1 mth2 mmin3 (Nat.le_of_ble_eq_true rfl) ⟨Nat.le_refl _, Nat.le_refl _⟩ ?_
      refine wx_istore_n (ls' := [(0, .ref 13), (1, .int x1), (2, .int x2), (3, .int (if x2 < (x3 + (1 : Int32)) then x2 else (x3 + (1 : Int32)))), (4, .int (x4 + 1)), (5, .int x5), (6, .int ((V 16 (x5).toNatClampNeg) / x1)), (7, .int v2)]) (i := 3) dX9_missesByUsed_53 rfl (by decide) rfl ?_
      refine wp_iload_n (i := 3) dX9_missesByUsed_54 rfl rfl ?_
      refine wp_iconst (v := 1) dX9_missesByUsed_55 (by decide) ?_
      refine wp_isub dX9_missesByUsed_56 ?_
      refine wx_istore (ls' := [(0, .ref 13), (1, .int x1), (2, .int x2), (3, .int (if x2 < (x3 + (1 : Int32)) then x2 else (x3 + (1 : Int32)))), (4, .int (x4 + 1)), (5, .int x5), (6, .int ((V 16 (x5).toNatClampNeg) / x1)), (7, .int ((if x2 < (x3 + (1 : Int32)) then x2 else (x3 + (1 : Int32))) - (1 : Int32)))]) dX9_missesByUsed_57 (by decide) rfl ?_
      refine wp_aload_n (i := 0) dX9_missesByUsed_59 rfl rfl ?_
      refine wz_getR (b := 17) dX9_missesByUsed_60 (k13 hK) (f9_25 _ (by decide)) rfl ?_
      refine wp_iconst (v := 0) dX9_missesByUsed_63 (by decide) ?_
      refine wp_aload_n (i := 0) dX9_missesByUsed_64 rfl rfl ?_
      refine wz_getR (b := 17) dX9_missesByUsed_65 (k13 hK) (f9_25 _ (by decide)) rfl ?_
      refine wp_iconst (v := 1) dX9_missesByUsed_68 (by decide) ?_
      refine wp_iload dX9_missesByUsed_69 rfl ?_
      obtain ⟨⟨z1, z2, z3, z4, z5⟩, hv⟩ := hv
      refine wz_copyI dX9_missesByUsed_71 cp9_57 (k17 hK) (k17 hK) z1 z2 z3 z4 z5 (by decide) ?_
      refine wp_aload_n (i := 0) dX9_missesByUsed_74 rfl rfl ?_
      refine wz_getR (b := 17) dX9_missesByUsed_75 (k13 hK) (f9_25 _ (by decide)) rfl ?_
      refine wp_iconst (v := 0) dX9_missesByUsed_78 (by decide) ?_
      refine wp_iload dX9_missesByUsed_79 rfl ?_
      obtain ⟨z4, hv⟩ := hv
      refine wz_iastore dX9_missesByUsed_81 (k17 hK) z4 ?_
      refine wx_iinc (v := 1) (ls' := [(0, .ref 13), (1, .int x1), (2, .int x2), (3, .int (if x2 < (x3 + (1 : Int32)) then x2 else (x3 + (1 : Int32)))), (4, .int (x4 + 1)), (5, .int (x5 + 1)), (6, .int ((V 16 (x5).toNatClampNeg) / x1)), (7, .int ((if x2 < (x3 + (1 : Int32)) then x2 else (x3 + (1 : Int32))) - (1 : Int32)))]) dX9_missesByUsed_82 rfl (by decide) (by decide) rfl ?_
      refine wp_goto 8 dX9_missesByUsed_85 (by decide) ?_
      refine wx_sub (ls' := [(0, .ref 13), (1, .int x1), (2, .int x2), (3, .int (if x2 < (x3 + (1 : Int32)) then x2 else (x3 + (1 : Int32)))), (4, .int (x4 + 1)), (5, .int (x5 + 1))]) [0, 1, 2, 3, 4, 5] rfl ?_
      exact hv Q hq
theorem wX9_missesByComing_0 {x1 : Int32} {x2 : Int32} (hK : StK K)  (hv : Ev G (d + 1) mX9_missesByComing 8 [(0, .ref 13), (1, .int x1), (2, .int x2), (3, .int (0 : Int32)), (4, .int (0 : Int32)), (5, .int (0 : Int32))] (K, n, V, J, O) r (K, n, V', J, O)) : Ev G (d + 1) mX9_missesByComing 0 [(0, .ref 13), (1, .int x1), (2, .int x2)] (K, n, V, J, O) r (K, n, V', J, O) := by
  refine Ev.mk fun Q hq => ?_
  refine wp_iconst (v := 0) dX9_missesByComing_0 (by decide) ?_
  refine wx_istore_n (ls' := [(0, .ref 13), (1, .int x1), (2, .int x2), (3, .int (0 : Int32))]) (i := 3) dX9_missesByComing_1 rfl (by decide) rfl ?_
  refine wp_iconst (v := 0) dX9_missesByComing_2 (by decide) ?_
  refine wx_istore (ls' := [(0, .ref 13), (1, .int x1), (2, .int x2), (3, .int (0 : Int32)), (4, .int (0 : Int32))]) dX9_missesByComing_3 (by decide) rfl ?_
  refine wp_iconst (v := 0) dX9_missesByComing_5 (by decide) ?_
  refine wx_istore (ls' := [(0, .ref 13), (1, .int x1), (2, .int x2), (3, .int (0 : Int32)), (4, .int (0 : Int32)), (5, .int (0 : Int32))]) dX9_missesByComing_6 (by decide) rfl ?_
  exact hv Q hq
theorem wX9_missesByComing_8 {x1 : Int32} {x2 : Int32} {x3 : Int32} {x4 : Int32} {x5 : Int32} (hK : StK K)  (hv : (((V 13 1) ≤ x5 → (r = some (.int x4) ∧ V' = V)) ∧ (¬ (V 13 1) ≤ x5 → (vp_in x5 60 ∧ (¬ x1 = 0 ∧ (∃ (v2 : Int32), Ev G d mX9_heldAt 0 [(0, .ref 13), (1, .int ((V 16 (x5).toNatClampNeg) / x1)), (2, .int x3)] (K, n, V, J, O) (some (.int v2)) (K, n, V, J, O) ∧ ((v2 = (-1 : Int32) → ((x2 ≤ x3 → (∃ (v3 : Int32), Ev G d mX9_latestNeeded 0 [(0, .ref 13), (1, .int x1), (2, .int x3), (3, .int (x5 + (1 : Int32)))] (K, n, V, J, O) (some (.int v3)) (K, n, V, J, O) ∧ (vp_in v3 8 ∧ Ev G (d + 1) mX9_missesByComing 8 [(0, .ref 13), (1, .int x1), (2, .int x2), (3, .int x3), (4, .int (x4 + 1)), (5, .int (x5 + 1))] (K, n, (up2 V 17 (v3).toNatClampNeg ((V 16 (x5).toNatClampNeg) / x1)), J, O) r (K, n, V', J, O)))) ∧ (¬ x2 ≤ x3 → (vp_in x3 8 ∧ Ev G (d + 1) mX9_missesByComing 8 [(0, .ref 13), (1, .int x1), (2, .int x2), (3, .int (x3 + 1)), (4, .int (x4 + 1)), (5, .int (x5 + 1))] (K, n, (up2 V 17 (x3).toNatClampNeg ((V 16 (x5).toNatClampNeg) / x1)), J, O) r (K, n, V', J, O))))) ∧ (¬ v2 = (-1 : Int32) → Ev G (d + 1) mX9_missesByComing 8 [(0, .ref 13), (1, .int x1), (2, .int x2), (3, .int x3), (4, .int x4), (5, .int (x5 + 1))] (K, n, V, J, O) r (K, n, V', J, O))))))))) : Ev G (d + 1) mX9_missesByComing 8 [(0, .ref 13), (1, .int x1), (2, .int x2), (3, .int x3), (4, .int x4), (5, .int x5)] (K, n, V, J, O) r (K, n, V', J, O) := by
  refine Ev.mk fun Q hq => ?_
  refine wp_iload dX9_missesByComing_8 rfl ?_
  refine wp_aload_n (i := 0) dX9_missesByComing_10 rfl rfl ?_
  refine wz_getI dX9_missesByComing_11 (k13 hK) (f9_51 _ (by decide)) rfl ?_
  refine wp_icmp_ge 87 dX9_missesByComing_14 (by decide) (fun q => ?_) (fun q => ?_)
  · replace hv := hv.1 q
    refine wp_iload dX9_missesByComing_87 rfl ?_
    obtain ⟨rfl, rfl⟩ := hv
    exact wp_ireturn dX9_missesByComing_89 rfl rfl rfl hq
  · replace hv := hv.2 q
    refine wp_aload_n (i := 0) dX9_missesByComing_17 rfl rfl ?_
    refine wz_getR (b := 16) dX9_missesByComing_18 (k13 hK) (f9_22 _ (by decide)) rfl ?_
    refine wp_iload dX9_missesByComing_21 rfl ?_
    obtain ⟨z1, hv⟩ := hv
    refine wz_iaload dX9_missesByComing_23 (k16 hK) z1 ?_
    refine wp_iload_n (i := 1) dX9_missesByComing_24 rfl rfl ?_
    obtain ⟨nz, hv⟩ := hv
    refine wp_idiv dX9_missesByComing_25 nz ?_
    refine wx_istore (ls' := [(0, .ref 13), (1, .int x1), (2, .int x2), (3, .int x3), (4, .int x4), (5, .int x5), (6, .int ((V 16 (x5).toNatClampNeg) / x1))]) dX9_missesByComing_26 (by decide) rfl ?_
    refine wp_aload_n (i := 0) dX9_missesByComing_28 rfl rfl ?_
    refine wp_iload dX9_missesByComing_29 rfl ?_
    refine wp_iload_n (i := 3) dX9_missesByComing_31 rfl rfl ?_
    obtain ⟨v2, hE, hv⟩ := hv
    refine wz_callV (vs := [.int ((V 16 (x5).toNatClampNeg) / x1), .int x3]) (st := []) dX9_missesByComing_32 (k13 hK) rfl k9_54_9 hE rfl (Nat.le_of_ble_eq_true rfl) (Nat.le_of_ble_eq_true rfl) ?_
    change wp _ _ _ _ _ [.int v2] _ _ _
    refine wp_iconst (v := -1) dX9_missesByComing_35 (by decide) ?_
    refine wp_icmp_eq 42 dX9_missesByComing_36 (by decide) (fun q => ?_) (fun q => ?_)
    · replace hv := hv.1 q
      refine wx_iinc (v := 1) (ls' := [(0, .ref 13), (1, .int x1), (2, .int x2), (3, .int x3), (4, .int (x4 + 1)), (5, .int x5), (6, .int ((V 16 (x5).toNatClampNeg) / x1))]) dX9_missesByComing_42 rfl (by decide) (by decide) rfl ?_
      refine wp_iload_n (i := 3) dX9_missesByComing_45 rfl rfl ?_
      refine wp_iload_n (i := 2) dX9_missesByComing_46 rfl rfl ?_
      refine wp_icmp_ge 64 dX9_missesByComing_47 (by decide) (fun q => ?_) (fun q => ?_)
      · replace hv := hv.1 q
        refine wp_aload_n (i := 0) dX9_missesByComing_64 rfl rfl ?_
        refine wz_getR (b := 17) dX9_missesByComing_65 (k13 hK) (f9_25 _ (by decide)) rfl ?_
        refine wp_aload_n (i := 0) dX9_missesByComing_68 rfl rfl ?_
        refine wp_iload_n (i := 1) dX9_missesByComing_69 rfl rfl ?_
        refine wp_iload_n (i := 3) dX9_missesByComing_70 rfl rfl ?_
        refine wp_iload dX9_missesByComing_71 rfl ?_
        refine wp_iconst (v := 1) dX9_missesByComing_73 (by decide) ?_
        refine wp_iadd dX9_missesByComing_74 ?_
        obtain ⟨v3, hE, hv⟩ := hv
        refine wz_callV (vs := [.int x1, .int x3, .int (x5 + (1 : Int32))]) (st := [.ref 17]) dX9_missesByComing_75 (k13 hK) rfl k9_63_9 hE rfl (Nat.le_of_ble_eq_true rfl) (Nat.le_of_ble_eq_true rfl) ?_
        change wp _ _ _ _ _ [.int v3, .ref 17] _ _ _
        refine wp_iload dX9_missesByComing_78 rfl ?_
        obtain ⟨z4, hv⟩ := hv
        refine wz_iastore dX9_missesByComing_80 (k17 hK) z4 ?_
        refine wx_iinc (v := 1) (ls' := [(0, .ref 13), (1, .int x1), (2, .int x2), (3, .int x3), (4, .int (x4 + 1)), (5, .int (x5 + 1)), (6, .int ((V 16 (x5).toNatClampNeg) / x1))]) dX9_missesByComing_81 rfl (by decide) (by decide) rfl ?_
        refine wp_goto 8 dX9_missesByComing_84 (by decide) ?_
        refine wx_sub (ls' := [(0, .ref 13), (1, .int x1), (2, .int x2), (3, .int x3), (4, .int (x4 + 1)), (5, .int (x5 + 1))]) [0, 1, 2, 3, 4, 5] rfl ?_
        exact hv Q hq
      · replace hv := hv.2 q
        refine wp_aload_n (i := 0) dX9_missesByComing_50 rfl rfl ?_
        refine wz_getR (b := 17) dX9_missesByComing_51 (k13 hK) (f9_25 _ (by decide)) rfl ?_
        refine wp_iload_n (i := 3) dX9_missesByComing_54 rfl rfl ?_
        refine wp_iload dX9_missesByComing_55 rfl ?_
        obtain ⟨z5, hv⟩ := hv
        refine wz_iastore dX9_missesByComing_57 (k17 hK) z5 ?_
        refine wx_iinc (v := 1) (ls' := [(0, .ref 13), (1, .int x1), (2, .int x2), (3, .int (x3 + 1)), (4, .int (x4 + 1)), (5, .int x5), (6, .int ((V 16 (x5).toNatClampNeg) / x1))]) dX9_missesByComing_58 rfl (by decide) (by decide) rfl ?_
        refine wp_goto 81 dX9_missesByComing_61 (by decide) ?_
        refine wx_iinc (v := 1) (ls' := [(0, .ref 13), (1, .int x1), (2, .int x2), (3, .int (x3 + 1)), (4, .int (x4 + 1)), (5, .int (x5 + 1)), (6, .int ((V 16 (x5).toNatClampNeg) / x1))]) dX9_missesByComing_81 rfl (by decide) (by decide) rfl ?_
        refine wp_goto 8 dX9_missesByComing_84 (by decide) ?_
        refine wx_sub (ls' := [(0, .ref 13), (1, .int x1), (2, .int x2), (3, .int (x3 + 1)), (4, .int (x4 + 1)), (5, .int (x5 + 1))]) [0, 1, 2, 3, 4, 5] rfl ?_
        exact hv Q hq
    · replace hv := hv.2 q
      refine wp_goto 81 dX9_missesByComing_39 (by decide) ?_
      refine wx_iinc (v := 1) (ls' := [(0, .ref 13), (1, .int x1), (2, .int x2), (3, .int x3), (4, .int x4), (5, .int (x5 + 1)), (6, .int ((V 16 (x5).toNatClampNeg) / x1))]) dX9_missesByComing_81 rfl (by decide) (by decide) rfl ?_
      refine wp_goto 8 dX9_missesByComing_84 (by decide) ?_
      refine wx_sub (ls' := [(0, .ref 13), (1, .int x1), (2, .int x2), (3, .int x3), (4, .int x4), (5, .int (x5 + 1))]) [0, 1, 2, 3, 4, 5] rfl ?_
      exact hv Q hq
theorem wX9_heldAt_0 {x1 : Int32} {x2 : Int32} (hK : StK K)  (hv : Ev G d mX9_heldAt 2 [(0, .ref 13), (1, .int x1), (2, .int x2), (3, .int (0 : Int32))] (K, n, V, J, O) r (K, n, V, J, O)) : Ev G d mX9_heldAt 0 [(0, .ref 13), (1, .int x1), (2, .int x2)] (K, n, V, J, O) r (K, n, V, J, O) := by
  refine Ev.mk fun Q hq => ?_
  refine wp_iconst (v := 0) dX9_heldAt_0 (by decide) ?_
  refine wx_istore_n (ls' := [(0, .ref 13), (1, .int x1), (2, .int x2), (3, .int (0 : Int32))]) (i := 3) dX9_heldAt_1 rfl (by decide) rfl ?_
  exact hv Q hq
theorem wX9_heldAt_2 {x1 : Int32} {x2 : Int32} {x3 : Int32} (hK : StK K)  (hv : ((x2 ≤ x3 → r = some (.int (-1 : Int32))) ∧ (¬ x2 ≤ x3 → (vp_in x3 8 ∧ (((V 17 (x3).toNatClampNeg) ≠ x1 → Ev G d mX9_heldAt 2 [(0, .ref 13), (1, .int x1), (2, .int x2), (3, .int (x3 + 1))] (K, n, V, J, O) r (K, n, V, J, O)) ∧ ((V 17 (x3).toNatClampNeg) = x1 → r = some (.int x3))))))) : Ev G d mX9_heldAt 2 [(0, .ref 13), (1, .int x1), (2, .int x2), (3, .int x3)] (K, n, V, J, O) r (K, n, V, J, O) := by
  refine Ev.mk fun Q hq => ?_
  refine wp_iload_n (i := 3) dX9_heldAt_2 rfl rfl ?_
  refine wp_iload_n (i := 2) dX9_heldAt_3 rfl rfl ?_
  refine wp_icmp_ge 25 dX9_heldAt_4 (by decide) (fun q => ?_) (fun q => ?_)
  · replace hv := hv.1 q
    refine wp_iconst (v := -1) dX9_heldAt_25 (by decide) ?_
    obtain rfl := hv
    exact wp_ireturn dX9_heldAt_26 rfl rfl rfl hq
  · replace hv := hv.2 q
    refine wp_aload_n (i := 0) dX9_heldAt_7 rfl rfl ?_
    refine wz_getR (b := 17) dX9_heldAt_8 (k13 hK) (f9_25 _ (by decide)) rfl ?_
    refine wp_iload_n (i := 3) dX9_heldAt_11 rfl rfl ?_
    obtain ⟨z1, hv⟩ := hv
    refine wz_iaload dX9_heldAt_12 (k17 hK) z1 ?_
    refine wp_iload_n (i := 1) dX9_heldAt_13 rfl rfl ?_
    refine wp_icmp_ne 19 dX9_heldAt_14 (by decide) (fun q => ?_) (fun q => ?_)
    · replace hv := hv.1 q
      refine wx_iinc (v := 1) (ls' := [(0, .ref 13), (1, .int x1), (2, .int x2), (3, .int (x3 + 1))]) dX9_heldAt_19 rfl (by decide) (by decide) rfl ?_
      refine wp_goto 2 dX9_heldAt_22 (by decide) ?_
      exact hv Q hq
    · replace hv := hv.2 q
      refine wp_iload_n (i := 3) dX9_heldAt_17 rfl rfl ?_
      obtain rfl := hv
      exact wp_ireturn dX9_heldAt_18 rfl rfl rfl hq
theorem wX9_latestNeeded_0 {x1 : Int32} {x2 : Int32} {x3 : Int32} (hK : StK K)  (hv : Ev G (d + 1) mX9_latestNeeded 9 [(0, .ref 13), (1, .int x1), (2, .int x2), (3, .int x3), (4, .int (0 : Int32)), (5, .int (-1 : Int32)), (6, .int (0 : Int32))] (K, n, V, J, O) r (K, n, V, J, O)) : Ev G (d + 1) mX9_latestNeeded 0 [(0, .ref 13), (1, .int x1), (2, .int x2), (3, .int x3)] (K, n, V, J, O) r (K, n, V, J, O) := by
  refine Ev.mk fun Q hq => ?_
  refine wp_iconst (v := 0) dX9_latestNeeded_0 (by decide) ?_
  refine wx_istore (ls' := [(0, .ref 13), (1, .int x1), (2, .int x2), (3, .int x3), (4, .int (0 : Int32))]) dX9_latestNeeded_1 (by decide) rfl ?_
  refine wp_iconst (v := -1) dX9_latestNeeded_3 (by decide) ?_
  refine wx_istore (ls' := [(0, .ref 13), (1, .int x1), (2, .int x2), (3, .int x3), (4, .int (0 : Int32)), (5, .int (-1 : Int32))]) dX9_latestNeeded_4 (by decide) rfl ?_
  refine wp_iconst (v := 0) dX9_latestNeeded_6 (by decide) ?_
  refine wx_istore (ls' := [(0, .ref 13), (1, .int x1), (2, .int x2), (3, .int x3), (4, .int (0 : Int32)), (5, .int (-1 : Int32)), (6, .int (0 : Int32))]) dX9_latestNeeded_7 (by decide) rfl ?_
  exact hv Q hq
theorem wX9_latestNeeded_9 {x1 : Int32} {x2 : Int32} {x3 : Int32} {x4 : Int32} {x5 : Int32} {x6 : Int32} (hK : StK K)  (hv : ((x2 ≤ x6 → r = some (.int x4)) ∧ (¬ x2 ≤ x6 → (vp_in x6 8 ∧ (∃ (v2 : Int32), Ev G d mX9_nextUse 0 [(0, .ref 13), (1, .int (V 17 (x6).toNatClampNeg)), (2, .int x1), (3, .int x3)] (K, n, V, J, O) (some (.int v2)) (K, n, V, J, O) ∧ ((x5 < v2 → Ev G (d + 1) mX9_latestNeeded 9 [(0, .ref 13), (1, .int x1), (2, .int x2), (3, .int x3), (4, .int x6), (5, .int v2), (6, .int (x6 + 1))] (K, n, V, J, O) r (K, n, V, J, O)) ∧ (¬ x5 < v2 → ((v2 ≠ x5 → Ev G (d + 1) mX9_latestNeeded 9 [(0, .ref 13), (1, .int x1), (2, .int x2), (3, .int x3), (4, .int x4), (5, .int x5), (6, .int (x6 + 1))] (K, n, V, J, O) r (K, n, V, J, O)) ∧ (v2 = x5 → (vp_in x6 8 ∧ (vp_in x4 8 ∧ (((V 17 (x4).toNatClampNeg) ≤ (V 17 (x6).toNatClampNeg) → Ev G (d + 1) mX9_latestNeeded 9 [(0, .ref 13), (1, .int x1), (2, .int x2), (3, .int x3), (4, .int x4), (5, .int x5), (6, .int (x6 + 1))] (K, n, V, J, O) r (K, n, V, J, O)) ∧ (¬ (V 17 (x4).toNatClampNeg) ≤ (V 17 (x6).toNatClampNeg) → Ev G (d + 1) mX9_latestNeeded 9 [(0, .ref 13), (1, .int x1), (2, .int x2), (3, .int x3), (4, .int x6), (5, .int v2), (6, .int (x6 + 1))] (K, n, V, J, O) r (K, n, V, J, O)))))))))))))) : Ev G (d + 1) mX9_latestNeeded 9 [(0, .ref 13), (1, .int x1), (2, .int x2), (3, .int x3), (4, .int x4), (5, .int x5), (6, .int x6)] (K, n, V, J, O) r (K, n, V, J, O) := by
  refine Ev.mk fun Q hq => ?_
  refine wp_iload dX9_latestNeeded_9 rfl ?_
  refine wp_iload_n (i := 2) dX9_latestNeeded_11 rfl rfl ?_
  refine wp_icmp_ge 75 dX9_latestNeeded_12 (by decide) (fun q => ?_) (fun q => ?_)
  · replace hv := hv.1 q
    refine wp_iload dX9_latestNeeded_75 rfl ?_
    obtain rfl := hv
    exact wp_ireturn dX9_latestNeeded_77 rfl rfl rfl hq
  · replace hv := hv.2 q
    refine wp_aload_n (i := 0) dX9_latestNeeded_15 rfl rfl ?_
    refine wp_aload_n (i := 0) dX9_latestNeeded_16 rfl rfl ?_
    refine wz_getR (b := 17) dX9_latestNeeded_17 (k13 hK) (f9_25 _ (by decide)) rfl ?_
    refine wp_iload dX9_latestNeeded_20 rfl ?_
    obtain ⟨z1, hv⟩ := hv
    refine wz_iaload dX9_latestNeeded_22 (k17 hK) z1 ?_
    refine wp_iload_n (i := 1) dX9_latestNeeded_23 rfl rfl ?_
    refine wp_iload_n (i := 3) dX9_latestNeeded_24 rfl rfl ?_
    obtain ⟨v2, hE, hv⟩ := hv
    refine wz_callV (vs := [.int (V 17 (x6).toNatClampNeg), .int x1, .int x3]) (st := []) dX9_latestNeeded_25 (k13 hK) rfl k9_67_9 hE rfl (Nat.le_of_ble_eq_true rfl) (Nat.le_of_ble_eq_true rfl) ?_
    change wp _ _ _ _ _ [.int v2] _ _ _
    refine wx_istore (ls' := [(0, .ref 13), (1, .int x1), (2, .int x2), (3, .int x3), (4, .int x4), (5, .int x5), (6, .int x6), (7, .int v2)]) dX9_latestNeeded_28 (by decide) rfl ?_
    refine wp_iload dX9_latestNeeded_30 rfl ?_
    refine wp_iload dX9_latestNeeded_32 rfl ?_
    refine wp_icmp_gt 61 dX9_latestNeeded_34 (by decide) (fun q => ?_) (fun q => ?_)
    · replace hv := hv.1 q
      refine wp_iload dX9_latestNeeded_61 rfl ?_
      refine wx_istore (ls' := [(0, .ref 13), (1, .int x1), (2, .int x2), (3, .int x3), (4, .int x6), (5, .int x5), (6, .int x6), (7, .int v2)]) dX9_latestNeeded_63 (by decide) rfl ?_
      refine wp_iload dX9_latestNeeded_65 rfl ?_
      refine wx_istore (ls' := [(0, .ref 13), (1, .int x1), (2, .int x2), (3, .int x3), (4, .int x6), (5, .int v2), (6, .int x6), (7, .int v2)]) dX9_latestNeeded_67 (by decide) rfl ?_
      refine wx_iinc (v := 1) (ls' := [(0, .ref 13), (1, .int x1), (2, .int x2), (3, .int x3), (4, .int x6), (5, .int v2), (6, .int (x6 + 1)), (7, .int v2)]) dX9_latestNeeded_69 rfl (by decide) (by decide) rfl ?_
      refine wp_goto 9 dX9_latestNeeded_72 (by decide) ?_
      refine wx_sub (ls' := [(0, .ref 13), (1, .int x1), (2, .int x2), (3, .int x3), (4, .int x6), (5, .int v2), (6, .int (x6 + 1))]) [0, 1, 2, 3, 4, 5, 6] rfl ?_
      exact hv Q hq
    · replace hv := hv.2 q
      refine wp_iload dX9_latestNeeded_37 rfl ?_
      refine wp_iload dX9_latestNeeded_39 rfl ?_
      refine wp_icmp_ne 69 dX9_latestNeeded_41 (by decide) (fun q => ?_) (fun q => ?_)
      · replace hv := hv.1 q
        refine wx_iinc (v := 1) (ls' := [(0, .ref 13), (1, .int x1), (2, .int x2), (3, .int x3), (4, .int x4), (5, .int x5), (6, .int (x6 + 1)), (7, .int v2)]) dX9_latestNeeded_69 rfl (by decide) (by decide) rfl ?_
        refine wp_goto 9 dX9_latestNeeded_72 (by decide) ?_
        refine wx_sub (ls' := [(0, .ref 13), (1, .int x1), (2, .int x2), (3, .int x3), (4, .int x4), (5, .int x5), (6, .int (x6 + 1))]) [0, 1, 2, 3, 4, 5, 6] rfl ?_
        exact hv Q hq
      · replace hv := hv.2 q
        refine wp_aload_n (i := 0) dX9_latestNeeded_44 rfl rfl ?_
        refine wz_getR (b := 17) dX9_latestNeeded_45 (k13 hK) (f9_25 _ (by decide)) rfl ?_
        refine wp_iload dX9_latestNeeded_48 rfl ?_
        obtain ⟨z3, hv⟩ := hv
        refine wz_iaload dX9_latestNeeded_50 (k17 hK) z3 ?_
        refine wp_aload_n (i := 0) dX9_latestNeeded_51 rfl rfl ?_
        refine wz_getR (b := 17) dX9_latestNeeded_52 (k13 hK) (f9_25 _ (by decide)) rfl ?_
        refine wp_iload dX9_latestNeeded_55 rfl ?_
        obtain ⟨z4, hv⟩ := hv
        refine wz_iaload dX9_latestNeeded_57 (k17 hK) z4 ?_
        refine wp_icmp_ge 69 dX9_latestNeeded_58 (by decide) (fun q => ?_) (fun q => ?_)
        · replace hv := hv.1 q
          refine wx_iinc (v := 1) (ls' := [(0, .ref 13), (1, .int x1), (2, .int x2), (3, .int x3), (4, .int x4), (5, .int x5), (6, .int (x6 + 1)), (7, .int v2)]) dX9_latestNeeded_69 rfl (by decide) (by decide) rfl ?_
          refine wp_goto 9 dX9_latestNeeded_72 (by decide) ?_
          refine wx_sub (ls' := [(0, .ref 13), (1, .int x1), (2, .int x2), (3, .int x3), (4, .int x4), (5, .int x5), (6, .int (x6 + 1))]) [0, 1, 2, 3, 4, 5, 6] rfl ?_
          exact hv Q hq
        · replace hv := hv.2 q
          refine wp_iload dX9_latestNeeded_61 rfl ?_
          refine wx_istore (ls' := [(0, .ref 13), (1, .int x1), (2, .int x2), (3, .int x3), (4, .int x6), (5, .int x5), (6, .int x6), (7, .int v2)]) dX9_latestNeeded_63 (by decide) rfl ?_
          refine wp_iload dX9_latestNeeded_65 rfl ?_
          refine wx_istore (ls' := [(0, .ref 13), (1, .int x1), (2, .int x2), (3, .int x3), (4, .int x6), (5, .int v2), (6, .int x6), (7, .int v2)]) dX9_latestNeeded_67 (by decide) rfl ?_
          refine wx_iinc (v := 1) (ls' := [(0, .ref 13), (1, .int x1), (2, .int x2), (3, .int x3), (4, .int x6), (5, .int v2), (6, .int (x6 + 1)), (7, .int v2)]) dX9_latestNeeded_69 rfl (by decide) (by decide) rfl ?_
          refine wp_goto 9 dX9_latestNeeded_72 (by decide) ?_
          refine wx_sub (ls' := [(0, .ref 13), (1, .int x1), (2, .int x2), (3, .int x3), (4, .int x6), (5, .int v2), (6, .int (x6 + 1))]) [0, 1, 2, 3, 4, 5, 6] rfl ?_
          exact hv Q hq
theorem wX9_nextUse_0 {x1 : Int32} {x2 : Int32} {x3 : Int32} (hK : StK K)  (hv : Ev G d mX9_nextUse 3 [(0, .ref 13), (1, .int x1), (2, .int x2), (3, .int x3), (4, .int x3)] (K, n, V, J, O) r (K, n, V, J, O)) : Ev G d mX9_nextUse 0 [(0, .ref 13), (1, .int x1), (2, .int x2), (3, .int x3)] (K, n, V, J, O) r (K, n, V, J, O) := by
  refine Ev.mk fun Q hq => ?_
  refine wp_iload_n (i := 3) dX9_nextUse_0 rfl rfl ?_
  refine wx_istore (ls' := [(0, .ref 13), (1, .int x1), (2, .int x2), (3, .int x3), (4, .int x3)]) dX9_nextUse_1 (by decide) rfl ?_
  exact hv Q hq
theorem wX9_nextUse_3 {x1 : Int32} {x2 : Int32} {x3 : Int32} {x4 : Int32} (hK : StK K)  (hv : (((V 13 1) ≤ x4 → r = some (.int x4)) ∧ (¬ (V 13 1) ≤ x4 → (vp_in x4 60 ∧ (¬ x2 = 0 ∧ ((((V 16 (x4).toNatClampNeg) / x2) = x1 → r = some (.int x4)) ∧ (¬ ((V 16 (x4).toNatClampNeg) / x2) = x1 → Ev G d mX9_nextUse 3 [(0, .ref 13), (1, .int x1), (2, .int x2), (3, .int x3), (4, .int (x4 + 1))] (K, n, V, J, O) r (K, n, V, J, O)))))))) : Ev G d mX9_nextUse 3 [(0, .ref 13), (1, .int x1), (2, .int x2), (3, .int x3), (4, .int x4)] (K, n, V, J, O) r (K, n, V, J, O) := by
  refine Ev.mk fun Q hq => ?_
  refine wp_iload dX9_nextUse_3 rfl ?_
  refine wp_aload_n (i := 0) dX9_nextUse_5 rfl rfl ?_
  refine wz_getI dX9_nextUse_6 (k13 hK) (f9_51 _ (by decide)) rfl ?_
  refine wp_icmp_ge 31 dX9_nextUse_9 (by decide) (fun q => ?_) (fun q => ?_)
  · replace hv := hv.1 q
    refine wp_iload dX9_nextUse_31 rfl ?_
    obtain rfl := hv
    exact wp_ireturn dX9_nextUse_33 rfl rfl rfl hq
  · replace hv := hv.2 q
    refine wp_aload_n (i := 0) dX9_nextUse_12 rfl rfl ?_
    refine wz_getR (b := 16) dX9_nextUse_13 (k13 hK) (f9_22 _ (by decide)) rfl ?_
    refine wp_iload dX9_nextUse_16 rfl ?_
    obtain ⟨z1, hv⟩ := hv
    refine wz_iaload dX9_nextUse_18 (k16 hK) z1 ?_
    refine wp_iload_n (i := 2) dX9_nextUse_19 rfl rfl ?_
    obtain ⟨nz, hv⟩ := hv
    refine wp_idiv dX9_nextUse_20 nz ?_
    refine wp_iload_n (i := 1) dX9_nextUse_21 rfl rfl ?_
    refine wp_icmp_eq 31 dX9_nextUse_22 (by decide) (fun q => ?_) (fun q => ?_)
    · replace hv := hv.1 q
      refine wp_iload dX9_nextUse_31 rfl ?_
      obtain rfl := hv
      exact wp_ireturn dX9_nextUse_33 rfl rfl rfl hq
    · replace hv := hv.2 q
      refine wx_iinc (v := 1) (ls' := [(0, .ref 13), (1, .int x1), (2, .int x2), (3, .int x3), (4, .int (x4 + 1))]) dX9_nextUse_25 rfl (by decide) (by decide) rfl ?_
      refine wp_goto 3 dX9_nextUse_28 (by decide) ?_
      exact hv Q hq
theorem wX9_addKey_0 {x1 : Int32} {x2 : Int32} (hK : StK K)  (hv : (vp_in (V 13 2) 9 ∧ (vp_in (V 13 2) 10 ∧ (r = some (.int ((V 13 2) + (1 : Int32))) ∧ V' = (up2 (up2 (up2 V 18 ((V 13 2)).toNatClampNeg x1) 19 ((V 13 2)).toNatClampNeg x2) 13 2 ((V 13 2) + (1 : Int32))))))) : Ev G d mX9_addKey 0 [(0, .ref 13), (1, .int x1), (2, .int x2)] (K, n, V, J, O) r (K, n, V', J, O) := by
  refine Ev.mk fun Q hq => ?_
  refine wp_aload_n (i := 0) dX9_addKey_0 rfl rfl ?_
  refine wz_getR (b := 18) dX9_addKey_1 (k13 hK) (f9_28 _ (by decide)) rfl ?_
  refine wp_aload_n (i := 0) dX9_addKey_4 rfl rfl ?_
  refine wz_getI dX9_addKey_5 (k13 hK) (f9_70 _ (by decide)) rfl ?_
  refine wp_iload_n (i := 1) dX9_addKey_8 rfl rfl ?_
  obtain ⟨z1, hv⟩ := hv
  refine wz_iastore dX9_addKey_9 (k18 hK) z1 ?_
  refine wp_aload_n (i := 0) dX9_addKey_10 rfl rfl ?_
  refine wz_getR (b := 19) dX9_addKey_11 (k13 hK) (f9_31 _ (by decide)) rfl ?_
  refine wp_aload_n (i := 0) dX9_addKey_14 rfl rfl ?_
  refine wz_getIe (v := (V 13 2)) dX9_addKey_15 (k13 hK) (f9_70 _ (by decide)) rfl (up2_a (by decide)) ?_
  refine wp_iload_n (i := 2) dX9_addKey_18 rfl rfl ?_
  obtain ⟨z2, hv⟩ := hv
  refine wz_iastore dX9_addKey_19 (k19 hK) z2 ?_
  refine wp_aload_n (i := 0) dX9_addKey_20 rfl rfl ?_
  refine wp_dupR dX9_addKey_21 ?_
  refine wz_getIe (v := (V 13 2)) dX9_addKey_22 (k13 hK) (f9_70 _ (by decide)) rfl (Eq.trans (up2_a (by decide)) (up2_a (by decide))) ?_
  refine wp_iconst (v := 1) dX9_addKey_25 (by decide) ?_
  refine wp_iadd dX9_addKey_26 ?_
  refine wz_putI dX9_addKey_27 (k13 hK) (w9_70 _ (by decide)) rfl ?_
  refine wp_aload_n (i := 0) dX9_addKey_30 rfl rfl ?_
  refine wz_getIe (v := ((V 13 2) + (1 : Int32))) dX9_addKey_31 (k13 hK) (f9_70 _ (by decide)) rfl up2_s ?_
  obtain ⟨rfl, rfl⟩ := hv
  exact wp_ireturn dX9_addKey_34 rfl rfl rfl hq
theorem wX9_fewestLooks_0 {x1 : Int32} (hK : StK K)  (hv : (vp_in (V 13 2) 10 ∧ Ev G (d + 1) mX9_fewestLooks 12 [(0, .ref 13), (1, .int x1), (2, .int (1 : Int32))] (K, n, (up2 V 19 ((V 13 2)).toNatClampNeg x1), J, O) r (K, n, V', J, O))) : Ev G (d + 1) mX9_fewestLooks 0 [(0, .ref 13), (1, .int x1)] (K, n, V, J, O) r (K, n, V', J, O) := by
  refine Ev.mk fun Q hq => ?_
  refine wp_aload_n (i := 0) dX9_fewestLooks_0 rfl rfl ?_
  refine wz_getR (b := 19) dX9_fewestLooks_1 (k13 hK) (f9_31 _ (by decide)) rfl ?_
  refine wp_aload_n (i := 0) dX9_fewestLooks_4 rfl rfl ?_
  refine wz_getI dX9_fewestLooks_5 (k13 hK) (f9_70 _ (by decide)) rfl ?_
  refine wp_iload_n (i := 1) dX9_fewestLooks_8 rfl rfl ?_
  obtain ⟨z1, hv⟩ := hv
  refine wz_iastore dX9_fewestLooks_9 (k19 hK) z1 ?_
  refine wp_iconst (v := 1) dX9_fewestLooks_10 (by decide) ?_
  refine wx_istore_n (ls' := [(0, .ref 13), (1, .int x1), (2, .int (1 : Int32))]) (i := 2) dX9_fewestLooks_11 rfl (by decide) rfl ?_
  exact hv Q hq
theorem wX9_fewestLooks_12 {x1 : Int32} {x2 : Int32} (hK : StK K)  (hv : (((V 13 2) < x2 → (vp_in (0 : Int32) 10 ∧ (vp_in (V 13 2) 10 ∧ (r = some (.int (V (20 + 1 + ((0 : Int32)).toNatClampNeg) ((V 13 2)).toNatClampNeg)) ∧ V' = (up2 V 13 2 (0 : Int32)))))) ∧ (¬ (V 13 2) < x2 → Ev G (d + 1) mX9_fewestLooks 22 [(0, .ref 13), (1, .int x1), (2, .int x2), (3, .int (0 : Int32))] (K, n, V, J, O) r (K, n, V', J, O)))) : Ev G (d + 1) mX9_fewestLooks 12 [(0, .ref 13), (1, .int x1), (2, .int x2)] (K, n, V, J, O) r (K, n, V', J, O) := by
  refine Ev.mk fun Q hq => ?_
  refine wp_iload_n (i := 2) dX9_fewestLooks_12 rfl rfl ?_
  refine wp_aload_n (i := 0) dX9_fewestLooks_13 rfl rfl ?_
  refine wz_getI dX9_fewestLooks_14 (k13 hK) (f9_70 _ (by decide)) rfl ?_
  refine wp_icmp_gt 89 dX9_fewestLooks_17 (by decide) (fun q => ?_) (fun q => ?_)
  · replace hv := hv.1 q
    refine wp_aload_n (i := 0) dX9_fewestLooks_89 rfl rfl ?_
    refine wz_getR (b := 20) dX9_fewestLooks_90 (k13 hK) (f9_36 _ (by decide)) rfl ?_
    refine wp_iconst (v := 0) dX9_fewestLooks_93 (by decide) ?_
    obtain ⟨z1, hv⟩ := hv
    refine wz_aaload (b := 20) dX9_fewestLooks_94 (k20 hK) (by decide) z1 ?_
    refine wp_aload_n (i := 0) dX9_fewestLooks_95 rfl rfl ?_
    refine wz_getI dX9_fewestLooks_96 (k13 hK) (f9_70 _ (by decide)) rfl ?_
    obtain ⟨z2, hv⟩ := hv
    refine wz_iaload dX9_fewestLooks_99 (kr20 hK (in_lt z1)) z2 ?_
    refine wx_istore_n (ls' := [(0, .ref 13), (1, .int x1), (2, .int (V (20 + 1 + ((0 : Int32)).toNatClampNeg) ((V 13 2)).toNatClampNeg))]) (i := 2) dX9_fewestLooks_100 rfl (by decide) rfl ?_
    refine wp_aload_n (i := 0) dX9_fewestLooks_101 rfl rfl ?_
    refine wp_iconst (v := 0) dX9_fewestLooks_102 (by decide) ?_
    refine wz_putI dX9_fewestLooks_103 (k13 hK) (w9_70 _ (by decide)) rfl ?_
    refine wp_iload_n (i := 2) dX9_fewestLooks_106 rfl rfl ?_
    obtain ⟨rfl, rfl⟩ := hv
    exact wp_ireturn dX9_fewestLooks_107 rfl rfl rfl hq
  · replace hv := hv.2 q
    refine wp_iconst (v := 0) dX9_fewestLooks_20 (by decide) ?_
    refine wx_istore_n (ls' := [(0, .ref 13), (1, .int x1), (2, .int x2), (3, .int (0 : Int32))]) (i := 3) dX9_fewestLooks_21 rfl (by decide) rfl ?_
    exact hv Q hq
theorem wX9_fewestLooks_22 {x1 : Int32} {x2 : Int32} {x3 : Int32} (hK : StK K)  (hv : (((V 13 2) < (x3 + x2) → Ev G (d + 1) mX9_fewestLooks 12 [(0, .ref 13), (1, .int x1), (2, .int (x2 + 1))] (K, n, V, J, O) r (K, n, V', J, O)) ∧ (¬ (V 13 2) < (x3 + x2) → (∃ (v1 : Int32), Ev G d mX9_bestRoot 0 [(0, .ref 13), (1, .int x3), (2, .int (x3 + x2))] (K, n, V, J, O) (some (.int v1)) (K, n, V, J, O) ∧ (vp_in x3 10 ∧ (∃ (v3 : Int32), Ev G d mX9_withRoot 0 [(0, .ref 13), (1, .int x3), (2, .int (x3 + x2)), (3, .int v1)] (K, n, V, J, O) (some (.int v3)) (K, n, V, J, O) ∧ (∃ (v4 : Int32), Ev G d mX9_soughtIn 0 [(0, .ref 13), (1, .int x3), (2, .int (x3 + x2))] (K, n, V, J, O) (some (.int v4)) (K, n, V, J, O) ∧ (vp_in (x3 + x2) 10 ∧ Ev G (d + 1) mX9_fewestLooks 22 [(0, .ref 13), (1, .int x1), (2, .int x2), (3, .int (x3 + 1))] (K, n, (up2 (up2 V (20 + 1 + (x3).toNatClampNeg) ((x3 + x2)).toNatClampNeg (v3 + v4)) 13 3 v1), J, O) r (K, n, V', J, O))))))))) : Ev G (d + 1) mX9_fewestLooks 22 [(0, .ref 13), (1, .int x1), (2, .int x2), (3, .int x3)] (K, n, V, J, O) r (K, n, V', J, O) := by
  refine Ev.mk fun Q hq => ?_
  refine wp_iload_n (i := 3) dX9_fewestLooks_22 rfl rfl ?_
  refine wp_iload_n (i := 2) dX9_fewestLooks_23 rfl rfl ?_
  refine wp_iadd dX9_fewestLooks_24 ?_
  refine wp_aload_n (i := 0) dX9_fewestLooks_25 rfl rfl ?_
  refine wz_getI dX9_fewestLooks_26 (k13 hK) (f9_70 _ (by decide)) rfl ?_
  refine wp_icmp_gt 83 dX9_fewestLooks_29 (by decide) (fun q => ?_) (fun q => ?_)
  · replace hv := hv.1 q
    refine wx_iinc (v := 1) (ls' := [(0, .ref 13), (1, .int x1), (2, .int (x2 + 1)), (3, .int x3)]) dX9_fewestLooks_83 rfl (by decide) (by decide) rfl ?_
    refine wp_goto 12 dX9_fewestLooks_86 (by decide) ?_
    refine wx_sub (ls' := [(0, .ref 13), (1, .int x1), (2, .int (x2 + 1))]) [0, 1, 2] rfl ?_
    exact hv Q hq
  · replace hv := hv.2 q
    refine wp_aload_n (i := 0) dX9_fewestLooks_32 rfl rfl ?_
    refine wp_iload_n (i := 3) dX9_fewestLooks_33 rfl rfl ?_
    refine wp_iload_n (i := 3) dX9_fewestLooks_34 rfl rfl ?_
    refine wp_iload_n (i := 2) dX9_fewestLooks_35 rfl rfl ?_
    refine wp_iadd dX9_fewestLooks_36 ?_
    obtain ⟨v1, hE, hv⟩ := hv
    refine wz_callV (vs := [.int x3, .int (x3 + x2)]) (st := []) dX9_fewestLooks_37 (k13 hK) rfl k9_73_9 hE rfl (Nat.le_of_ble_eq_true rfl) (Nat.le_of_ble_eq_true rfl) ?_
    change wp _ _ _ _ _ [.int v1] _ _ _
    refine wx_istore (ls' := [(0, .ref 13), (1, .int x1), (2, .int x2), (3, .int x3), (4, .int v1)]) dX9_fewestLooks_40 (by decide) rfl ?_
    refine wp_aload_n (i := 0) dX9_fewestLooks_42 rfl rfl ?_
    refine wz_getR (b := 20) dX9_fewestLooks_43 (k13 hK) (f9_36 _ (by decide)) rfl ?_
    refine wp_iload_n (i := 3) dX9_fewestLooks_46 rfl rfl ?_
    obtain ⟨z2, hv⟩ := hv
    refine wz_aaload (b := 20) dX9_fewestLooks_47 (k20 hK) (by decide) z2 ?_
    refine wp_iload_n (i := 3) dX9_fewestLooks_48 rfl rfl ?_
    refine wp_iload_n (i := 2) dX9_fewestLooks_49 rfl rfl ?_
    refine wp_iadd dX9_fewestLooks_50 ?_
    refine wp_aload_n (i := 0) dX9_fewestLooks_51 rfl rfl ?_
    refine wp_iload_n (i := 3) dX9_fewestLooks_52 rfl rfl ?_
    refine wp_iload_n (i := 3) dX9_fewestLooks_53 rfl rfl ?_
    refine wp_iload_n (i := 2) dX9_fewestLooks_54 rfl rfl ?_
    refine wp_iadd dX9_fewestLooks_55 ?_
    refine wp_iload dX9_fewestLooks_56 rfl ?_
    obtain ⟨v3, hE, hv⟩ := hv
    refine wz_callV (vs := [.int x3, .int (x3 + x2), .int v1]) (st := [.int (x3 + x2), .ref (20 + 1 + (x3).toNatClampNeg)]) dX9_fewestLooks_58 (k13 hK) rfl k9_76_9 hE rfl (Nat.le_of_ble_eq_true rfl) (Nat.le_of_ble_eq_true rfl) ?_
    change wp _ _ _ _ _ [.int v3, .int (x3 + x2), .ref (20 + 1 + (x3).toNatClampNeg)] _ _ _
    refine wp_aload_n (i := 0) dX9_fewestLooks_61 rfl rfl ?_
    refine wp_iload_n (i := 3) dX9_fewestLooks_62 rfl rfl ?_
    refine wp_iload_n (i := 3) dX9_fewestLooks_63 rfl rfl ?_
    refine wp_iload_n (i := 2) dX9_fewestLooks_64 rfl rfl ?_
    refine wp_iadd dX9_fewestLooks_65 ?_
    obtain ⟨v4, hE, hv⟩ := hv
    refine wz_callV (vs := [.int x3, .int (x3 + x2)]) (st := [.int v3, .int (x3 + x2), .ref (20 + 1 + (x3).toNatClampNeg)]) dX9_fewestLooks_66 (k13 hK) rfl k9_79_9 hE rfl (Nat.le_of_ble_eq_true rfl) (Nat.le_of_ble_eq_true rfl) ?_
    change wp _ _ _ _ _ [.int v4, .int v3, .int (x3 + x2), .ref (20 + 1 + (x3).toNatClampNeg)] _ _ _
    refine wp_iadd dX9_fewestLooks_69 ?_
    obtain ⟨z5, hv⟩ := hv
    refine wz_iastore dX9_fewestLooks_70 (kr20 hK (in_lt z2)) z5 ?_
    refine wp_aload_n (i := 0) dX9_fewestLooks_71 rfl rfl ?_
    refine wp_iload dX9_fewestLooks_72 rfl ?_
    refine wz_putI dX9_fewestLooks_74 (k13 hK) (w9_9 _ (by decide)) rfl ?_
    refine wx_iinc (v := 1) (ls' := [(0, .ref 13), (1, .int x1), (2, .int x2), (3, .int (x3 + 1)), (4, .int v1)]) dX9_fewestLooks_77 rfl (by decide) (by decide) rfl ?_
    refine wp_goto 22 dX9_fewestLooks_80 (by decide) ?_
    refine wx_sub (ls' := [(0, .ref 13), (1, .int x1), (2, .int x2), (3, .int (x3 + 1))]) [0, 1, 2, 3] rfl ?_
    exact hv Q hq
theorem wX9_bestRoot_0 {x1 : Int32} {x2 : Int32} (hK : StK K)  (hv : Ev G (d + 1) mX9_bestRoot 7 [(0, .ref 13), (1, .int x1), (2, .int x2), (3, .int x1), (4, .int (x1 + (1 : Int32)))] (K, n, V, J, O) r (K, n, V, J, O)) : Ev G (d + 1) mX9_bestRoot 0 [(0, .ref 13), (1, .int x1), (2, .int x2)] (K, n, V, J, O) r (K, n, V, J, O) := by
  refine Ev.mk fun Q hq => ?_
  refine wp_iload_n (i := 1) dX9_bestRoot_0 rfl rfl ?_
  refine wx_istore_n (ls' := [(0, .ref 13), (1, .int x1), (2, .int x2), (3, .int x1)]) (i := 3) dX9_bestRoot_1 rfl (by decide) rfl ?_
  refine wp_iload_n (i := 1) dX9_bestRoot_2 rfl rfl ?_
  refine wp_iconst (v := 1) dX9_bestRoot_3 (by decide) ?_
  refine wp_iadd dX9_bestRoot_4 ?_
  refine wx_istore (ls' := [(0, .ref 13), (1, .int x1), (2, .int x2), (3, .int x1), (4, .int (x1 + (1 : Int32)))]) dX9_bestRoot_5 (by decide) rfl ?_
  exact hv Q hq
theorem wX9_bestRoot_7 {x1 : Int32} {x2 : Int32} {x3 : Int32} {x4 : Int32} (hK : StK K)  (hv : ((x2 ≤ x4 → r = some (.int x3)) ∧ (¬ x2 ≤ x4 → (∃ (v1 : Int32), Ev G d mX9_withRoot 0 [(0, .ref 13), (1, .int x1), (2, .int x2), (3, .int x4)] (K, n, V, J, O) (some (.int v1)) (K, n, V, J, O) ∧ (∃ (v2 : Int32), Ev G d mX9_withRoot 0 [(0, .ref 13), (1, .int x1), (2, .int x2), (3, .int x3)] (K, n, V, J, O) (some (.int v2)) (K, n, V, J, O) ∧ ((v2 ≤ v1 → Ev G (d + 1) mX9_bestRoot 7 [(0, .ref 13), (1, .int x1), (2, .int x2), (3, .int x3), (4, .int (x4 + 1))] (K, n, V, J, O) r (K, n, V, J, O)) ∧ (¬ v2 ≤ v1 → Ev G (d + 1) mX9_bestRoot 7 [(0, .ref 13), (1, .int x1), (2, .int x2), (3, .int x4), (4, .int (x4 + 1))] (K, n, V, J, O) r (K, n, V, J, O)))))))) : Ev G (d + 1) mX9_bestRoot 7 [(0, .ref 13), (1, .int x1), (2, .int x2), (3, .int x3), (4, .int x4)] (K, n, V, J, O) r (K, n, V, J, O) := by
  refine Ev.mk fun Q hq => ?_
  refine wp_iload dX9_bestRoot_7 rfl ?_
  refine wp_iload_n (i := 2) dX9_bestRoot_9 rfl rfl ?_
  refine wp_icmp_ge 40 dX9_bestRoot_10 (by decide) (fun q => ?_) (fun q => ?_)
  · replace hv := hv.1 q
    refine wp_iload_n (i := 3) dX9_bestRoot_40 rfl rfl ?_
    obtain rfl := hv
    exact wp_ireturn dX9_bestRoot_41 rfl rfl rfl hq
  · replace hv := hv.2 q
    refine wp_aload_n (i := 0) dX9_bestRoot_13 rfl rfl ?_
    refine wp_iload_n (i := 1) dX9_bestRoot_14 rfl rfl ?_
    refine wp_iload_n (i := 2) dX9_bestRoot_15 rfl rfl ?_
    refine wp_iload dX9_bestRoot_16 rfl ?_
    obtain ⟨v1, hE, hv⟩ := hv
    refine wz_callV (vs := [.int x1, .int x2, .int x4]) (st := []) dX9_bestRoot_18 (k13 hK) rfl k9_76_9 hE rfl (Nat.le_of_ble_eq_true rfl) (Nat.le_of_ble_eq_true rfl) ?_
    change wp _ _ _ _ _ [.int v1] _ _ _
    refine wp_aload_n (i := 0) dX9_bestRoot_21 rfl rfl ?_
    refine wp_iload_n (i := 1) dX9_bestRoot_22 rfl rfl ?_
    refine wp_iload_n (i := 2) dX9_bestRoot_23 rfl rfl ?_
    refine wp_iload_n (i := 3) dX9_bestRoot_24 rfl rfl ?_
    obtain ⟨v2, hE, hv⟩ := hv
    refine wz_callV (vs := [.int x1, .int x2, .int x3]) (st := [.int v1]) dX9_bestRoot_25 (k13 hK) rfl k9_76_9 hE rfl (Nat.le_of_ble_eq_true rfl) (Nat.le_of_ble_eq_true rfl) ?_
    change wp _ _ _ _ _ [.int v2, .int v1] _ _ _
    refine wp_icmp_ge 34 dX9_bestRoot_28 (by decide) (fun q => ?_) (fun q => ?_)
    · replace hv := hv.1 q
      refine wx_iinc (v := 1) (ls' := [(0, .ref 13), (1, .int x1), (2, .int x2), (3, .int x3), (4, .int (x4 + 1))]) dX9_bestRoot_34 rfl (by decide) (by decide) rfl ?_
      refine wp_goto 7 dX9_bestRoot_37 (by decide) ?_
      exact hv Q hq
    · replace hv := hv.2 q
      refine wp_iload dX9_bestRoot_31 rfl ?_
      refine wx_istore_n (ls' := [(0, .ref 13), (1, .int x1), (2, .int x2), (3, .int x4), (4, .int x4)]) (i := 3) dX9_bestRoot_33 rfl (by decide) rfl ?_
      refine wx_iinc (v := 1) (ls' := [(0, .ref 13), (1, .int x1), (2, .int x2), (3, .int x4), (4, .int (x4 + 1))]) dX9_bestRoot_34 rfl (by decide) (by decide) rfl ?_
      refine wp_goto 7 dX9_bestRoot_37 (by decide) ?_
      exact hv Q hq
theorem wX9_withRoot_0 {x1 : Int32} {x2 : Int32} {x3 : Int32} (hK : StK K)  (hv : (vp_in x1 10 ∧ (vp_in x3 10 ∧ (vp_in (x3 + (1 : Int32)) 10 ∧ (vp_in x2 10 ∧ r = some (.int ((V (20 + 1 + (x1).toNatClampNeg) (x3).toNatClampNeg) + (V (20 + 1 + ((x3 + (1 : Int32))).toNatClampNeg) (x2).toNatClampNeg)))))))) : Ev G d mX9_withRoot 0 [(0, .ref 13), (1, .int x1), (2, .int x2), (3, .int x3)] (K, n, V, J, O) r (K, n, V, J, O) := by
  refine Ev.mk fun Q hq => ?_
  refine wp_aload_n (i := 0) dX9_withRoot_0 rfl rfl ?_
  refine wz_getR (b := 20) dX9_withRoot_1 (k13 hK) (f9_36 _ (by decide)) rfl ?_
  refine wp_iload_n (i := 1) dX9_withRoot_4 rfl rfl ?_
  obtain ⟨z1, hv⟩ := hv
  refine wz_aaload (b := 20) dX9_withRoot_5 (k20 hK) (by decide) z1 ?_
  refine wp_iload_n (i := 3) dX9_withRoot_6 rfl rfl ?_
  obtain ⟨z2, hv⟩ := hv
  refine wz_iaload dX9_withRoot_7 (kr20 hK (in_lt z1)) z2 ?_
  refine wp_aload_n (i := 0) dX9_withRoot_8 rfl rfl ?_
  refine wz_getR (b := 20) dX9_withRoot_9 (k13 hK) (f9_36 _ (by decide)) rfl ?_
  refine wp_iload_n (i := 3) dX9_withRoot_12 rfl rfl ?_
  refine wp_iconst (v := 1) dX9_withRoot_13 (by decide) ?_
  refine wp_iadd dX9_withRoot_14 ?_
  obtain ⟨z3, hv⟩ := hv
  refine wz_aaload (b := 20) dX9_withRoot_15 (k20 hK) (by decide) z3 ?_
  refine wp_iload_n (i := 2) dX9_withRoot_16 rfl rfl ?_
  obtain ⟨z4, hv⟩ := hv
  refine wz_iaload dX9_withRoot_17 (kr20 hK (in_lt z3)) z4 ?_
  refine wp_iadd dX9_withRoot_18 ?_
  obtain rfl := hv
  exact wp_ireturn dX9_withRoot_19 rfl rfl rfl hq
theorem wX9_soughtIn_0 {x1 : Int32} {x2 : Int32} (hK : StK K)  (hv : (vp_in x1 10 ∧ Ev G d mX9_soughtIn 10 [(0, .ref 13), (1, .int x1), (2, .int x2), (3, .int (V 19 (x1).toNatClampNeg)), (4, .int x1)] (K, n, V, J, O) r (K, n, V, J, O))) : Ev G d mX9_soughtIn 0 [(0, .ref 13), (1, .int x1), (2, .int x2)] (K, n, V, J, O) r (K, n, V, J, O) := by
  refine Ev.mk fun Q hq => ?_
  refine wp_aload_n (i := 0) dX9_soughtIn_0 rfl rfl ?_
  refine wz_getR (b := 19) dX9_soughtIn_1 (k13 hK) (f9_31 _ (by decide)) rfl ?_
  refine wp_iload_n (i := 1) dX9_soughtIn_4 rfl rfl ?_
  obtain ⟨z1, hv⟩ := hv
  refine wz_iaload dX9_soughtIn_5 (k19 hK) z1 ?_
  refine wx_istore_n (ls' := [(0, .ref 13), (1, .int x1), (2, .int x2), (3, .int (V 19 (x1).toNatClampNeg))]) (i := 3) dX9_soughtIn_6 rfl (by decide) rfl ?_
  refine wp_iload_n (i := 1) dX9_soughtIn_7 rfl rfl ?_
  refine wx_istore (ls' := [(0, .ref 13), (1, .int x1), (2, .int x2), (3, .int (V 19 (x1).toNatClampNeg)), (4, .int x1)]) dX9_soughtIn_8 (by decide) rfl ?_
  exact hv Q hq
theorem wX9_soughtIn_10 {x1 : Int32} {x2 : Int32} {x3 : Int32} {x4 : Int32} (hK : StK K)  (hv : ((x2 ≤ x4 → r = some (.int x3)) ∧ (¬ x2 ≤ x4 → (vp_in x4 9 ∧ (vp_in (x4 + (1 : Int32)) 10 ∧ Ev G d mX9_soughtIn 10 [(0, .ref 13), (1, .int x1), (2, .int x2), (3, .int (x3 + ((V 18 (x4).toNatClampNeg) + (V 19 ((x4 + (1 : Int32))).toNatClampNeg)))), (4, .int (x4 + 1))] (K, n, V, J, O) r (K, n, V, J, O)))))) : Ev G d mX9_soughtIn 10 [(0, .ref 13), (1, .int x1), (2, .int x2), (3, .int x3), (4, .int x4)] (K, n, V, J, O) r (K, n, V, J, O) := by
  refine Ev.mk fun Q hq => ?_
  refine wp_iload dX9_soughtIn_10 rfl ?_
  refine wp_iload_n (i := 2) dX9_soughtIn_12 rfl rfl ?_
  refine wp_icmp_ge 42 dX9_soughtIn_13 (by decide) (fun q => ?_) (fun q => ?_)
  · replace hv := hv.1 q
    refine wp_iload_n (i := 3) dX9_soughtIn_42 rfl rfl ?_
    obtain rfl := hv
    exact wp_ireturn dX9_soughtIn_43 rfl rfl rfl hq
  · replace hv := hv.2 q
    refine wp_iload_n (i := 3) dX9_soughtIn_16 rfl rfl ?_
    refine wp_aload_n (i := 0) dX9_soughtIn_17 rfl rfl ?_
    refine wz_getR (b := 18) dX9_soughtIn_18 (k13 hK) (f9_28 _ (by decide)) rfl ?_
    refine wp_iload dX9_soughtIn_21 rfl ?_
    obtain ⟨z1, hv⟩ := hv
    refine wz_iaload dX9_soughtIn_23 (k18 hK) z1 ?_
    refine wp_aload_n (i := 0) dX9_soughtIn_24 rfl rfl ?_
    refine wz_getR (b := 19) dX9_soughtIn_25 (k13 hK) (f9_31 _ (by decide)) rfl ?_
    refine wp_iload dX9_soughtIn_28 rfl ?_
    refine wp_iconst (v := 1) dX9_soughtIn_30 (by decide) ?_
    refine wp_iadd dX9_soughtIn_31 ?_
    obtain ⟨z2, hv⟩ := hv
    refine wz_iaload dX9_soughtIn_32 (k19 hK) z2 ?_
    refine wp_iadd dX9_soughtIn_33 ?_
    refine wp_iadd dX9_soughtIn_34 ?_
    refine wx_istore_n (ls' := [(0, .ref 13), (1, .int x1), (2, .int x2), (3, .int (x3 + ((V 18 (x4).toNatClampNeg) + (V 19 ((x4 + (1 : Int32))).toNatClampNeg)))), (4, .int x4)]) (i := 3) dX9_soughtIn_35 rfl (by decide) rfl ?_
    refine wx_iinc (v := 1) (ls' := [(0, .ref 13), (1, .int x1), (2, .int x2), (3, .int (x3 + ((V 18 (x4).toNatClampNeg) + (V 19 ((x4 + (1 : Int32))).toNatClampNeg)))), (4, .int (x4 + 1))]) dX9_soughtIn_36 rfl (by decide) (by decide) rfl ?_
    refine wp_goto 10 dX9_soughtIn_39 (by decide) ?_
    exact hv Q hq
theorem wX10_kind_0 {a0 : Nat} {ky0 : Nat} (hK : StK K) (ha0 : IsSt K a0 10 ky0) (hv : r = some (.int (5 : Int32))) : Ev G d mX10_kind 0 [(0, .ref a0)] (K, n, V, J, O) r (K, n, V, J, O) := by
  refine Ev.mk fun Q hq => ?_
  refine wp_iconst (v := 5) dX10_kind_0 (by decide) ?_
  obtain rfl := hv
  exact wp_ireturn dX10_kind_1 rfl rfl rfl hq
theorem wX10_sideFor_0 {a0 : Nat} {ky0 : Nat} {x1 : Int32} {x2 : Int32} (hK : StK K) (ha0 : IsSt K a0 10 ky0) (hv : (vp_in x2 80 ∧ (∃ (v2 : Int32), Ev G d mX5_comesAhead 0 [(0, .ref a0), (1, .int x1), (2, .int (V (4 + 1 + ky0) (x2).toNatClampNeg)), (3, .int x2)] (K, n, V, J, O) (some (.int v2)) (K, n, V, J, O) ∧ ((v2 = 0 → (vp_in x2 80 ∧ r = some (.int (V (a0 + 3) (x2).toNatClampNeg)))) ∧ (¬ v2 = 0 → (vp_in x2 80 ∧ r = some (.int (V (a0 + 2) (x2).toNatClampNeg)))))))) : Ev G (d + 1) mX10_sideFor 0 [(0, .ref a0), (1, .int x1), (2, .int x2)] (K, n, V, J, O) r (K, n, V, J, O) := by
  refine Ev.mk fun Q hq => ?_
  refine wp_aload_n (i := 0) dX10_sideFor_0 rfl rfl ?_
  refine wp_iload_n (i := 1) dX10_sideFor_1 rfl rfl ?_
  refine wp_aload_n (i := 0) dX10_sideFor_2 rfl rfl ?_
  refine wz_getR (b := (4 + 1 + ky0)) dX10_sideFor_3 (st_0 ha0) (f10_25 _ (by decide)) rfl ?_
  refine wp_iload_n (i := 2) dX10_sideFor_6 rfl rfl ?_
  obtain ⟨z1, hv⟩ := hv
  refine wz_iaload dX10_sideFor_7 (st_k hK ha0) z1 ?_
  refine wp_iload_n (i := 2) dX10_sideFor_8 rfl rfl ?_
  obtain ⟨v2, hE, hv⟩ := hv
  refine wz_callU (vs := [.int x1, .int (V (4 + 1 + ky0) (x2).toNatClampNeg), .int x2]) (st := []) dX10_sideFor_9 (st_0 ha0) rfl k10_28_10 hE rfl (Nat.le_of_ble_eq_true rfl) (Nat.le_of_ble_eq_true rfl) ?_
  change wp _ _ _ _ _ [.int v2] _ _ _
  refine wp_if_eq 24 dX10_sideFor_12 (by decide) (fun q => ?_) (fun q => ?_)
  · replace hv := hv.1 q
    refine wp_aload_n (i := 0) dX10_sideFor_24 rfl rfl ?_
    refine wz_getR (b := (a0 + 3)) dX10_sideFor_25 (st_0 ha0) (f10_15 _ (by decide)) rfl ?_
    refine wp_iload_n (i := 2) dX10_sideFor_28 rfl rfl ?_
    obtain ⟨z3, hv⟩ := hv
    refine wz_iaload dX10_sideFor_29 (st_tr3 ha0) z3 ?_
    obtain rfl := hv
    exact wp_ireturn dX10_sideFor_30 rfl rfl rfl hq
  · replace hv := hv.2 q
    refine wp_aload_n (i := 0) dX10_sideFor_15 rfl rfl ?_
    refine wz_getR (b := (a0 + 2)) dX10_sideFor_16 (st_0 ha0) (f10_9 _ (by decide)) rfl ?_
    refine wp_iload_n (i := 2) dX10_sideFor_19 rfl rfl ?_
    obtain ⟨z4, hv⟩ := hv
    refine wz_iaload dX10_sideFor_20 (st_tr2 ha0) z4 ?_
    refine wp_goto 30 dX10_sideFor_21 (by decide) ?_
    obtain rfl := hv
    exact wp_ireturn dX10_sideFor_30 rfl rfl rfl hq
theorem wX10_hang_0 {a0 : Nat} {ky0 : Nat} {x1 : Int32} {x2 : Int32} {x3 : Int32} (hK : StK K) (ha0 : IsSt K a0 10 ky0) (hv : ((x1 ≠ (-1 : Int32) → (vp_in x1 80 ∧ (((V (a0 + 2) (x1).toNatClampNeg) ≠ x2 → (vp_in x1 80 ∧ (r = none ∧ V' = (up2 V (a0 + 3) (x1).toNatClampNeg x3)))) ∧ ((V (a0 + 2) (x1).toNatClampNeg) = x2 → (vp_in x1 80 ∧ (r = none ∧ V' = (up2 V (a0 + 2) (x1).toNatClampNeg x3))))))) ∧ (x1 = (-1 : Int32) → (r = none ∧ V' = (up2 V a0 12 x3))))) : Ev G d mX10_hang 0 [(0, .ref a0), (1, .int x1), (2, .int x2), (3, .int x3)] (K, n, V, J, O) r (K, n, V', J, O) := by
  refine Ev.mk fun Q hq => ?_
  refine wp_iload_n (i := 1) dX10_hang_0 rfl rfl ?_
  refine wp_iconst (v := -1) dX10_hang_1 (by decide) ?_
  refine wp_icmp_ne 13 dX10_hang_2 (by decide) (fun q => ?_) (fun q => ?_)
  · replace hv := hv.1 q
    refine wp_aload_n (i := 0) dX10_hang_13 rfl rfl ?_
    refine wz_getR (b := (a0 + 2)) dX10_hang_14 (st_0 ha0) (f10_9 _ (by decide)) rfl ?_
    refine wp_iload_n (i := 1) dX10_hang_17 rfl rfl ?_
    obtain ⟨z1, hv⟩ := hv
    refine wz_iaload dX10_hang_18 (st_tr2 ha0) z1 ?_
    refine wp_iload_n (i := 2) dX10_hang_19 rfl rfl ?_
    refine wp_icmp_ne 33 dX10_hang_20 (by decide) (fun q => ?_) (fun q => ?_)
    · replace hv := hv.1 q
      refine wp_aload_n (i := 0) dX10_hang_33 rfl rfl ?_
      refine wz_getR (b := (a0 + 3)) dX10_hang_34 (st_0 ha0) (f10_15 _ (by decide)) rfl ?_
      refine wp_iload_n (i := 1) dX10_hang_37 rfl rfl ?_
      refine wp_iload_n (i := 3) dX10_hang_38 rfl rfl ?_
      obtain ⟨z2, hv⟩ := hv
      refine wz_iastore dX10_hang_39 (st_tr3 ha0) z2 ?_
      obtain ⟨rfl, rfl⟩ := hv
      exact wp_return dX10_hang_40 rfl rfl hq
    · replace hv := hv.2 q
      refine wp_aload_n (i := 0) dX10_hang_23 rfl rfl ?_
      refine wz_getR (b := (a0 + 2)) dX10_hang_24 (st_0 ha0) (f10_9 _ (by decide)) rfl ?_
      refine wp_iload_n (i := 1) dX10_hang_27 rfl rfl ?_
      refine wp_iload_n (i := 3) dX10_hang_28 rfl rfl ?_
      obtain ⟨z3, hv⟩ := hv
      refine wz_iastore dX10_hang_29 (st_tr2 ha0) z3 ?_
      refine wp_goto 40 dX10_hang_30 (by decide) ?_
      obtain ⟨rfl, rfl⟩ := hv
      exact wp_return dX10_hang_40 rfl rfl hq
  · replace hv := hv.2 q
    refine wp_aload_n (i := 0) dX10_hang_5 rfl rfl ?_
    refine wp_iload_n (i := 3) dX10_hang_6 rfl rfl ?_
    refine wz_putI dX10_hang_7 (st_0 ha0) (w10_21 _ (by decide)) rfl ?_
    refine wp_goto 40 dX10_hang_10 (by decide) ?_
    obtain ⟨rfl, rfl⟩ := hv
    exact wp_return dX10_hang_40 rfl rfl hq
theorem wX10_putName_0 {a0 : Nat} {ky0 : Nat} {x1 : Int32} (hK : StK K) (ha0 : IsSt K a0 10 ky0) (hv : Ev G (d + 1) mX10_putName 7 [(0, .ref a0), (1, .int x1), (2, .int (-1 : Int32)), (3, .int (V a0 12))] (K, n, V, J, O) r (K, n, V', J, O)) : Ev G (d + 1) mX10_putName 0 [(0, .ref a0), (1, .int x1)] (K, n, V, J, O) r (K, n, V', J, O) := by
  refine Ev.mk fun Q hq => ?_
  refine wp_iconst (v := -1) dX10_putName_0 (by decide) ?_
  refine wx_istore_n (ls' := [(0, .ref a0), (1, .int x1), (2, .int (-1 : Int32))]) (i := 2) dX10_putName_1 rfl (by decide) rfl ?_
  refine wp_aload_n (i := 0) dX10_putName_2 rfl rfl ?_
  refine wz_getI dX10_putName_3 (st_0 ha0) (f10_21 _ (by decide)) rfl ?_
  refine wx_istore_n (ls' := [(0, .ref a0), (1, .int x1), (2, .int (-1 : Int32)), (3, .int (V a0 12))]) (i := 3) dX10_putName_6 rfl (by decide) rfl ?_
  exact hv Q hq
theorem wX10_putName_7 {a0 : Nat} {ky0 : Nat} {x1 : Int32} {x2 : Int32} {x3 : Int32} (hK : StK K) (ha0 : IsSt K a0 10 ky0) (hv : ((x3 = (-1 : Int32) → Ev G (d + 1) mX10_putName 45 [(0, .ref a0), (1, .int x1), (2, .int x2), (3, .int x3)] (K, n, V, J, O) r (K, n, V', J, O)) ∧ (¬ x3 = (-1 : Int32) → (((V a0 13) ≤ (V a0 8) → Ev G (d + 1) mX10_putName 45 [(0, .ref a0), (1, .int x1), (2, .int x2), (3, .int x3)] (K, n, V, J, O) r (K, n, V', J, O)) ∧ (¬ (V a0 13) ≤ (V a0 8) → (∃ (v1 : Int32), Ev G d mX10_sideFor 0 [(0, .ref a0), (1, .int x1), (2, .int x3)] (K, n, (up2 V a0 8 ((V a0 8) + (1 : Int32))), J, O) (some (.int v1)) (K, n, (up2 V a0 8 ((V a0 8) + (1 : Int32))), J, O) ∧ Ev G (d + 1) mX10_putName 7 [(0, .ref a0), (1, .int x1), (2, .int x3), (3, .int v1)] (K, n, (up2 V a0 8 ((V a0 8) + (1 : Int32))), J, O) r (K, n, V', J, O))))))) : Ev G (d + 1) mX10_putName 7 [(0, .ref a0), (1, .int x1), (2, .int x2), (3, .int x3)] (K, n, V, J, O) r (K, n, V', J, O) := by
  refine Ev.mk fun Q hq => ?_
  refine wp_iload_n (i := 3) dX10_putName_7 rfl rfl ?_
  refine wp_iconst (v := -1) dX10_putName_8 (by decide) ?_
  refine wp_icmp_eq 45 dX10_putName_9 (by decide) (fun q => ?_) (fun q => ?_)
  · replace hv := hv.1 q
    exact hv Q hq
  · replace hv := hv.2 q
    refine wp_aload_n (i := 0) dX10_putName_12 rfl rfl ?_
    refine wz_getI dX10_putName_13 (st_0 ha0) (f10_32 _ (by decide)) rfl ?_
    refine wp_aload_n (i := 0) dX10_putName_16 rfl rfl ?_
    refine wz_getI dX10_putName_17 (st_0 ha0) (f10_35 _ (by decide)) rfl ?_
    refine wp_icmp_ge 45 dX10_putName_20 (by decide) (fun q => ?_) (fun q => ?_)
    · replace hv := hv.1 q
      exact hv Q hq
    · replace hv := hv.2 q
      refine wp_aload_n (i := 0) dX10_putName_23 rfl rfl ?_
      refine wp_dupR dX10_putName_24 ?_
      refine wz_getI dX10_putName_25 (st_0 ha0) (f10_32 _ (by decide)) rfl ?_
      refine wp_iconst (v := 1) dX10_putName_28 (by decide) ?_
      refine wp_iadd dX10_putName_29 ?_
      refine wz_putI dX10_putName_30 (st_0 ha0) (w10_32 _ (by decide)) rfl ?_
      refine wp_iload_n (i := 3) dX10_putName_33 rfl rfl ?_
      refine wx_istore_n (ls' := [(0, .ref a0), (1, .int x1), (2, .int x3), (3, .int x3)]) (i := 2) dX10_putName_34 rfl (by decide) rfl ?_
      refine wp_aload_n (i := 0) dX10_putName_35 rfl rfl ?_
      refine wp_iload_n (i := 1) dX10_putName_36 rfl rfl ?_
      refine wp_iload_n (i := 3) dX10_putName_37 rfl rfl ?_
      obtain ⟨v1, hE, hv⟩ := hv
      refine wz_callV (vs := [.int x1, .int x3]) (st := []) dX10_putName_38 (st_0 ha0) rfl k10_38_10 hE rfl (Nat.le_of_ble_eq_true rfl) (Nat.le_of_ble_eq_true rfl) ?_
      change wp _ _ _ _ _ [.int v1] _ _ _
      refine wx_istore_n (ls' := [(0, .ref a0), (1, .int x1), (2, .int x3), (3, .int v1)]) (i := 3) dX10_putName_41 rfl (by decide) rfl ?_
      refine wp_goto 7 dX10_putName_42 (by decide) ?_
      exact hv Q hq
theorem wX10_putName_45 {a0 : Nat} {ky0 : Nat} {x1 : Int32} {x2 : Int32} {x3 : Int32} (hK : StK K) (ha0 : IsSt K a0 10 ky0) (hv : (vp_in x1 80 ∧ (vp_in x1 80 ∧ ((x2 ≠ (-1 : Int32) → (vp_in x2 80 ∧ (∃ (v4 : Int32), Ev G d mX5_comesAhead 0 [(0, .ref a0), (1, .int x1), (2, .int ((up2 (up2 (up2 V (a0 + 2) (x1).toNatClampNeg (-1 : Int32)) (a0 + 3) (x1).toNatClampNeg (-1 : Int32)) a0 13 (((up2 (up2 V (a0 + 2) (x1).toNatClampNeg (-1 : Int32)) (a0 + 3) (x1).toNatClampNeg (-1 : Int32)) a0 13) + (1 : Int32))) (4 + 1 + ky0) (x2).toNatClampNeg)), (3, .int x2)] (K, n, (up2 (up2 (up2 V (a0 + 2) (x1).toNatClampNeg (-1 : Int32)) (a0 + 3) (x1).toNatClampNeg (-1 : Int32)) a0 13 (((up2 (up2 V (a0 + 2) (x1).toNatClampNeg (-1 : Int32)) (a0 + 3) (x1).toNatClampNeg (-1 : Int32)) a0 13) + (1 : Int32))), J, O) (some (.int v4)) (K, n, (up2 (up2 (up2 V (a0 + 2) (x1).toNatClampNeg (-1 : Int32)) (a0 + 3) (x1).toNatClampNeg (-1 : Int32)) a0 13 (((up2 (up2 V (a0 + 2) (x1).toNatClampNeg (-1 : Int32)) (a0 + 3) (x1).toNatClampNeg (-1 : Int32)) a0 13) + (1 : Int32))), J, O) ∧ ((v4 = 0 → (vp_in x2 80 ∧ (r = none ∧ V' = (up2 (up2 (up2 (up2 V (a0 + 2) (x1).toNatClampNeg (-1 : Int32)) (a0 + 3) (x1).toNatClampNeg (-1 : Int32)) a0 13 (((up2 (up2 V (a0 + 2) (x1).toNatClampNeg (-1 : Int32)) (a0 + 3) (x1).toNatClampNeg (-1 : Int32)) a0 13) + (1 : Int32))) (a0 + 3) (x2).toNatClampNeg x1)))) ∧ (¬ v4 = 0 → (vp_in x2 80 ∧ (r = none ∧ V' = (up2 (up2 (up2 (up2 V (a0 + 2) (x1).toNatClampNeg (-1 : Int32)) (a0 + 3) (x1).toNatClampNeg (-1 : Int32)) a0 13 (((up2 (up2 V (a0 + 2) (x1).toNatClampNeg (-1 : Int32)) (a0 + 3) (x1).toNatClampNeg (-1 : Int32)) a0 13) + (1 : Int32))) (a0 + 2) (x2).toNatClampNeg x1)))))))) ∧ (x2 = (-1 : Int32) → (r = none ∧ V' = (up2 (up2 (up2 (up2 V (a0 + 2) (x1).toNatClampNeg (-1 : Int32)) (a0 + 3) (x1).toNatClampNeg (-1 : Int32)) a0 13 (((up2 (up2 V (a0 + 2) (x1).toNatClampNeg (-1 : Int32)) (a0 + 3) (x1).toNatClampNeg (-1 : Int32)) a0 13) + (1 : Int32))) a0 12 x1))))))) : Ev G (d + 1) mX10_putName 45 [(0, .ref a0), (1, .int x1), (2, .int x2), (3, .int x3)] (K, n, V, J, O) r (K, n, V', J, O) := by
  refine Ev.mk fun Q hq => ?_
  refine wp_aload_n (i := 0) dX10_putName_45 rfl rfl ?_
  refine wz_getR (b := (a0 + 2)) dX10_putName_46 (st_0 ha0) (f10_9 _ (by decide)) rfl ?_
  refine wp_iload_n (i := 1) dX10_putName_49 rfl rfl ?_
  refine wp_iconst (v := -1) dX10_putName_50 (by decide) ?_
  obtain ⟨z1, hv⟩ := hv
  refine wz_iastore dX10_putName_51 (st_tr2 ha0) z1 ?_
  refine wp_aload_n (i := 0) dX10_putName_52 rfl rfl ?_
  refine wz_getR (b := (a0 + 3)) dX10_putName_53 (st_0 ha0) (f10_15 _ (by decide)) rfl ?_
  refine wp_iload_n (i := 1) dX10_putName_56 rfl rfl ?_
  refine wp_iconst (v := -1) dX10_putName_57 (by decide) ?_
  obtain ⟨z2, hv⟩ := hv
  refine wz_iastore dX10_putName_58 (st_tr3 ha0) z2 ?_
  refine wp_aload_n (i := 0) dX10_putName_59 rfl rfl ?_
  refine wp_dupR dX10_putName_60 ?_
  refine wz_getI dX10_putName_61 (st_0 ha0) (f10_35 _ (by decide)) rfl ?_
  refine wp_iconst (v := 1) dX10_putName_64 (by decide) ?_
  refine wp_iadd dX10_putName_65 ?_
  refine wz_putI dX10_putName_66 (st_0 ha0) (w10_35 _ (by decide)) rfl ?_
  refine wp_iload_n (i := 2) dX10_putName_69 rfl rfl ?_
  refine wp_iconst (v := -1) dX10_putName_70 (by decide) ?_
  refine wp_icmp_ne 82 dX10_putName_71 (by decide) (fun q => ?_) (fun q => ?_)
  · replace hv := hv.1 q
    refine wp_aload_n (i := 0) dX10_putName_82 rfl rfl ?_
    refine wp_iload_n (i := 1) dX10_putName_83 rfl rfl ?_
    refine wp_aload_n (i := 0) dX10_putName_84 rfl rfl ?_
    refine wz_getR (b := (4 + 1 + ky0)) dX10_putName_85 (st_0 ha0) (f10_25 _ (by decide)) rfl ?_
    refine wp_iload_n (i := 2) dX10_putName_88 rfl rfl ?_
    obtain ⟨z3, hv⟩ := hv
    refine wz_iaload dX10_putName_89 (st_k hK ha0) z3 ?_
    refine wp_iload_n (i := 2) dX10_putName_90 rfl rfl ?_
    obtain ⟨v4, hE, hv⟩ := hv
    refine wz_callU (vs := [.int x1, .int ((up2 (up2 (up2 V (a0 + 2) (x1).toNatClampNeg (-1 : Int32)) (a0 + 3) (x1).toNatClampNeg (-1 : Int32)) a0 13 (((up2 (up2 V (a0 + 2) (x1).toNatClampNeg (-1 : Int32)) (a0 + 3) (x1).toNatClampNeg (-1 : Int32)) a0 13) + (1 : Int32))) (4 + 1 + ky0) (x2).toNatClampNeg), .int x2]) (st := []) dX10_putName_91 (st_0 ha0) rfl k10_28_10 hE rfl (Nat.le_of_ble_eq_true rfl) (Nat.le_of_ble_eq_true rfl) ?_
    change wp _ _ _ _ _ [.int v4] _ _ _
    refine wp_if_eq 107 dX10_putName_94 (by decide) (fun q => ?_) (fun q => ?_)
    · replace hv := hv.1 q
      refine wp_aload_n (i := 0) dX10_putName_107 rfl rfl ?_
      refine wz_getR (b := (a0 + 3)) dX10_putName_108 (st_0 ha0) (f10_15 _ (by decide)) rfl ?_
      refine wp_iload_n (i := 2) dX10_putName_111 rfl rfl ?_
      refine wp_iload_n (i := 1) dX10_putName_112 rfl rfl ?_
      obtain ⟨z5, hv⟩ := hv
      refine wz_iastore dX10_putName_113 (st_tr3 ha0) z5 ?_
      obtain ⟨rfl, rfl⟩ := hv
      exact wp_return dX10_putName_114 rfl rfl hq
    · replace hv := hv.2 q
      refine wp_aload_n (i := 0) dX10_putName_97 rfl rfl ?_
      refine wz_getR (b := (a0 + 2)) dX10_putName_98 (st_0 ha0) (f10_9 _ (by decide)) rfl ?_
      refine wp_iload_n (i := 2) dX10_putName_101 rfl rfl ?_
      refine wp_iload_n (i := 1) dX10_putName_102 rfl rfl ?_
      obtain ⟨z6, hv⟩ := hv
      refine wz_iastore dX10_putName_103 (st_tr2 ha0) z6 ?_
      refine wp_goto 114 dX10_putName_104 (by decide) ?_
      obtain ⟨rfl, rfl⟩ := hv
      exact wp_return dX10_putName_114 rfl rfl hq
  · replace hv := hv.2 q
    refine wp_aload_n (i := 0) dX10_putName_74 rfl rfl ?_
    refine wp_iload_n (i := 1) dX10_putName_75 rfl rfl ?_
    refine wz_putI dX10_putName_76 (st_0 ha0) (w10_21 _ (by decide)) rfl ?_
    refine wp_goto 114 dX10_putName_79 (by decide) ?_
    obtain ⟨rfl, rfl⟩ := hv
    exact wp_return dX10_putName_114 rfl rfl hq
theorem wX10_takeName_0 {a0 : Nat} {ky0 : Nat} {x1 : Int32} (hK : StK K) (ha0 : IsSt K a0 10 ky0) (hv : Ev G (d + 1) mX10_takeName 7 [(0, .ref a0), (1, .int x1), (2, .int (-1 : Int32)), (3, .int (V a0 12))] (K, n, V, J, O) r (K, n, V', J, O)) : Ev G (d + 1) mX10_takeName 0 [(0, .ref a0), (1, .int x1)] (K, n, V, J, O) r (K, n, V', J, O) := by
  refine Ev.mk fun Q hq => ?_
  refine wp_iconst (v := -1) dX10_takeName_0 (by decide) ?_
  refine wx_istore_n (ls' := [(0, .ref a0), (1, .int x1), (2, .int (-1 : Int32))]) (i := 2) dX10_takeName_1 rfl (by decide) rfl ?_
  refine wp_aload_n (i := 0) dX10_takeName_2 rfl rfl ?_
  refine wz_getI dX10_takeName_3 (st_0 ha0) (f10_21 _ (by decide)) rfl ?_
  refine wx_istore_n (ls' := [(0, .ref a0), (1, .int x1), (2, .int (-1 : Int32)), (3, .int (V a0 12))]) (i := 3) dX10_takeName_6 rfl (by decide) rfl ?_
  exact hv Q hq
theorem wX10_takeName_7 {a0 : Nat} {ky0 : Nat} {x1 : Int32} {x2 : Int32} {x3 : Int32} (hK : StK K) (ha0 : IsSt K a0 10 ky0) (hv : ((x3 = (-1 : Int32) → ((x3 = x1 → (∃ (v2 : Int32) (V1 : SV), Ev G d mX10_heirOf 0 [(0, .ref a0), (1, .int x1)] (K, n, (up2 V a0 8 ((V a0 8) + (1 : Int32))), J, O) (some (.int v2)) (K, n, V1, J, O) ∧ (∃ (V3 : SV), Ev G d mX10_hang 0 [(0, .ref a0), (1, .int x2), (2, .int x1), (3, .int v2)] (K, n, V1, J, O) none (K, n, V3, J, O) ∧ (r = none ∧ V' = (up2 V3 a0 13 ((V3 a0 13) - (1 : Int32))))))) ∧ (¬ x3 = x1 → (r = none ∧ V' = V)))) ∧ (¬ x3 = (-1 : Int32) → ((x3 = x1 → ((x3 = x1 → (∃ (v5 : Int32) (V4 : SV), Ev G d mX10_heirOf 0 [(0, .ref a0), (1, .int x1)] (K, n, (up2 V a0 8 ((V a0 8) + (1 : Int32))), J, O) (some (.int v5)) (K, n, V4, J, O) ∧ (∃ (V6 : SV), Ev G d mX10_hang 0 [(0, .ref a0), (1, .int x2), (2, .int x1), (3, .int v5)] (K, n, V4, J, O) none (K, n, V6, J, O) ∧ (r = none ∧ V' = (up2 V6 a0 13 ((V6 a0 13) - (1 : Int32))))))) ∧ (¬ x3 = x1 → (r = none ∧ V' = V)))) ∧ (¬ x3 = x1 → (((V a0 13) ≤ (V a0 8) → ((x3 = x1 → (∃ (v8 : Int32) (V7 : SV), Ev G d mX10_heirOf 0 [(0, .ref a0), (1, .int x1)] (K, n, (up2 V a0 8 ((V a0 8) + (1 : Int32))), J, O) (some (.int v8)) (K, n, V7, J, O) ∧ (∃ (V9 : SV), Ev G d mX10_hang 0 [(0, .ref a0), (1, .int x2), (2, .int x1), (3, .int v8)] (K, n, V7, J, O) none (K, n, V9, J, O) ∧ (r = none ∧ V' = (up2 V9 a0 13 ((V9 a0 13) - (1 : Int32))))))) ∧ (¬ x3 = x1 → (r = none ∧ V' = V)))) ∧ (¬ (V a0 13) ≤ (V a0 8) → (∃ (v10 : Int32), Ev G d mX10_sideFor 0 [(0, .ref a0), (1, .int x1), (2, .int x3)] (K, n, (up2 V a0 8 ((V a0 8) + (1 : Int32))), J, O) (some (.int v10)) (K, n, (up2 V a0 8 ((V a0 8) + (1 : Int32))), J, O) ∧ Ev G (d + 1) mX10_takeName 7 [(0, .ref a0), (1, .int x1), (2, .int x3), (3, .int v10)] (K, n, (up2 V a0 8 ((V a0 8) + (1 : Int32))), J, O) r (K, n, V', J, O))))))))) : Ev G (d + 1) mX10_takeName 7 [(0, .ref a0), (1, .int x1), (2, .int x2), (3, .int x3)] (K, n, V, J, O) r (K, n, V', J, O) := by
  refine Ev.mk fun Q hq => ?_
  refine wp_iload_n (i := 3) dX10_takeName_7 rfl rfl ?_
  refine wp_iconst (v := -1) dX10_takeName_8 (by decide) ?_
  refine wp_icmp_eq 50 dX10_takeName_9 (by decide) (fun q => ?_) (fun q => ?_)
  · replace hv := hv.1 q
    refine wp_iload_n (i := 3) dX10_takeName_50 rfl rfl ?_
    refine wp_iload_n (i := 1) dX10_takeName_51 rfl rfl ?_
    refine wp_icmp_eq 56 dX10_takeName_52 (by decide) (fun q => ?_) (fun q => ?_)
    · replace hv := hv.1 q
      refine wp_aload_n (i := 0) dX10_takeName_56 rfl rfl ?_
      refine wp_dupR dX10_takeName_57 ?_
      refine wz_getI dX10_takeName_58 (st_0 ha0) (f10_32 _ (by decide)) rfl ?_
      refine wp_iconst (v := 1) dX10_takeName_61 (by decide) ?_
      refine wp_iadd dX10_takeName_62 ?_
      refine wz_putI dX10_takeName_63 (st_0 ha0) (w10_32 _ (by decide)) rfl ?_
      refine wp_aload_n (i := 0) dX10_takeName_66 rfl rfl ?_
      refine wp_iload_n (i := 2) dX10_takeName_67 rfl rfl ?_
      refine wp_iload_n (i := 1) dX10_takeName_68 rfl rfl ?_
      refine wp_aload_n (i := 0) dX10_takeName_69 rfl rfl ?_
      refine wp_iload_n (i := 1) dX10_takeName_70 rfl rfl ?_
      obtain ⟨v2, V1, hE, hv⟩ := hv
      refine wz_callV (vs := [.int x1]) (st := [.int x1, .int x2, .ref a0]) dX10_takeName_71 (st_0 ha0) rfl k10_42_10 hE rfl (Nat.le_of_ble_eq_true rfl) (Nat.le_of_ble_eq_true rfl) ?_
      change wp _ _ _ _ _ [.int v2, .int x1, .int x2, .ref a0] _ _ _
      obtain ⟨V3, hE, hv⟩ := hv
      refine wz_callV (vs := [.int x2, .int x1, .int v2]) (st := []) dX10_takeName_74 (st_0 ha0) rfl k10_46_10 hE rfl (Nat.le_of_ble_eq_true rfl) (Nat.le_of_ble_eq_true rfl) ?_
      change wp _ _ _ _ _ [] _ _ _
      refine wp_aload_n (i := 0) dX10_takeName_77 rfl rfl ?_
      refine wp_dupR dX10_takeName_78 ?_
      refine wz_getI dX10_takeName_79 (st_0 ha0) (f10_35 _ (by decide)) rfl ?_
      refine wp_iconst (v := 1) dX10_takeName_82 (by decide) ?_
      refine wp_isub dX10_takeName_83 ?_
      refine wz_putI dX10_takeName_84 (st_0 ha0) (w10_35 _ (by decide)) rfl ?_
      obtain ⟨rfl, rfl⟩ := hv
      exact wp_return dX10_takeName_87 rfl rfl hq
    · replace hv := hv.2 q
      obtain ⟨rfl, rfl⟩ := hv
      exact wp_return dX10_takeName_55 rfl rfl hq
  · replace hv := hv.2 q
    refine wp_iload_n (i := 3) dX10_takeName_12 rfl rfl ?_
    refine wp_iload_n (i := 1) dX10_takeName_13 rfl rfl ?_
    refine wp_icmp_eq 50 dX10_takeName_14 (by decide) (fun q => ?_) (fun q => ?_)
    · replace hv := hv.1 q
      refine wp_iload_n (i := 3) dX10_takeName_50 rfl rfl ?_
      refine wp_iload_n (i := 1) dX10_takeName_51 rfl rfl ?_
      refine wp_icmp_eq 56 dX10_takeName_52 (by decide) (fun q => ?_) (fun q => ?_)
      · replace hv := hv.1 q
        refine wp_aload_n (i := 0) dX10_takeName_56 rfl rfl ?_
        refine wp_dupR dX10_takeName_57 ?_
        refine wz_getI dX10_takeName_58 (st_0 ha0) (f10_32 _ (by decide)) rfl ?_
        refine wp_iconst (v := 1) dX10_takeName_61 (by decide) ?_
        refine wp_iadd dX10_takeName_62 ?_
        refine wz_putI dX10_takeName_63 (st_0 ha0) (w10_32 _ (by decide)) rfl ?_
        refine wp_aload_n (i := 0) dX10_takeName_66 rfl rfl ?_
        refine wp_iload_n (i := 2) dX10_takeName_67 rfl rfl ?_
        refine wp_iload_n (i := 1) dX10_takeName_68 rfl rfl ?_
        refine wp_aload_n (i := 0) dX10_takeName_69 rfl rfl ?_
        refine wp_iload_n (i := 1) dX10_takeName_70 rfl rfl ?_
        obtain ⟨v5, V4, hE, hv⟩ := hv
        refine wz_callV (vs := [.int x1]) (st := [.int x1, .int x2, .ref a0]) dX10_takeName_71 (st_0 ha0) rfl k10_42_10 hE rfl (Nat.le_of_ble_eq_true rfl) (Nat.le_of_ble_eq_true rfl) ?_
        change wp _ _ _ _ _ [.int v5, .int x1, .int x2, .ref a0] _ _ _
        obtain ⟨V6, hE, hv⟩ := hv
        refine wz_callV (vs := [.int x2, .int x1, .int v5]) (st := []) dX10_takeName_74 (st_0 ha0) rfl k10_46_10 hE rfl (Nat.le_of_ble_eq_true rfl) (Nat.le_of_ble_eq_true rfl) ?_
        change wp _ _ _ _ _ [] _ _ _
        refine wp_aload_n (i := 0) dX10_takeName_77 rfl rfl ?_
        refine wp_dupR dX10_takeName_78 ?_
        refine wz_getI dX10_takeName_79 (st_0 ha0) (f10_35 _ (by decide)) rfl ?_
        refine wp_iconst (v := 1) dX10_takeName_82 (by decide) ?_
        refine wp_isub dX10_takeName_83 ?_
        refine wz_putI dX10_takeName_84 (st_0 ha0) (w10_35 _ (by decide)) rfl ?_
        obtain ⟨rfl, rfl⟩ := hv
        exact wp_return dX10_takeName_87 rfl rfl hq
      · replace hv := hv.2 q
        obtain ⟨rfl, rfl⟩ := hv
        exact wp_return dX10_takeName_55 rfl rfl hq
    · replace hv := hv.2 q
      refine wp_aload_n (i := 0) dX10_takeName_17 rfl rfl ?_
      refine wz_getI dX10_takeName_18 (st_0 ha0) (f10_32 _ (by decide)) rfl ?_
      refine wp_aload_n (i := 0) dX10_takeName_21 rfl rfl ?_
      refine wz_getI dX10_takeName_22 (st_0 ha0) (f10_35 _ (by decide)) rfl ?_
      refine wp_icmp_ge 50 dX10_takeName_25 (by decide) (fun q => ?_) (fun q => ?_)
      · replace hv := hv.1 q
        refine wp_iload_n (i := 3) dX10_takeName_50 rfl rfl ?_
        refine wp_iload_n (i := 1) dX10_takeName_51 rfl rfl ?_
        refine wp_icmp_eq 56 dX10_takeName_52 (by decide) (fun q => ?_) (fun q => ?_)
        · replace hv := hv.1 q
          refine wp_aload_n (i := 0) dX10_takeName_56 rfl rfl ?_
          refine wp_dupR dX10_takeName_57 ?_
          refine wz_getI dX10_takeName_58 (st_0 ha0) (f10_32 _ (by decide)) rfl ?_
          refine wp_iconst (v := 1) dX10_takeName_61 (by decide) ?_
          refine wp_iadd dX10_takeName_62 ?_
          refine wz_putI dX10_takeName_63 (st_0 ha0) (w10_32 _ (by decide)) rfl ?_
          refine wp_aload_n (i := 0) dX10_takeName_66 rfl rfl ?_
          refine wp_iload_n (i := 2) dX10_takeName_67 rfl rfl ?_
          refine wp_iload_n (i := 1) dX10_takeName_68 rfl rfl ?_
          refine wp_aload_n (i := 0) dX10_takeName_69 rfl rfl ?_
          refine wp_iload_n (i := 1) dX10_takeName_70 rfl rfl ?_
          obtain ⟨v8, V7, hE, hv⟩ := hv
          refine wz_callV (vs := [.int x1]) (st := [.int x1, .int x2, .ref a0]) dX10_takeName_71 (st_0 ha0) rfl k10_42_10 hE rfl (Nat.le_of_ble_eq_true rfl) (Nat.le_of_ble_eq_true rfl) ?_
          change wp _ _ _ _ _ [.int v8, .int x1, .int x2, .ref a0] _ _ _
          obtain ⟨V9, hE, hv⟩ := hv
          refine wz_callV (vs := [.int x2, .int x1, .int v8]) (st := []) dX10_takeName_74 (st_0 ha0) rfl k10_46_10 hE rfl (Nat.le_of_ble_eq_true rfl) (Nat.le_of_ble_eq_true rfl) ?_
          change wp _ _ _ _ _ [] _ _ _
          refine wp_aload_n (i := 0) dX10_takeName_77 rfl rfl ?_
          refine wp_dupR dX10_takeName_78 ?_
          refine wz_getI dX10_takeName_79 (st_0 ha0) (f10_35 _ (by decide)) rfl ?_
          refine wp_iconst (v := 1) dX10_takeName_82 (by decide) ?_
          refine wp_isub dX10_takeName_83 ?_
          refine wz_putI dX10_takeName_84 (st_0 ha0) (w10_35 _ (by decide)) rfl ?_
          obtain ⟨rfl, rfl⟩ := hv
          exact wp_return dX10_takeName_87 rfl rfl hq
        · replace hv := hv.2 q
          obtain ⟨rfl, rfl⟩ := hv
          exact wp_return dX10_takeName_55 rfl rfl hq
      · replace hv := hv.2 q
        refine wp_aload_n (i := 0) dX10_takeName_28 rfl rfl ?_
        refine wp_dupR dX10_takeName_29 ?_
        refine wz_getI dX10_takeName_30 (st_0 ha0) (f10_32 _ (by decide)) rfl ?_
        refine wp_iconst (v := 1) dX10_takeName_33 (by decide) ?_
        refine wp_iadd dX10_takeName_34 ?_
        refine wz_putI dX10_takeName_35 (st_0 ha0) (w10_32 _ (by decide)) rfl ?_
        refine wp_iload_n (i := 3) dX10_takeName_38 rfl rfl ?_
        refine wx_istore_n (ls' := [(0, .ref a0), (1, .int x1), (2, .int x3), (3, .int x3)]) (i := 2) dX10_takeName_39 rfl (by decide) rfl ?_
        refine wp_aload_n (i := 0) dX10_takeName_40 rfl rfl ?_
        refine wp_iload_n (i := 1) dX10_takeName_41 rfl rfl ?_
        refine wp_iload_n (i := 3) dX10_takeName_42 rfl rfl ?_
        obtain ⟨v10, hE, hv⟩ := hv
        refine wz_callV (vs := [.int x1, .int x3]) (st := []) dX10_takeName_43 (st_0 ha0) rfl k10_38_10 hE rfl (Nat.le_of_ble_eq_true rfl) (Nat.le_of_ble_eq_true rfl) ?_
        change wp _ _ _ _ _ [.int v10] _ _ _
        refine wx_istore_n (ls' := [(0, .ref a0), (1, .int x1), (2, .int x3), (3, .int v10)]) (i := 3) dX10_takeName_46 rfl (by decide) rfl ?_
        refine wp_goto 7 dX10_takeName_47 (by decide) ?_
        exact hv Q hq
theorem wX10_heirOf_0 {a0 : Nat} {ky0 : Nat} {x1 : Int32} (hK : StK K) (ha0 : IsSt K a0 10 ky0) (hv : (vp_in x1 80 ∧ (((V (a0 + 2) (x1).toNatClampNeg) = (-1 : Int32) → Ev G d mX10_heirOf 20 [(0, .ref a0), (1, .int x1)] (K, n, V, J, O) r (K, n, V', J, O)) ∧ (¬ (V (a0 + 2) (x1).toNatClampNeg) = (-1 : Int32) → (vp_in x1 80 ∧ (((V (a0 + 3) (x1).toNatClampNeg) ≠ (-1 : Int32) → (vp_in x1 80 ∧ Ev G d mX10_heirOf 68 [(0, .ref a0), (1, .int x1), (2, .int x1), (3, .int (V (a0 + 3) (x1).toNatClampNeg)), (4, .int (0 : Int32))] (K, n, (up2 V a0 8 ((V a0 8) + (1 : Int32))), J, O) r (K, n, V', J, O))) ∧ ((V (a0 + 3) (x1).toNatClampNeg) = (-1 : Int32) → Ev G d mX10_heirOf 20 [(0, .ref a0), (1, .int x1)] (K, n, V, J, O) r (K, n, V', J, O)))))))) : Ev G d mX10_heirOf 0 [(0, .ref a0), (1, .int x1)] (K, n, V, J, O) r (K, n, V', J, O) := by
  refine Ev.mk fun Q hq => ?_
  refine wp_aload_n (i := 0) dX10_heirOf_0 rfl rfl ?_
  refine wz_getR (b := (a0 + 2)) dX10_heirOf_1 (st_0 ha0) (f10_9 _ (by decide)) rfl ?_
  refine wp_iload_n (i := 1) dX10_heirOf_4 rfl rfl ?_
  obtain ⟨z1, hv⟩ := hv
  refine wz_iaload dX10_heirOf_5 (st_tr2 ha0) z1 ?_
  refine wp_iconst (v := -1) dX10_heirOf_6 (by decide) ?_
  refine wp_icmp_eq 20 dX10_heirOf_7 (by decide) (fun q => ?_) (fun q => ?_)
  · replace hv := hv.1 q
    exact hv Q hq
  · replace hv := hv.2 q
    refine wp_aload_n (i := 0) dX10_heirOf_10 rfl rfl ?_
    refine wz_getR (b := (a0 + 3)) dX10_heirOf_11 (st_0 ha0) (f10_15 _ (by decide)) rfl ?_
    refine wp_iload_n (i := 1) dX10_heirOf_14 rfl rfl ?_
    obtain ⟨z2, hv⟩ := hv
    refine wz_iaload dX10_heirOf_15 (st_tr3 ha0) z2 ?_
    refine wp_iconst (v := -1) dX10_heirOf_16 (by decide) ?_
    refine wp_icmp_ne 46 dX10_heirOf_17 (by decide) (fun q => ?_) (fun q => ?_)
    · replace hv := hv.1 q
      refine wp_iload_n (i := 1) dX10_heirOf_46 rfl rfl ?_
      refine wx_istore_n (ls' := [(0, .ref a0), (1, .int x1), (2, .int x1)]) (i := 2) dX10_heirOf_47 rfl (by decide) rfl ?_
      refine wp_aload_n (i := 0) dX10_heirOf_48 rfl rfl ?_
      refine wz_getR (b := (a0 + 3)) dX10_heirOf_49 (st_0 ha0) (f10_15 _ (by decide)) rfl ?_
      refine wp_iload_n (i := 1) dX10_heirOf_52 rfl rfl ?_
      obtain ⟨z3, hv⟩ := hv
      refine wz_iaload dX10_heirOf_53 (st_tr3 ha0) z3 ?_
      refine wx_istore_n (ls' := [(0, .ref a0), (1, .int x1), (2, .int x1), (3, .int (V (a0 + 3) (x1).toNatClampNeg))]) (i := 3) dX10_heirOf_54 rfl (by decide) rfl ?_
      refine wp_aload_n (i := 0) dX10_heirOf_55 rfl rfl ?_
      refine wp_dupR dX10_heirOf_56 ?_
      refine wz_getI dX10_heirOf_57 (st_0 ha0) (f10_32 _ (by decide)) rfl ?_
      refine wp_iconst (v := 1) dX10_heirOf_60 (by decide) ?_
      refine wp_iadd dX10_heirOf_61 ?_
      refine wz_putI dX10_heirOf_62 (st_0 ha0) (w10_32 _ (by decide)) rfl ?_
      refine wp_iconst (v := 0) dX10_heirOf_65 (by decide) ?_
      refine wx_istore (ls' := [(0, .ref a0), (1, .int x1), (2, .int x1), (3, .int (V (a0 + 3) (x1).toNatClampNeg)), (4, .int (0 : Int32))]) dX10_heirOf_66 (by decide) rfl ?_
      exact hv Q hq
    · replace hv := hv.2 q
      exact hv Q hq
theorem wX10_heirOf_20 {a0 : Nat} {ky0 : Nat} {x1 : Int32} (hK : StK K) (ha0 : IsSt K a0 10 ky0) (hv : (vp_in x1 80 ∧ (((V (a0 + 2) (x1).toNatClampNeg) ≠ (-1 : Int32) → (vp_in x1 80 ∧ (r = some (.int (V (a0 + 2) (x1).toNatClampNeg)) ∧ V' = V))) ∧ ((V (a0 + 2) (x1).toNatClampNeg) = (-1 : Int32) → (vp_in x1 80 ∧ (r = some (.int (V (a0 + 3) (x1).toNatClampNeg)) ∧ V' = V)))))) : Ev G d mX10_heirOf 20 [(0, .ref a0), (1, .int x1)] (K, n, V, J, O) r (K, n, V', J, O) := by
  refine Ev.mk fun Q hq => ?_
  refine wp_aload_n (i := 0) dX10_heirOf_20 rfl rfl ?_
  refine wz_getR (b := (a0 + 2)) dX10_heirOf_21 (st_0 ha0) (f10_9 _ (by decide)) rfl ?_
  refine wp_iload_n (i := 1) dX10_heirOf_24 rfl rfl ?_
  obtain ⟨z1, hv⟩ := hv
  refine wz_iaload dX10_heirOf_25 (st_tr2 ha0) z1 ?_
  refine wp_iconst (v := -1) dX10_heirOf_26 (by decide) ?_
  refine wp_icmp_ne 39 dX10_heirOf_27 (by decide) (fun q => ?_) (fun q => ?_)
  · replace hv := hv.1 q
    refine wp_aload_n (i := 0) dX10_heirOf_39 rfl rfl ?_
    refine wz_getR (b := (a0 + 2)) dX10_heirOf_40 (st_0 ha0) (f10_9 _ (by decide)) rfl ?_
    refine wp_iload_n (i := 1) dX10_heirOf_43 rfl rfl ?_
    obtain ⟨z2, hv⟩ := hv
    refine wz_iaload dX10_heirOf_44 (st_tr2 ha0) z2 ?_
    obtain ⟨rfl, rfl⟩ := hv
    exact wp_ireturn dX10_heirOf_45 rfl rfl rfl hq
  · replace hv := hv.2 q
    refine wp_aload_n (i := 0) dX10_heirOf_30 rfl rfl ?_
    refine wz_getR (b := (a0 + 3)) dX10_heirOf_31 (st_0 ha0) (f10_15 _ (by decide)) rfl ?_
    refine wp_iload_n (i := 1) dX10_heirOf_34 rfl rfl ?_
    obtain ⟨z3, hv⟩ := hv
    refine wz_iaload dX10_heirOf_35 (st_tr3 ha0) z3 ?_
    refine wp_goto 45 dX10_heirOf_36 (by decide) ?_
    obtain ⟨rfl, rfl⟩ := hv
    exact wp_ireturn dX10_heirOf_45 rfl rfl rfl hq
theorem wX10_heirOf_68 {a0 : Nat} {ky0 : Nat} {x1 : Int32} {x2 : Int32} {x3 : Int32} {x4 : Int32} (hK : StK K) (ha0 : IsSt K a0 10 ky0) (hv : (((V a0 13) ≤ x4 → Ev G d mX10_heirOf 112 [(0, .ref a0), (1, .int x1), (2, .int x2), (3, .int x3), (4, .int x4)] (K, n, V, J, O) r (K, n, V', J, O)) ∧ (¬ (V a0 13) ≤ x4 → (vp_in x3 80 ∧ (((V (a0 + 2) (x3).toNatClampNeg) = (-1 : Int32) → Ev G d mX10_heirOf 112 [(0, .ref a0), (1, .int x1), (2, .int x2), (3, .int x3), (4, .int x4)] (K, n, V, J, O) r (K, n, V', J, O)) ∧ (¬ (V (a0 + 2) (x3).toNatClampNeg) = (-1 : Int32) → (vp_in x3 80 ∧ Ev G d mX10_heirOf 68 [(0, .ref a0), (1, .int x1), (2, .int x3), (3, .int (V (a0 + 2) (x3).toNatClampNeg)), (4, .int (x4 + 1))] (K, n, (up2 V a0 8 ((V a0 8) + (1 : Int32))), J, O) r (K, n, V', J, O)))))))) : Ev G d mX10_heirOf 68 [(0, .ref a0), (1, .int x1), (2, .int x2), (3, .int x3), (4, .int x4)] (K, n, V, J, O) r (K, n, V', J, O) := by
  refine Ev.mk fun Q hq => ?_
  refine wp_iload dX10_heirOf_68 rfl ?_
  refine wp_aload_n (i := 0) dX10_heirOf_70 rfl rfl ?_
  refine wz_getI dX10_heirOf_71 (st_0 ha0) (f10_35 _ (by decide)) rfl ?_
  refine wp_icmp_ge 112 dX10_heirOf_74 (by decide) (fun q => ?_) (fun q => ?_)
  · replace hv := hv.1 q
    exact hv Q hq
  · replace hv := hv.2 q
    refine wp_aload_n (i := 0) dX10_heirOf_77 rfl rfl ?_
    refine wz_getR (b := (a0 + 2)) dX10_heirOf_78 (st_0 ha0) (f10_9 _ (by decide)) rfl ?_
    refine wp_iload_n (i := 3) dX10_heirOf_81 rfl rfl ?_
    obtain ⟨z1, hv⟩ := hv
    refine wz_iaload dX10_heirOf_82 (st_tr2 ha0) z1 ?_
    refine wp_iconst (v := -1) dX10_heirOf_83 (by decide) ?_
    refine wp_icmp_eq 112 dX10_heirOf_84 (by decide) (fun q => ?_) (fun q => ?_)
    · replace hv := hv.1 q
      exact hv Q hq
    · replace hv := hv.2 q
      refine wp_iload_n (i := 3) dX10_heirOf_87 rfl rfl ?_
      refine wx_istore_n (ls' := [(0, .ref a0), (1, .int x1), (2, .int x3), (3, .int x3), (4, .int x4)]) (i := 2) dX10_heirOf_88 rfl (by decide) rfl ?_
      refine wp_aload_n (i := 0) dX10_heirOf_89 rfl rfl ?_
      refine wz_getR (b := (a0 + 2)) dX10_heirOf_90 (st_0 ha0) (f10_9 _ (by decide)) rfl ?_
      refine wp_iload_n (i := 3) dX10_heirOf_93 rfl rfl ?_
      obtain ⟨z2, hv⟩ := hv
      refine wz_iaload dX10_heirOf_94 (st_tr2 ha0) z2 ?_
      refine wx_istore_n (ls' := [(0, .ref a0), (1, .int x1), (2, .int x3), (3, .int (V (a0 + 2) (x3).toNatClampNeg)), (4, .int x4)]) (i := 3) dX10_heirOf_95 rfl (by decide) rfl ?_
      refine wp_aload_n (i := 0) dX10_heirOf_96 rfl rfl ?_
      refine wp_dupR dX10_heirOf_97 ?_
      refine wz_getI dX10_heirOf_98 (st_0 ha0) (f10_32 _ (by decide)) rfl ?_
      refine wp_iconst (v := 1) dX10_heirOf_101 (by decide) ?_
      refine wp_iadd dX10_heirOf_102 ?_
      refine wz_putI dX10_heirOf_103 (st_0 ha0) (w10_32 _ (by decide)) rfl ?_
      refine wx_iinc (v := 1) (ls' := [(0, .ref a0), (1, .int x1), (2, .int x3), (3, .int (V (a0 + 2) (x3).toNatClampNeg)), (4, .int (x4 + 1))]) dX10_heirOf_106 rfl (by decide) (by decide) rfl ?_
      refine wp_goto 68 dX10_heirOf_109 (by decide) ?_
      exact hv Q hq
theorem wX10_heirOf_112 {a0 : Nat} {ky0 : Nat} {x1 : Int32} {x2 : Int32} {x3 : Int32} {x4 : Int32} (hK : StK K) (ha0 : IsSt K a0 10 ky0) (hv : ((x2 = x1 → Ev G d mX10_heirOf 141 [(0, .ref a0), (1, .int x1), (2, .int x2), (3, .int x3), (4, .int x4)] (K, n, V, J, O) r (K, n, V', J, O)) ∧ (¬ x2 = x1 → (vp_in x3 80 ∧ (vp_in x2 80 ∧ (vp_in x1 80 ∧ (vp_in x3 80 ∧ Ev G d mX10_heirOf 141 [(0, .ref a0), (1, .int x1), (2, .int x2), (3, .int x3), (4, .int x4)] (K, n, (up2 (up2 V (a0 + 2) (x2).toNatClampNeg (V (a0 + 3) (x3).toNatClampNeg)) (a0 + 3) (x3).toNatClampNeg ((up2 V (a0 + 2) (x2).toNatClampNeg (V (a0 + 3) (x3).toNatClampNeg)) (a0 + 3) (x1).toNatClampNeg)), J, O) r (K, n, V', J, O)))))))) : Ev G d mX10_heirOf 112 [(0, .ref a0), (1, .int x1), (2, .int x2), (3, .int x3), (4, .int x4)] (K, n, V, J, O) r (K, n, V', J, O) := by
  refine Ev.mk fun Q hq => ?_
  refine wp_iload_n (i := 2) dX10_heirOf_112 rfl rfl ?_
  refine wp_iload_n (i := 1) dX10_heirOf_113 rfl rfl ?_
  refine wp_icmp_eq 141 dX10_heirOf_114 (by decide) (fun q => ?_) (fun q => ?_)
  · replace hv := hv.1 q
    exact hv Q hq
  · replace hv := hv.2 q
    refine wp_aload_n (i := 0) dX10_heirOf_117 rfl rfl ?_
    refine wz_getR (b := (a0 + 2)) dX10_heirOf_118 (st_0 ha0) (f10_9 _ (by decide)) rfl ?_
    refine wp_iload_n (i := 2) dX10_heirOf_121 rfl rfl ?_
    refine wp_aload_n (i := 0) dX10_heirOf_122 rfl rfl ?_
    refine wz_getR (b := (a0 + 3)) dX10_heirOf_123 (st_0 ha0) (f10_15 _ (by decide)) rfl ?_
    refine wp_iload_n (i := 3) dX10_heirOf_126 rfl rfl ?_
    obtain ⟨z1, hv⟩ := hv
    refine wz_iaload dX10_heirOf_127 (st_tr3 ha0) z1 ?_
    obtain ⟨z2, hv⟩ := hv
    refine wz_iastore dX10_heirOf_128 (st_tr2 ha0) z2 ?_
    refine wp_aload_n (i := 0) dX10_heirOf_129 rfl rfl ?_
    refine wz_getR (b := (a0 + 3)) dX10_heirOf_130 (st_0 ha0) (f10_15 _ (by decide)) rfl ?_
    refine wp_iload_n (i := 3) dX10_heirOf_133 rfl rfl ?_
    refine wp_aload_n (i := 0) dX10_heirOf_134 rfl rfl ?_
    refine wz_getR (b := (a0 + 3)) dX10_heirOf_135 (st_0 ha0) (f10_15 _ (by decide)) rfl ?_
    refine wp_iload_n (i := 1) dX10_heirOf_138 rfl rfl ?_
    obtain ⟨z3, hv⟩ := hv
    refine wz_iaload dX10_heirOf_139 (st_tr3 ha0) z3 ?_
    obtain ⟨z4, hv⟩ := hv
    refine wz_iastore dX10_heirOf_140 (st_tr3 ha0) z4 ?_
    exact hv Q hq
theorem wX10_heirOf_141 {a0 : Nat} {ky0 : Nat} {x1 : Int32} {x2 : Int32} {x3 : Int32} {x4 : Int32} (hK : StK K) (ha0 : IsSt K a0 10 ky0) (hv : (vp_in x1 80 ∧ (vp_in x3 80 ∧ (r = some (.int x3) ∧ V' = (up2 V (a0 + 2) (x3).toNatClampNeg (V (a0 + 2) (x1).toNatClampNeg)))))) : Ev G d mX10_heirOf 141 [(0, .ref a0), (1, .int x1), (2, .int x2), (3, .int x3), (4, .int x4)] (K, n, V, J, O) r (K, n, V', J, O) := by
  refine Ev.mk fun Q hq => ?_
  refine wp_aload_n (i := 0) dX10_heirOf_141 rfl rfl ?_
  refine wz_getR (b := (a0 + 2)) dX10_heirOf_142 (st_0 ha0) (f10_9 _ (by decide)) rfl ?_
  refine wp_iload_n (i := 3) dX10_heirOf_145 rfl rfl ?_
  refine wp_aload_n (i := 0) dX10_heirOf_146 rfl rfl ?_
  refine wz_getR (b := (a0 + 2)) dX10_heirOf_147 (st_0 ha0) (f10_9 _ (by decide)) rfl ?_
  refine wp_iload_n (i := 1) dX10_heirOf_150 rfl rfl ?_
  obtain ⟨z1, hv⟩ := hv
  refine wz_iaload dX10_heirOf_151 (st_tr2 ha0) z1 ?_
  obtain ⟨z2, hv⟩ := hv
  refine wz_iastore dX10_heirOf_152 (st_tr2 ha0) z2 ?_
  refine wp_iload_n (i := 3) dX10_heirOf_153 rfl rfl ?_
  obtain ⟨rfl, rfl⟩ := hv
  exact wp_ireturn dX10_heirOf_154 rfl rfl rfl hq
theorem wX10_howMany_0 {a0 : Nat} {ky0 : Nat} (hK : StK K) (ha0 : IsSt K a0 10 ky0) (hv : r = some (.int (V a0 13))) : Ev G d mX10_howMany 0 [(0, .ref a0)] (K, n, V, J, O) r (K, n, V, J, O) := by
  refine Ev.mk fun Q hq => ?_
  refine wp_aload_n (i := 0) dX10_howMany_0 rfl rfl ?_
  refine wz_getI dX10_howMany_1 (st_0 ha0) (f10_35 _ (by decide)) rfl ?_
  obtain rfl := hv
  exact wp_ireturn dX10_howMany_4 rfl rfl rfl hq
theorem wX10_nameIn_0 {a0 : Nat} {ky0 : Nat} {x1 : Int32} (hK : StK K) (ha0 : IsSt K a0 10 ky0) (hv : Ev G d mX10_nameIn 13 [(0, .ref a0), (1, .int x1), (2, .int x1), (3, .int (V a0 12)), (4, .int (0 : Int32)), (5, .int (0 : Int32))] (K, n, V, J, O) r (K, n, V', J, O)) : Ev G d mX10_nameIn 0 [(0, .ref a0), (1, .int x1)] (K, n, V, J, O) r (K, n, V', J, O) := by
  refine Ev.mk fun Q hq => ?_
  refine wp_iload_n (i := 1) dX10_nameIn_0 rfl rfl ?_
  refine wx_istore_n (ls' := [(0, .ref a0), (1, .int x1), (2, .int x1)]) (i := 2) dX10_nameIn_1 rfl (by decide) rfl ?_
  refine wp_aload_n (i := 0) dX10_nameIn_2 rfl rfl ?_
  refine wz_getI dX10_nameIn_3 (st_0 ha0) (f10_21 _ (by decide)) rfl ?_
  refine wx_istore_n (ls' := [(0, .ref a0), (1, .int x1), (2, .int x1), (3, .int (V a0 12))]) (i := 3) dX10_nameIn_6 rfl (by decide) rfl ?_
  refine wp_iconst (v := 0) dX10_nameIn_7 (by decide) ?_
  refine wx_istore (ls' := [(0, .ref a0), (1, .int x1), (2, .int x1), (3, .int (V a0 12)), (4, .int (0 : Int32))]) dX10_nameIn_8 (by decide) rfl ?_
  refine wp_iconst (v := 0) dX10_nameIn_10 (by decide) ?_
  refine wx_istore (ls' := [(0, .ref a0), (1, .int x1), (2, .int x1), (3, .int (V a0 12)), (4, .int (0 : Int32)), (5, .int (0 : Int32))]) dX10_nameIn_11 (by decide) rfl ?_
  exact hv Q hq
theorem wX10_nameIn_13 {a0 : Nat} {ky0 : Nat} {x1 : Int32} {x2 : Int32} {x3 : Int32} {x4 : Int32} {x5 : Int32} (hK : StK K) (ha0 : IsSt K a0 10 ky0) (hv : ((((2 : Int32) * (V a0 13)) ≤ x5 → (r = some (.int (-1 : Int32)) ∧ V' = V)) ∧ (¬ ((2 : Int32) * (V a0 13)) ≤ x5 → ((x3 ≠ (-1 : Int32) → ((x3 = (-1 : Int32) → ((x2 ≠ 0 → (vp_in (x4 + (-1)) 80 ∧ (vp_in (V (a0 + 4) ((x4 + (-1))).toNatClampNeg) 80 ∧ Ev G d mX10_nameIn 13 [(0, .ref a0), (1, .int x1), (2, .int (x2 + (-1))), (3, .int (V (a0 + 3) ((V (a0 + 4) ((x4 + (-1))).toNatClampNeg)).toNatClampNeg)), (4, .int (x4 + (-1))), (5, .int (x5 + 1))] (K, n, V, J, O) r (K, n, V', J, O)))) ∧ (x2 = 0 → (vp_in (x4 + (-1)) 80 ∧ (r = some (.int (V (a0 + 4) ((x4 + (-1))).toNatClampNeg)) ∧ V' = V))))) ∧ (¬ x3 = (-1 : Int32) → (vp_in x4 80 ∧ (vp_in x3 80 ∧ Ev G d mX10_nameIn 13 [(0, .ref a0), (1, .int x1), (2, .int x2), (3, .int ((up2 V (a0 + 4) (x4).toNatClampNeg x3) (a0 + 2) (x3).toNatClampNeg)), (4, .int (x4 + 1)), (5, .int (x5 + 1))] (K, n, (up2 V (a0 + 4) (x4).toNatClampNeg x3), J, O) r (K, n, V', J, O)))))) ∧ (x3 = (-1 : Int32) → ((x4 ≤ 0 → (r = some (.int (-1 : Int32)) ∧ V' = V)) ∧ (¬ x4 ≤ 0 → ((x3 = (-1 : Int32) → ((x2 ≠ 0 → (vp_in (x4 + (-1)) 80 ∧ (vp_in (V (a0 + 4) ((x4 + (-1))).toNatClampNeg) 80 ∧ Ev G d mX10_nameIn 13 [(0, .ref a0), (1, .int x1), (2, .int (x2 + (-1))), (3, .int (V (a0 + 3) ((V (a0 + 4) ((x4 + (-1))).toNatClampNeg)).toNatClampNeg)), (4, .int (x4 + (-1))), (5, .int (x5 + 1))] (K, n, V, J, O) r (K, n, V', J, O)))) ∧ (x2 = 0 → (vp_in (x4 + (-1)) 80 ∧ (r = some (.int (V (a0 + 4) ((x4 + (-1))).toNatClampNeg)) ∧ V' = V))))) ∧ (¬ x3 = (-1 : Int32) → (vp_in x4 80 ∧ (vp_in x3 80 ∧ Ev G d mX10_nameIn 13 [(0, .ref a0), (1, .int x1), (2, .int x2), (3, .int ((up2 V (a0 + 4) (x4).toNatClampNeg x3) (a0 + 2) (x3).toNatClampNeg)), (4, .int (x4 + 1)), (5, .int (x5 + 1))] (K, n, (up2 V (a0 + 4) (x4).toNatClampNeg x3), J, O) r (K, n, V', J, O)))))))))))) : Ev G d mX10_nameIn 13 [(0, .ref a0), (1, .int x1), (2, .int x2), (3, .int x3), (4, .int x4), (5, .int x5)] (K, n, V, J, O) r (K, n, V', J, O) := by
  refine Ev.mk fun Q hq => ?_
  refine wp_iload dX10_nameIn_13 rfl ?_
  refine wp_iconst (v := 2) dX10_nameIn_15 (by decide) ?_
  refine wp_aload_n (i := 0) dX10_nameIn_16 rfl rfl ?_
  refine wz_getI dX10_nameIn_17 (st_0 ha0) (f10_35 _ (by decide)) rfl ?_
  refine wp_imul dX10_nameIn_20 ?_
  refine wp_icmp_ge 97 dX10_nameIn_21 (by decide) (fun q => ?_) (fun q => ?_)
  · replace hv := hv.1 q
    refine wp_iconst (v := -1) dX10_nameIn_97 (by decide) ?_
    obtain ⟨rfl, rfl⟩ := hv
    exact wp_ireturn dX10_nameIn_98 rfl rfl rfl hq
  · replace hv := hv.2 q
    refine wp_iload_n (i := 3) dX10_nameIn_24 rfl rfl ?_
    refine wp_iconst (v := -1) dX10_nameIn_25 (by decide) ?_
    refine wp_icmp_ne 34 dX10_nameIn_26 (by decide) (fun q => ?_) (fun q => ?_)
    · replace hv := hv.1 q
      refine wp_iload_n (i := 3) dX10_nameIn_34 rfl rfl ?_
      refine wp_iconst (v := -1) dX10_nameIn_35 (by decide) ?_
      refine wp_icmp_eq 60 dX10_nameIn_36 (by decide) (fun q => ?_) (fun q => ?_)
      · replace hv := hv.1 q
        refine wx_iinc (v := -1) (ls' := [(0, .ref a0), (1, .int x1), (2, .int x2), (3, .int x3), (4, .int (x4 + (-1))), (5, .int x5)]) dX10_nameIn_60 rfl (by decide) (by decide) rfl ?_
        refine wp_iload_n (i := 2) dX10_nameIn_63 rfl rfl ?_
        refine wp_if_ne 75 dX10_nameIn_64 (by decide) (fun q => ?_) (fun q => ?_)
        · replace hv := hv.1 q
          refine wx_iinc (v := -1) (ls' := [(0, .ref a0), (1, .int x1), (2, .int (x2 + (-1))), (3, .int x3), (4, .int (x4 + (-1))), (5, .int x5)]) dX10_nameIn_75 rfl (by decide) (by decide) rfl ?_
          refine wp_aload_n (i := 0) dX10_nameIn_78 rfl rfl ?_
          refine wz_getR (b := (a0 + 3)) dX10_nameIn_79 (st_0 ha0) (f10_15 _ (by decide)) rfl ?_
          refine wp_aload_n (i := 0) dX10_nameIn_82 rfl rfl ?_
          refine wz_getR (b := (a0 + 4)) dX10_nameIn_83 (st_0 ha0) (f10_18 _ (by decide)) rfl ?_
          refine wp_iload dX10_nameIn_86 rfl ?_
          obtain ⟨z1, hv⟩ := hv
          refine wz_iaload dX10_nameIn_88 (st_tr4 ha0) z1 ?_
          obtain ⟨z2, hv⟩ := hv
          refine wz_iaload dX10_nameIn_89 (st_tr3 ha0) z2 ?_
          refine wx_istore_n (ls' := [(0, .ref a0), (1, .int x1), (2, .int (x2 + (-1))), (3, .int (V (a0 + 3) ((V (a0 + 4) ((x4 + (-1))).toNatClampNeg)).toNatClampNeg)), (4, .int (x4 + (-1))), (5, .int x5)]) (i := 3) dX10_nameIn_90 rfl (by decide) rfl ?_
          refine wx_iinc (v := 1) (ls' := [(0, .ref a0), (1, .int x1), (2, .int (x2 + (-1))), (3, .int (V (a0 + 3) ((V (a0 + 4) ((x4 + (-1))).toNatClampNeg)).toNatClampNeg)), (4, .int (x4 + (-1))), (5, .int (x5 + 1))]) dX10_nameIn_91 rfl (by decide) (by decide) rfl ?_
          refine wp_goto 13 dX10_nameIn_94 (by decide) ?_
          exact hv Q hq
        · replace hv := hv.2 q
          refine wp_aload_n (i := 0) dX10_nameIn_67 rfl rfl ?_
          refine wz_getR (b := (a0 + 4)) dX10_nameIn_68 (st_0 ha0) (f10_18 _ (by decide)) rfl ?_
          refine wp_iload dX10_nameIn_71 rfl ?_
          obtain ⟨z3, hv⟩ := hv
          refine wz_iaload dX10_nameIn_73 (st_tr4 ha0) z3 ?_
          obtain ⟨rfl, rfl⟩ := hv
          exact wp_ireturn dX10_nameIn_74 rfl rfl rfl hq
      · replace hv := hv.2 q
        refine wp_aload_n (i := 0) dX10_nameIn_39 rfl rfl ?_
        refine wz_getR (b := (a0 + 4)) dX10_nameIn_40 (st_0 ha0) (f10_18 _ (by decide)) rfl ?_
        refine wp_iload dX10_nameIn_43 rfl ?_
        refine wp_iload_n (i := 3) dX10_nameIn_45 rfl rfl ?_
        obtain ⟨z4, hv⟩ := hv
        refine wz_iastore dX10_nameIn_46 (st_tr4 ha0) z4 ?_
        refine wx_iinc (v := 1) (ls' := [(0, .ref a0), (1, .int x1), (2, .int x2), (3, .int x3), (4, .int (x4 + 1)), (5, .int x5)]) dX10_nameIn_47 rfl (by decide) (by decide) rfl ?_
        refine wp_aload_n (i := 0) dX10_nameIn_50 rfl rfl ?_
        refine wz_getR (b := (a0 + 2)) dX10_nameIn_51 (st_0 ha0) (f10_9 _ (by decide)) rfl ?_
        refine wp_iload_n (i := 3) dX10_nameIn_54 rfl rfl ?_
        obtain ⟨z5, hv⟩ := hv
        refine wz_iaload dX10_nameIn_55 (st_tr2 ha0) z5 ?_
        refine wx_istore_n (ls' := [(0, .ref a0), (1, .int x1), (2, .int x2), (3, .int ((up2 V (a0 + 4) (x4).toNatClampNeg x3) (a0 + 2) (x3).toNatClampNeg)), (4, .int (x4 + 1)), (5, .int x5)]) (i := 3) dX10_nameIn_56 rfl (by decide) rfl ?_
        refine wp_goto 91 dX10_nameIn_57 (by decide) ?_
        refine wx_iinc (v := 1) (ls' := [(0, .ref a0), (1, .int x1), (2, .int x2), (3, .int ((up2 V (a0 + 4) (x4).toNatClampNeg x3) (a0 + 2) (x3).toNatClampNeg)), (4, .int (x4 + 1)), (5, .int (x5 + 1))]) dX10_nameIn_91 rfl (by decide) (by decide) rfl ?_
        refine wp_goto 13 dX10_nameIn_94 (by decide) ?_
        exact hv Q hq
    · replace hv := hv.2 q
      refine wp_iload dX10_nameIn_29 rfl ?_
      refine wp_if_le 97 dX10_nameIn_31 (by decide) (fun q => ?_) (fun q => ?_)
      · replace hv := hv.1 q
        refine wp_iconst (v := -1) dX10_nameIn_97 (by decide) ?_
        obtain ⟨rfl, rfl⟩ := hv
        exact wp_ireturn dX10_nameIn_98 rfl rfl rfl hq
      · replace hv := hv.2 q
        refine wp_iload_n (i := 3) dX10_nameIn_34 rfl rfl ?_
        refine wp_iconst (v := -1) dX10_nameIn_35 (by decide) ?_
        refine wp_icmp_eq 60 dX10_nameIn_36 (by decide) (fun q => ?_) (fun q => ?_)
        · replace hv := hv.1 q
          refine wx_iinc (v := -1) (ls' := [(0, .ref a0), (1, .int x1), (2, .int x2), (3, .int x3), (4, .int (x4 + (-1))), (5, .int x5)]) dX10_nameIn_60 rfl (by decide) (by decide) rfl ?_
          refine wp_iload_n (i := 2) dX10_nameIn_63 rfl rfl ?_
          refine wp_if_ne 75 dX10_nameIn_64 (by decide) (fun q => ?_) (fun q => ?_)
          · replace hv := hv.1 q
            refine wx_iinc (v := -1) (ls' := [(0, .ref a0), (1, .int x1), (2, .int (x2 + (-1))), (3, .int x3), (4, .int (x4 + (-1))), (5, .int x5)]) dX10_nameIn_75 rfl (by decide) (by decide) rfl ?_
            refine wp_aload_n (i := 0) dX10_nameIn_78 rfl rfl ?_
            refine wz_getR (b := (a0 + 3)) dX10_nameIn_79 (st_0 ha0) (f10_15 _ (by decide)) rfl ?_
            refine wp_aload_n (i := 0) dX10_nameIn_82 rfl rfl ?_
            refine wz_getR (b := (a0 + 4)) dX10_nameIn_83 (st_0 ha0) (f10_18 _ (by decide)) rfl ?_
            refine wp_iload dX10_nameIn_86 rfl ?_
            obtain ⟨z6, hv⟩ := hv
            refine wz_iaload dX10_nameIn_88 (st_tr4 ha0) z6 ?_
            obtain ⟨z7, hv⟩ := hv
            refine wz_iaload dX10_nameIn_89 (st_tr3 ha0) z7 ?_
            refine wx_istore_n (ls' := [(0, .ref a0), (1, .int x1), (2, .int (x2 + (-1))), (3, .int (V (a0 + 3) ((V (a0 + 4) ((x4 + (-1))).toNatClampNeg)).toNatClampNeg)), (4, .int (x4 + (-1))), (5, .int x5)]) (i := 3) dX10_nameIn_90 rfl (by decide) rfl ?_
            refine wx_iinc (v := 1) (ls' := [(0, .ref a0), (1, .int x1), (2, .int (x2 + (-1))), (3, .int (V (a0 + 3) ((V (a0 + 4) ((x4 + (-1))).toNatClampNeg)).toNatClampNeg)), (4, .int (x4 + (-1))), (5, .int (x5 + 1))]) dX10_nameIn_91 rfl (by decide) (by decide) rfl ?_
            refine wp_goto 13 dX10_nameIn_94 (by decide) ?_
            exact hv Q hq
          · replace hv := hv.2 q
            refine wp_aload_n (i := 0) dX10_nameIn_67 rfl rfl ?_
            refine wz_getR (b := (a0 + 4)) dX10_nameIn_68 (st_0 ha0) (f10_18 _ (by decide)) rfl ?_
            refine wp_iload dX10_nameIn_71 rfl ?_
            obtain ⟨z8, hv⟩ := hv
            refine wz_iaload dX10_nameIn_73 (st_tr4 ha0) z8 ?_
            obtain ⟨rfl, rfl⟩ := hv
            exact wp_ireturn dX10_nameIn_74 rfl rfl rfl hq
        · replace hv := hv.2 q
          refine wp_aload_n (i := 0) dX10_nameIn_39 rfl rfl ?_
          refine wz_getR (b := (a0 + 4)) dX10_nameIn_40 (st_0 ha0) (f10_18 _ (by decide)) rfl ?_
          refine wp_iload dX10_nameIn_43 rfl ?_
          refine wp_iload_n (i := 3) dX10_nameIn_45 rfl rfl ?_
          obtain ⟨z9, hv⟩ := hv
          refine wz_iastore dX10_nameIn_46 (st_tr4 ha0) z9 ?_
          refine wx_iinc (v := 1) (ls' := [(0, .ref a0), (1, .int x1), (2, .int x2), (3, .int x3), (4, .int (x4 + 1)), (5, .int x5)]) dX10_nameIn_47 rfl (by decide) (by decide) rfl ?_
          refine wp_aload_n (i := 0) dX10_nameIn_50 rfl rfl ?_
          refine wz_getR (b := (a0 + 2)) dX10_nameIn_51 (st_0 ha0) (f10_9 _ (by decide)) rfl ?_
          refine wp_iload_n (i := 3) dX10_nameIn_54 rfl rfl ?_
          obtain ⟨z10, hv⟩ := hv
          refine wz_iaload dX10_nameIn_55 (st_tr2 ha0) z10 ?_
          refine wx_istore_n (ls' := [(0, .ref a0), (1, .int x1), (2, .int x2), (3, .int ((up2 V (a0 + 4) (x4).toNatClampNeg x3) (a0 + 2) (x3).toNatClampNeg)), (4, .int (x4 + 1)), (5, .int x5)]) (i := 3) dX10_nameIn_56 rfl (by decide) rfl ?_
          refine wp_goto 91 dX10_nameIn_57 (by decide) ?_
          refine wx_iinc (v := 1) (ls' := [(0, .ref a0), (1, .int x1), (2, .int x2), (3, .int ((up2 V (a0 + 4) (x4).toNatClampNeg x3) (a0 + 2) (x3).toNatClampNeg)), (4, .int (x4 + 1)), (5, .int (x5 + 1))]) dX10_nameIn_91 rfl (by decide) (by decide) rfl ?_
          refine wp_goto 13 dX10_nameIn_94 (by decide) ?_
          exact hv Q hq
theorem wX10_run_0 {a0 : Nat} {ky0 : Nat} {a1 : Nat} (hK : StK K) (ha0 : IsSt K a0 10 ky0) (hq1 : IsAk K a1) (hv : (∃ (v1 : Int32), Ev G d mX0_lowEnd 0 [(0, .ref a1), (1, .int (V a0 2))] (K, n, V, J, O) (some (.int v1)) (K, n, V, J, O) ∧ (∃ (v2 : Int32), Ev G d mX0_highEnd 0 [(0, .ref a1), (1, .int (V a0 2))] (K, n, V, J, O) (some (.int v2)) (K, n, V, J, O) ∧ Ev G (d + 1) mX10_run 30 [(0, .ref a0), (1, .ref a1), (2, .int v1), (3, .int v2), (4, .int (0 : Int32)), (5, .int (V a0 12)), (6, .int (0 : Int32))] (K, n, V, J, O) r (K, n, V', J, O)))) : Ev G (d + 1) mX10_run 0 [(0, .ref a0), (1, .ref a1)] (K, n, V, J, O) r (K, n, V', J, O) := by
  refine Ev.mk fun Q hq => ?_
  refine wp_aload_n (i := 1) dX10_run_0 rfl rfl ?_
  refine wp_aload_n (i := 0) dX10_run_1 rfl rfl ?_
  refine wz_getI dX10_run_2 (st_0 ha0) (f10_50 _ (by decide)) rfl ?_
  obtain ⟨v1, hE, hv⟩ := hv
  refine wz_callV (vs := [.int (V a0 2)]) (st := []) dX10_run_5 (ak_0 hq1) rfl k10_53_0 hE rfl (Nat.le_of_ble_eq_true rfl) (Nat.le_of_ble_eq_true rfl) ?_
  change wp _ _ _ _ _ [.int v1] _ _ _
  refine wx_istore_n (ls' := [(0, .ref a0), (1, .ref a1), (2, .int v1)]) (i := 2) dX10_run_8 rfl (by decide) rfl ?_
  refine wp_aload_n (i := 1) dX10_run_9 rfl rfl ?_
  refine wp_aload_n (i := 0) dX10_run_10 rfl rfl ?_
  refine wz_getI dX10_run_11 (st_0 ha0) (f10_50 _ (by decide)) rfl ?_
  obtain ⟨v2, hE, hv⟩ := hv
  refine wz_callV (vs := [.int (V a0 2)]) (st := []) dX10_run_14 (ak_0 hq1) rfl k10_58_0 hE rfl (Nat.le_of_ble_eq_true rfl) (Nat.le_of_ble_eq_true rfl) ?_
  change wp _ _ _ _ _ [.int v2] _ _ _
  refine wx_istore_n (ls' := [(0, .ref a0), (1, .ref a1), (2, .int v1), (3, .int v2)]) (i := 3) dX10_run_17 rfl (by decide) rfl ?_
  refine wp_iconst (v := 0) dX10_run_18 (by decide) ?_
  refine wx_istore (ls' := [(0, .ref a0), (1, .ref a1), (2, .int v1), (3, .int v2), (4, .int (0 : Int32))]) dX10_run_19 (by decide) rfl ?_
  refine wp_aload_n (i := 0) dX10_run_21 rfl rfl ?_
  refine wz_getI dX10_run_22 (st_0 ha0) (f10_21 _ (by decide)) rfl ?_
  refine wx_istore (ls' := [(0, .ref a0), (1, .ref a1), (2, .int v1), (3, .int v2), (4, .int (0 : Int32)), (5, .int (V a0 12))]) dX10_run_25 (by decide) rfl ?_
  refine wp_iconst (v := 0) dX10_run_27 (by decide) ?_
  refine wx_istore (ls' := [(0, .ref a0), (1, .ref a1), (2, .int v1), (3, .int v2), (4, .int (0 : Int32)), (5, .int (V a0 12)), (6, .int (0 : Int32))]) dX10_run_28 (by decide) rfl ?_
  exact hv Q hq
theorem wX10_run_30 {a0 : Nat} {ky0 : Nat} {a1 : Nat} {x2 : Int32} {x3 : Int32} {x4 : Int32} {x5 : Int32} {x6 : Int32} (hK : StK K) (ha0 : IsSt K a0 10 ky0) (hq1 : IsAk K a1) (hv : (((V a0 13) ≤ x6 → Ev G (d + 1) mX10_run 168 [(0, .ref a0), (1, .ref a1), (2, .int x2), (3, .int x3), (4, .int x4), (5, .int x5), (6, .int x6)] (K, n, V, J, O) r (K, n, V', J, O)) ∧ (¬ (V a0 13) ≤ x6 → ((x5 = (-1 : Int32) → Ev G (d + 1) mX10_run 168 [(0, .ref a0), (1, .ref a1), (2, .int x2), (3, .int x3), (4, .int x4), (5, .int x5), (6, .int x6)] (K, n, V, J, O) r (K, n, V', J, O)) ∧ (¬ x5 = (-1 : Int32) → (vp_in x5 80 ∧ ((((up2 V a0 8 ((V a0 8) + (1 : Int32))) (4 + 1 + ky0) (x5).toNatClampNeg) < x2 → Ev G (d + 1) mX10_run 86 [(0, .ref a0), (1, .ref a1), (2, .int x2), (3, .int x3), (4, .int x4), (5, .int x5), (6, .int x6), (7, .int ((up2 V a0 8 ((V a0 8) + (1 : Int32))) (4 + 1 + ky0) (x5).toNatClampNeg))] (K, n, (up2 V a0 8 ((V a0 8) + (1 : Int32))), J, O) r (K, n, V', J, O)) ∧ (¬ ((up2 V a0 8 ((V a0 8) + (1 : Int32))) (4 + 1 + ky0) (x5).toNatClampNeg) < x2 → ((x3 < ((up2 V a0 8 ((V a0 8) + (1 : Int32))) (4 + 1 + ky0) (x5).toNatClampNeg) → Ev G (d + 1) mX10_run 86 [(0, .ref a0), (1, .ref a1), (2, .int x2), (3, .int x3), (4, .int x4), (5, .int x5), (6, .int x6), (7, .int ((up2 V a0 8 ((V a0 8) + (1 : Int32))) (4 + 1 + ky0) (x5).toNatClampNeg))] (K, n, (up2 V a0 8 ((V a0 8) + (1 : Int32))), J, O) r (K, n, V', J, O)) ∧ (¬ x3 < ((up2 V a0 8 ((V a0 8) + (1 : Int32))) (4 + 1 + ky0) (x5).toNatClampNeg) → (∃ (V2 : SV), Ev G d mX0_see 0 [(0, .ref a1), (1, .ref 1), (2, .int x5)] (K, n, (up2 V a0 8 ((V a0 8) + (1 : Int32))), J, O) none (K, n, V2, J, O) ∧ Ev G (d + 1) mX10_run 86 [(0, .ref a0), (1, .ref a1), (2, .int x2), (3, .int x3), (4, .int x4), (5, .int x5), (6, .int x6), (7, .int ((up2 V a0 8 ((V a0 8) + (1 : Int32))) (4 + 1 + ky0) (x5).toNatClampNeg))] (K, n, V2, J, O) r (K, n, V', J, O)))))))))))) : Ev G (d + 1) mX10_run 30 [(0, .ref a0), (1, .ref a1), (2, .int x2), (3, .int x3), (4, .int x4), (5, .int x5), (6, .int x6)] (K, n, V, J, O) r (K, n, V', J, O) := by
  refine Ev.mk fun Q hq => ?_
  refine wp_iload dX10_run_30 rfl ?_
  refine wp_aload_n (i := 0) dX10_run_32 rfl rfl ?_
  refine wz_getI dX10_run_33 (st_0 ha0) (f10_35 _ (by decide)) rfl ?_
  refine wp_icmp_ge 168 dX10_run_36 (by decide) (fun q => ?_) (fun q => ?_)
  · replace hv := hv.1 q
    exact hv Q hq
  · replace hv := hv.2 q
    refine wp_iload dX10_run_39 rfl ?_
    refine wp_iconst (v := -1) dX10_run_41 (by decide) ?_
    refine wp_icmp_eq 168 dX10_run_42 (by decide) (fun q => ?_) (fun q => ?_)
    · replace hv := hv.1 q
      exact hv Q hq
    · replace hv := hv.2 q
      refine wp_aload_n (i := 0) dX10_run_45 rfl rfl ?_
      refine wp_dupR dX10_run_46 ?_
      refine wz_getI dX10_run_47 (st_0 ha0) (f10_32 _ (by decide)) rfl ?_
      refine wp_iconst (v := 1) dX10_run_50 (by decide) ?_
      refine wp_iadd dX10_run_51 ?_
      refine wz_putI dX10_run_52 (st_0 ha0) (w10_32 _ (by decide)) rfl ?_
      refine wp_aload_n (i := 0) dX10_run_55 rfl rfl ?_
      refine wz_getR (b := (4 + 1 + ky0)) dX10_run_56 (st_0 ha0) (f10_25 _ (by decide)) rfl ?_
      refine wp_iload dX10_run_59 rfl ?_
      obtain ⟨z1, hv⟩ := hv
      refine wz_iaload dX10_run_61 (st_k hK ha0) z1 ?_
      refine wx_istore (ls' := [(0, .ref a0), (1, .ref a1), (2, .int x2), (3, .int x3), (4, .int x4), (5, .int x5), (6, .int x6), (7, .int ((up2 V a0 8 ((V a0 8) + (1 : Int32))) (4 + 1 + ky0) (x5).toNatClampNeg))]) dX10_run_62 (by decide) rfl ?_
      refine wp_iload dX10_run_64 rfl ?_
      refine wp_iload_n (i := 2) dX10_run_66 rfl rfl ?_
      refine wp_icmp_lt 86 dX10_run_67 (by decide) (fun q => ?_) (fun q => ?_)
      · replace hv := hv.1 q
        exact hv Q hq
      · replace hv := hv.2 q
        refine wp_iload dX10_run_70 rfl ?_
        refine wp_iload_n (i := 3) dX10_run_72 rfl rfl ?_
        refine wp_icmp_gt 86 dX10_run_73 (by decide) (fun q => ?_) (fun q => ?_)
        · replace hv := hv.1 q
          exact hv Q hq
        · replace hv := hv.2 q
          refine wp_aload_n (i := 1) dX10_run_76 rfl rfl ?_
          refine wp_aload_n (i := 0) dX10_run_77 rfl rfl ?_
          refine wz_getR (b := 1) dX10_run_78 (st_0 ha0) (f10_61 _ (by decide)) rfl ?_
          refine wp_iload dX10_run_81 rfl ?_
          obtain ⟨V2, hE, hv⟩ := hv
          refine wz_callV (vs := [.ref 1, .int x5]) (st := []) dX10_run_83 (ak_0 hq1) rfl k10_65_0 hE rfl (Nat.le_of_ble_eq_true rfl) (Nat.le_of_ble_eq_true rfl) ?_
          change wp _ _ _ _ _ [] _ _ _
          exact hv Q hq
theorem wX10_run_86 {a0 : Nat} {ky0 : Nat} {a1 : Nat} {x2 : Int32} {x3 : Int32} {x4 : Int32} {x5 : Int32} {x6 : Int32} {x7 : Int32} (hK : StK K) (ha0 : IsSt K a0 10 ky0) (hq1 : IsAk K a1) (hv : ((x3 < x7 → Ev G (d + 1) mX10_run 120 [(0, .ref a0), (1, .ref a1), (2, .int x2), (3, .int x3), (4, .int x4), (5, .int x5), (6, .int x6), (7, .int x7)] (K, n, V, J, O) r (K, n, V', J, O)) ∧ (¬ x3 < x7 → (vp_in x5 80 ∧ (((V (a0 + 3) (x5).toNatClampNeg) = (-1 : Int32) → Ev G (d + 1) mX10_run 120 [(0, .ref a0), (1, .ref a1), (2, .int x2), (3, .int x3), (4, .int x4), (5, .int x5), (6, .int x6), (7, .int x7)] (K, n, V, J, O) r (K, n, V', J, O)) ∧ (¬ (V (a0 + 3) (x5).toNatClampNeg) = (-1 : Int32) → (vp_in x5 80 ∧ (vp_in x4 80 ∧ Ev G (d + 1) mX10_run 120 [(0, .ref a0), (1, .ref a1), (2, .int x2), (3, .int x3), (4, .int (x4 + 1)), (5, .int x5), (6, .int x6), (7, .int x7)] (K, n, (up2 V (a0 + 4) (x4).toNatClampNeg (V (a0 + 3) (x5).toNatClampNeg)), J, O) r (K, n, V', J, O))))))))) : Ev G (d + 1) mX10_run 86 [(0, .ref a0), (1, .ref a1), (2, .int x2), (3, .int x3), (4, .int x4), (5, .int x5), (6, .int x6), (7, .int x7)] (K, n, V, J, O) r (K, n, V', J, O) := by
  refine Ev.mk fun Q hq => ?_
  refine wp_iload dX10_run_86 rfl ?_
  refine wp_iload_n (i := 3) dX10_run_88 rfl rfl ?_
  refine wp_icmp_gt 120 dX10_run_89 (by decide) (fun q => ?_) (fun q => ?_)
  · replace hv := hv.1 q
    exact hv Q hq
  · replace hv := hv.2 q
    refine wp_aload_n (i := 0) dX10_run_92 rfl rfl ?_
    refine wz_getR (b := (a0 + 3)) dX10_run_93 (st_0 ha0) (f10_15 _ (by decide)) rfl ?_
    refine wp_iload dX10_run_96 rfl ?_
    obtain ⟨z1, hv⟩ := hv
    refine wz_iaload dX10_run_98 (st_tr3 ha0) z1 ?_
    refine wp_iconst (v := -1) dX10_run_99 (by decide) ?_
    refine wp_icmp_eq 120 dX10_run_100 (by decide) (fun q => ?_) (fun q => ?_)
    · replace hv := hv.1 q
      exact hv Q hq
    · replace hv := hv.2 q
      refine wp_aload_n (i := 0) dX10_run_103 rfl rfl ?_
      refine wz_getR (b := (a0 + 4)) dX10_run_104 (st_0 ha0) (f10_18 _ (by decide)) rfl ?_
      refine wp_iload dX10_run_107 rfl ?_
      refine wp_aload_n (i := 0) dX10_run_109 rfl rfl ?_
      refine wz_getR (b := (a0 + 3)) dX10_run_110 (st_0 ha0) (f10_15 _ (by decide)) rfl ?_
      refine wp_iload dX10_run_113 rfl ?_
      obtain ⟨z2, hv⟩ := hv
      refine wz_iaload dX10_run_115 (st_tr3 ha0) z2 ?_
      obtain ⟨z3, hv⟩ := hv
      refine wz_iastore dX10_run_116 (st_tr4 ha0) z3 ?_
      refine wx_iinc (v := 1) (ls' := [(0, .ref a0), (1, .ref a1), (2, .int x2), (3, .int x3), (4, .int (x4 + 1)), (5, .int x5), (6, .int x6), (7, .int x7)]) dX10_run_117 rfl (by decide) (by decide) rfl ?_
      exact hv Q hq
theorem wX10_run_120 {a0 : Nat} {ky0 : Nat} {a1 : Nat} {x2 : Int32} {x3 : Int32} {x4 : Int32} {x5 : Int32} {x6 : Int32} {x7 : Int32} (hK : StK K) (ha0 : IsSt K a0 10 ky0) (hq1 : IsAk K a1) (hv : ((x7 < x2 → ((x4 ≤ 0 → Ev G (d + 1) mX10_run 162 [(0, .ref a0), (1, .ref a1), (2, .int x2), (3, .int x3), (4, .int x4), (5, .int (-1 : Int32)), (6, .int x6), (7, .int x7)] (K, n, V, J, O) r (K, n, V', J, O)) ∧ (¬ x4 ≤ 0 → (vp_in (x4 + (-1)) 80 ∧ Ev G (d + 1) mX10_run 162 [(0, .ref a0), (1, .ref a1), (2, .int x2), (3, .int x3), (4, .int (x4 + (-1))), (5, .int (V (a0 + 4) ((x4 + (-1))).toNatClampNeg)), (6, .int x6), (7, .int x7)] (K, n, V, J, O) r (K, n, V', J, O))))) ∧ (¬ x7 < x2 → (vp_in x5 80 ∧ (((V (a0 + 2) (x5).toNatClampNeg) ≠ (-1 : Int32) → Ev G (d + 1) mX10_run 162 [(0, .ref a0), (1, .ref a1), (2, .int x2), (3, .int x3), (4, .int x4), (5, .int (V (a0 + 2) (x5).toNatClampNeg)), (6, .int x6), (7, .int x7)] (K, n, V, J, O) r (K, n, V', J, O)) ∧ ((V (a0 + 2) (x5).toNatClampNeg) = (-1 : Int32) → ((x4 ≤ 0 → Ev G (d + 1) mX10_run 162 [(0, .ref a0), (1, .ref a1), (2, .int x2), (3, .int x3), (4, .int x4), (5, .int (V (a0 + 2) (x5).toNatClampNeg)), (6, .int x6), (7, .int x7)] (K, n, V, J, O) r (K, n, V', J, O)) ∧ (¬ x4 ≤ 0 → (vp_in (x4 + (-1)) 80 ∧ Ev G (d + 1) mX10_run 162 [(0, .ref a0), (1, .ref a1), (2, .int x2), (3, .int x3), (4, .int (x4 + (-1))), (5, .int (V (a0 + 4) ((x4 + (-1))).toNatClampNeg)), (6, .int x6), (7, .int x7)] (K, n, V, J, O) r (K, n, V', J, O)))))))))) : Ev G (d + 1) mX10_run 120 [(0, .ref a0), (1, .ref a1), (2, .int x2), (3, .int x3), (4, .int x4), (5, .int x5), (6, .int x6), (7, .int x7)] (K, n, V, J, O) r (K, n, V', J, O) := by
  refine Ev.mk fun Q hq => ?_
  refine wp_iload dX10_run_120 rfl ?_
  refine wp_iload_n (i := 2) dX10_run_122 rfl rfl ?_
  refine wp_icmp_lt 136 dX10_run_123 (by decide) (fun q => ?_) (fun q => ?_)
  · replace hv := hv.1 q
    refine wp_iconst (v := -1) dX10_run_136 (by decide) ?_
    refine wx_istore (ls' := [(0, .ref a0), (1, .ref a1), (2, .int x2), (3, .int x3), (4, .int x4), (5, .int (-1 : Int32)), (6, .int x6), (7, .int x7)]) dX10_run_137 (by decide) rfl ?_
    refine wp_iload dX10_run_139 rfl ?_
    refine wp_iconst (v := -1) dX10_run_141 (by decide) ?_
    refine wp_icmp_ne 162 dX10_run_142 (by decide) (fun q => absurd q (by decide)) (fun _ => ?_)
    refine wp_iload dX10_run_145 rfl ?_
    refine wp_if_le 162 dX10_run_147 (by decide) (fun q => ?_) (fun q => ?_)
    · replace hv := hv.1 q
      exact hv Q hq
    · replace hv := hv.2 q
      refine wx_iinc (v := -1) (ls' := [(0, .ref a0), (1, .ref a1), (2, .int x2), (3, .int x3), (4, .int (x4 + (-1))), (5, .int (-1 : Int32)), (6, .int x6), (7, .int x7)]) dX10_run_150 rfl (by decide) (by decide) rfl ?_
      refine wp_aload_n (i := 0) dX10_run_153 rfl rfl ?_
      refine wz_getR (b := (a0 + 4)) dX10_run_154 (st_0 ha0) (f10_18 _ (by decide)) rfl ?_
      refine wp_iload dX10_run_157 rfl ?_
      obtain ⟨z1, hv⟩ := hv
      refine wz_iaload dX10_run_159 (st_tr4 ha0) z1 ?_
      refine wx_istore (ls' := [(0, .ref a0), (1, .ref a1), (2, .int x2), (3, .int x3), (4, .int (x4 + (-1))), (5, .int (V (a0 + 4) ((x4 + (-1))).toNatClampNeg)), (6, .int x6), (7, .int x7)]) dX10_run_160 (by decide) rfl ?_
      exact hv Q hq
  · replace hv := hv.2 q
    refine wp_aload_n (i := 0) dX10_run_126 rfl rfl ?_
    refine wz_getR (b := (a0 + 2)) dX10_run_127 (st_0 ha0) (f10_9 _ (by decide)) rfl ?_
    refine wp_iload dX10_run_130 rfl ?_
    obtain ⟨z2, hv⟩ := hv
    refine wz_iaload dX10_run_132 (st_tr2 ha0) z2 ?_
    refine wp_goto 137 dX10_run_133 (by decide) ?_
    refine wx_istore (ls' := [(0, .ref a0), (1, .ref a1), (2, .int x2), (3, .int x3), (4, .int x4), (5, .int (V (a0 + 2) (x5).toNatClampNeg)), (6, .int x6), (7, .int x7)]) dX10_run_137 (by decide) rfl ?_
    refine wp_iload dX10_run_139 rfl ?_
    refine wp_iconst (v := -1) dX10_run_141 (by decide) ?_
    refine wp_icmp_ne 162 dX10_run_142 (by decide) (fun q => ?_) (fun q => ?_)
    · replace hv := hv.1 q
      exact hv Q hq
    · replace hv := hv.2 q
      refine wp_iload dX10_run_145 rfl ?_
      refine wp_if_le 162 dX10_run_147 (by decide) (fun q => ?_) (fun q => ?_)
      · replace hv := hv.1 q
        exact hv Q hq
      · replace hv := hv.2 q
        refine wx_iinc (v := -1) (ls' := [(0, .ref a0), (1, .ref a1), (2, .int x2), (3, .int x3), (4, .int (x4 + (-1))), (5, .int (V (a0 + 2) (x5).toNatClampNeg)), (6, .int x6), (7, .int x7)]) dX10_run_150 rfl (by decide) (by decide) rfl ?_
        refine wp_aload_n (i := 0) dX10_run_153 rfl rfl ?_
        refine wz_getR (b := (a0 + 4)) dX10_run_154 (st_0 ha0) (f10_18 _ (by decide)) rfl ?_
        refine wp_iload dX10_run_157 rfl ?_
        obtain ⟨z3, hv⟩ := hv
        refine wz_iaload dX10_run_159 (st_tr4 ha0) z3 ?_
        refine wx_istore (ls' := [(0, .ref a0), (1, .ref a1), (2, .int x2), (3, .int x3), (4, .int (x4 + (-1))), (5, .int (V (a0 + 4) ((x4 + (-1))).toNatClampNeg)), (6, .int x6), (7, .int x7)]) dX10_run_160 (by decide) rfl ?_
        exact hv Q hq
theorem wX10_run_162 {a0 : Nat} {ky0 : Nat} {a1 : Nat} {x2 : Int32} {x3 : Int32} {x4 : Int32} {x5 : Int32} {x6 : Int32} {x7 : Int32} (hK : StK K) (ha0 : IsSt K a0 10 ky0) (hq1 : IsAk K a1) (hv : Ev G (d + 1) mX10_run 30 [(0, .ref a0), (1, .ref a1), (2, .int x2), (3, .int x3), (4, .int x4), (5, .int x5), (6, .int (x6 + 1))] (K, n, V, J, O) r (K, n, V', J, O)) : Ev G (d + 1) mX10_run 162 [(0, .ref a0), (1, .ref a1), (2, .int x2), (3, .int x3), (4, .int x4), (5, .int x5), (6, .int x6), (7, .int x7)] (K, n, V, J, O) r (K, n, V', J, O) := by
  refine Ev.mk fun Q hq => ?_
  refine wx_iinc (v := 1) (ls' := [(0, .ref a0), (1, .ref a1), (2, .int x2), (3, .int x3), (4, .int x4), (5, .int x5), (6, .int (x6 + 1)), (7, .int x7)]) dX10_run_162 rfl (by decide) (by decide) rfl ?_
  refine wp_goto 30 dX10_run_165 (by decide) ?_
  refine wx_sub (ls' := [(0, .ref a0), (1, .ref a1), (2, .int x2), (3, .int x3), (4, .int x4), (5, .int x5), (6, .int (x6 + 1))]) [0, 1, 2, 3, 4, 5, 6] rfl ?_
  exact hv Q hq
theorem wX10_run_168 {a0 : Nat} {ky0 : Nat} {a1 : Nat} {x2 : Int32} {x3 : Int32} {x4 : Int32} {x5 : Int32} {x6 : Int32} (hK : StK K) (ha0 : IsSt K a0 10 ky0) (hq1 : IsAk K a1) (hv : (∃ (v1 : Int32), Ev G d mX0_result 0 [(0, .ref a1)] (K, n, V, J, O) (some (.int v1)) (K, n, V, J, O) ∧ (r = some (.int v1) ∧ V' = V))) : Ev G (d + 1) mX10_run 168 [(0, .ref a0), (1, .ref a1), (2, .int x2), (3, .int x3), (4, .int x4), (5, .int x5), (6, .int x6)] (K, n, V, J, O) r (K, n, V', J, O) := by
  refine Ev.mk fun Q hq => ?_
  refine wp_aload_n (i := 1) dX10_run_168 rfl rfl ?_
  obtain ⟨v1, hE, hv⟩ := hv
  refine wz_callV (vs := []) (st := []) dX10_run_169 (ak_0 hq1) rfl k10_69_0 hE rfl (Nat.le_of_ble_eq_true rfl) (Nat.le_of_ble_eq_true rfl) ?_
  change wp _ _ _ _ _ [.int v1] _ _ _
  obtain ⟨rfl, rfl⟩ := hv
  exact wp_ireturn dX10_run_172 rfl rfl rfl hq
theorem wX10_priceFor_0 {a0 : Nat} {ky0 : Nat} {a1 : Nat} {x2 : Int32} (hK : StK K) (ha0 : IsSt K a0 10 ky0) (hq1 : IsAk K a1) (hv : (∃ (v1 : Int32), Ev G d mX5_orderedPrice 0 [(0, .ref a1), (1, .int (V a0 2)), (2, .int x2)] (K, n, V, J, O) (some (.int v1)) (K, n, V, J, O) ∧ r = some (.int v1))) : Ev G (d + 1) mX10_priceFor 0 [(0, .ref a0), (1, .ref a1), (2, .int x2)] (K, n, V, J, O) r (K, n, V, J, O) := by
  refine Ev.mk fun Q hq => ?_
  refine wp_aload_n (i := 1) dX10_priceFor_0 rfl rfl ?_
  refine wp_aload_n (i := 0) dX10_priceFor_1 rfl rfl ?_
  refine wz_getI dX10_priceFor_2 (st_0 ha0) (f10_50 _ (by decide)) rfl ?_
  refine wp_iload_n (i := 2) dX10_priceFor_5 rfl rfl ?_
  obtain ⟨v1, hE, hv⟩ := hv
  refine wz_callST (vs := [.ref a1, .int (V a0 2), .int x2]) (st := []) dX10_priceFor_6 k10_73 hE rfl (Nat.le_of_ble_eq_true rfl) (Nat.le_of_ble_eq_true rfl) ?_
  change wp _ _ _ _ _ [.int v1] _ _ _
  obtain rfl := hv
  exact wp_ireturn dX10_priceFor_9 rfl rfl rfl hq
theorem wX10_priceOfPut_0 {a0 : Nat} {ky0 : Nat} {x1 : Int32} (hK : StK K) (ha0 : IsSt K a0 10 ky0) (hv : (∃ (v1 : Int32), Ev G d mX5_levels 0 [(0, .int x1)] (K, n, V, J, O) (some (.int v1)) (K, n, V, J, O) ∧ r = some (.int ((2 : Int32) * v1)))) : Ev G (d + 1) mX10_priceOfPut 0 [(0, .ref a0), (1, .int x1)] (K, n, V, J, O) r (K, n, V, J, O) := by
  refine Ev.mk fun Q hq => ?_
  refine wp_iconst (v := 2) dX10_priceOfPut_0 (by decide) ?_
  refine wp_iload_n (i := 1) dX10_priceOfPut_1 rfl rfl ?_
  obtain ⟨v1, hE, hv⟩ := hv
  refine wz_callST (vs := [.int x1]) (st := [.int (2 : Int32)]) dX10_priceOfPut_2 k10_77 hE rfl (Nat.le_of_ble_eq_true rfl) (Nat.le_of_ble_eq_true rfl) ?_
  change wp _ _ _ _ _ [.int v1, .int (2 : Int32)] _ _ _
  refine wp_imul dX10_priceOfPut_5 ?_
  obtain rfl := hv
  exact wp_ireturn dX10_priceOfPut_6 rfl rfl rfl hq
theorem wX10_tells_0 {a0 : Nat} {ky0 : Nat} {x1 : Int32} (hK : StK K) (ha0 : IsSt K a0 10 ky0) (hv : (∃ (V1 : SV), Ev G d mX5_led 0 [(0, .ref a0), (1, .int (60 : Int32))] (K, n, V, J, O) none (K, n, V1, J, O) ∧ (∃ (v3 : Int32) (V2 : SV), Ev G d mX5_tells 0 [(0, .ref a0), (1, .int x1)] (K, n, V1, J, O) (some (.int v3)) (K, n, V2, J, O) ∧ (r = some (.int (v3 ^^^ (5 : Int32))) ∧ V' = V2)))) : Ev G (d + 1) mX10_tells 0 [(0, .ref a0), (1, .int x1)] (K, n, V, J, O) r (K, n, V', J, O) := by
  refine Ev.mk fun Q hq => ?_
  refine wp_aload_n (i := 0) dX10_tells_0 rfl rfl ?_
  refine wp_bipush (v := 60) dX10_tells_1 (by decide) ?_
  obtain ⟨V1, hE, hv⟩ := hv
  refine wz_callU (vs := [.int (60 : Int32)]) (st := []) dX10_tells_3 (st_0 ha0) rfl k10_80_10 hE rfl (Nat.le_of_ble_eq_true rfl) (Nat.le_of_ble_eq_true rfl) ?_
  change wp _ _ _ _ _ [] _ _ _
  refine wp_aload_n (i := 0) dX10_tells_6 rfl rfl ?_
  refine wp_iload_n (i := 1) dX10_tells_7 rfl rfl ?_
  obtain ⟨v3, V2, hE, hv⟩ := hv
  refine wz_callSU (vs := [.int x1]) (st := []) dX10_tells_8 (st_0 ha0) (acls_at (by decide)) su10_84 hE rfl (Nat.le_of_ble_eq_true rfl) (Nat.le_of_ble_eq_true rfl) ?_
  change wp _ _ _ _ _ [.int v3] _ _ _
  refine wp_iconst (v := 5) dX10_tells_11 (by decide) ?_
  refine wp_ixor dX10_tells_12 ?_
  obtain ⟨rfl, rfl⟩ := hv
  exact wp_ireturn dX10_tells_13 rfl rfl rfl hq
theorem wJ6_bitCount_0f7a4_0 {x0 : Int32} (hK : StK K)  (hv : r = some (.int ((((((((x0 - (((x0.toUInt32 >>> ((1 : Int32).toUInt32 &&& Int32.toUInt32 31)).toInt32) &&& (1431655765 : Int32))) &&& (858993459 : Int32)) + ((((x0 - (((x0.toUInt32 >>> ((1 : Int32).toUInt32 &&& Int32.toUInt32 31)).toInt32) &&& (1431655765 : Int32))).toUInt32 >>> ((2 : Int32).toUInt32 &&& Int32.toUInt32 31)).toInt32) &&& (858993459 : Int32))) + (((((x0 - (((x0.toUInt32 >>> ((1 : Int32).toUInt32 &&& Int32.toUInt32 31)).toInt32) &&& (1431655765 : Int32))) &&& (858993459 : Int32)) + ((((x0 - (((x0.toUInt32 >>> ((1 : Int32).toUInt32 &&& Int32.toUInt32 31)).toInt32) &&& (1431655765 : Int32))).toUInt32 >>> ((2 : Int32).toUInt32 &&& Int32.toUInt32 31)).toInt32) &&& (858993459 : Int32))).toUInt32 >>> ((4 : Int32).toUInt32 &&& Int32.toUInt32 31)).toInt32)) &&& (252645135 : Int32)) + (((((((x0 - (((x0.toUInt32 >>> ((1 : Int32).toUInt32 &&& Int32.toUInt32 31)).toInt32) &&& (1431655765 : Int32))) &&& (858993459 : Int32)) + ((((x0 - (((x0.toUInt32 >>> ((1 : Int32).toUInt32 &&& Int32.toUInt32 31)).toInt32) &&& (1431655765 : Int32))).toUInt32 >>> ((2 : Int32).toUInt32 &&& Int32.toUInt32 31)).toInt32) &&& (858993459 : Int32))) + (((((x0 - (((x0.toUInt32 >>> ((1 : Int32).toUInt32 &&& Int32.toUInt32 31)).toInt32) &&& (1431655765 : Int32))) &&& (858993459 : Int32)) + ((((x0 - (((x0.toUInt32 >>> ((1 : Int32).toUInt32 &&& Int32.toUInt32 31)).toInt32) &&& (1431655765 : Int32))).toUInt32 >>> ((2 : Int32).toUInt32 &&& Int32.toUInt32 31)).toInt32) &&& (858993459 : Int32))).toUInt32 >>> ((4 : Int32).toUInt32 &&& Int32.toUInt32 31)).toInt32)) &&& (252645135 : Int32)).toUInt32 >>> ((8 : Int32).toUInt32 &&& Int32.toUInt32 31)).toInt32)) + ((((((((x0 - (((x0.toUInt32 >>> ((1 : Int32).toUInt32 &&& Int32.toUInt32 31)).toInt32) &&& (1431655765 : Int32))) &&& (858993459 : Int32)) + ((((x0 - (((x0.toUInt32 >>> ((1 : Int32).toUInt32 &&& Int32.toUInt32 31)).toInt32) &&& (1431655765 : Int32))).toUInt32 >>> ((2 : Int32).toUInt32 &&& Int32.toUInt32 31)).toInt32) &&& (858993459 : Int32))) + (((((x0 - (((x0.toUInt32 >>> ((1 : Int32).toUInt32 &&& Int32.toUInt32 31)).toInt32) &&& (1431655765 : Int32))) &&& (858993459 : Int32)) + ((((x0 - (((x0.toUInt32 >>> ((1 : Int32).toUInt32 &&& Int32.toUInt32 31)).toInt32) &&& (1431655765 : Int32))).toUInt32 >>> ((2 : Int32).toUInt32 &&& Int32.toUInt32 31)).toInt32) &&& (858993459 : Int32))).toUInt32 >>> ((4 : Int32).toUInt32 &&& Int32.toUInt32 31)).toInt32)) &&& (252645135 : Int32)) + (((((((x0 - (((x0.toUInt32 >>> ((1 : Int32).toUInt32 &&& Int32.toUInt32 31)).toInt32) &&& (1431655765 : Int32))) &&& (858993459 : Int32)) + ((((x0 - (((x0.toUInt32 >>> ((1 : Int32).toUInt32 &&& Int32.toUInt32 31)).toInt32) &&& (1431655765 : Int32))).toUInt32 >>> ((2 : Int32).toUInt32 &&& Int32.toUInt32 31)).toInt32) &&& (858993459 : Int32))) + (((((x0 - (((x0.toUInt32 >>> ((1 : Int32).toUInt32 &&& Int32.toUInt32 31)).toInt32) &&& (1431655765 : Int32))) &&& (858993459 : Int32)) + ((((x0 - (((x0.toUInt32 >>> ((1 : Int32).toUInt32 &&& Int32.toUInt32 31)).toInt32) &&& (1431655765 : Int32))).toUInt32 >>> ((2 : Int32).toUInt32 &&& Int32.toUInt32 31)).toInt32) &&& (858993459 : Int32))).toUInt32 >>> ((4 : Int32).toUInt32 &&& Int32.toUInt32 31)).toInt32)) &&& (252645135 : Int32)).toUInt32 >>> ((8 : Int32).toUInt32 &&& Int32.toUInt32 31)).toInt32)).toUInt32 >>> ((16 : Int32).toUInt32 &&& Int32.toUInt32 31)).toInt32)) &&& (63 : Int32)))) : Ev G d mJ6_bitCount_0f7a4 0 [(0, .int x0)] (K, n, V, J, O) r (K, n, V, J, O) := by
  refine Ev.mk fun Q hq => ?_
  refine wp_iload_n (i := 0) dJ6_bitCount_0f7a4_0 rfl rfl ?_
  refine wp_iload_n (i := 0) dJ6_bitCount_0f7a4_1 rfl rfl ?_
  refine wp_iconst (v := 1) dJ6_bitCount_0f7a4_2 (by decide) ?_
  refine wp_iushr dJ6_bitCount_0f7a4_3 ?_
  refine wp_ldcw (v := 1431655765) dJ6_bitCount_0f7a4_4 q14_265 ?_
  refine wp_iand dJ6_bitCount_0f7a4_7 ?_
  refine wp_isub dJ6_bitCount_0f7a4_8 ?_
  refine wx_istore_n (ls' := [(0, .int (x0 - (((x0.toUInt32 >>> ((1 : Int32).toUInt32 &&& Int32.toUInt32 31)).toInt32) &&& (1431655765 : Int32))))]) (i := 0) dJ6_bitCount_0f7a4_9 rfl (by decide) rfl ?_
  refine wp_iload_n (i := 0) dJ6_bitCount_0f7a4_10 rfl rfl ?_
  refine wp_ldcw (v := 858993459) dJ6_bitCount_0f7a4_11 q14_266 ?_
  refine wp_iand dJ6_bitCount_0f7a4_14 ?_
  refine wp_iload_n (i := 0) dJ6_bitCount_0f7a4_15 rfl rfl ?_
  refine wp_iconst (v := 2) dJ6_bitCount_0f7a4_16 (by decide) ?_
  refine wp_iushr dJ6_bitCount_0f7a4_17 ?_
  refine wp_ldcw (v := 858993459) dJ6_bitCount_0f7a4_18 q14_266 ?_
  refine wp_iand dJ6_bitCount_0f7a4_21 ?_
  refine wp_iadd dJ6_bitCount_0f7a4_22 ?_
  refine wx_istore_n (ls' := [(0, .int (((x0 - (((x0.toUInt32 >>> ((1 : Int32).toUInt32 &&& Int32.toUInt32 31)).toInt32) &&& (1431655765 : Int32))) &&& (858993459 : Int32)) + ((((x0 - (((x0.toUInt32 >>> ((1 : Int32).toUInt32 &&& Int32.toUInt32 31)).toInt32) &&& (1431655765 : Int32))).toUInt32 >>> ((2 : Int32).toUInt32 &&& Int32.toUInt32 31)).toInt32) &&& (858993459 : Int32))))]) (i := 0) dJ6_bitCount_0f7a4_23 rfl (by decide) rfl ?_
  refine wp_iload_n (i := 0) dJ6_bitCount_0f7a4_24 rfl rfl ?_
  refine wp_iload_n (i := 0) dJ6_bitCount_0f7a4_25 rfl rfl ?_
  refine wp_iconst (v := 4) dJ6_bitCount_0f7a4_26 (by decide) ?_
  refine wp_iushr dJ6_bitCount_0f7a4_27 ?_
  refine wp_iadd dJ6_bitCount_0f7a4_28 ?_
  refine wp_ldcw (v := 252645135) dJ6_bitCount_0f7a4_29 q14_267 ?_
  refine wp_iand dJ6_bitCount_0f7a4_32 ?_
  refine wx_istore_n (ls' := [(0, .int (((((x0 - (((x0.toUInt32 >>> ((1 : Int32).toUInt32 &&& Int32.toUInt32 31)).toInt32) &&& (1431655765 : Int32))) &&& (858993459 : Int32)) + ((((x0 - (((x0.toUInt32 >>> ((1 : Int32).toUInt32 &&& Int32.toUInt32 31)).toInt32) &&& (1431655765 : Int32))).toUInt32 >>> ((2 : Int32).toUInt32 &&& Int32.toUInt32 31)).toInt32) &&& (858993459 : Int32))) + (((((x0 - (((x0.toUInt32 >>> ((1 : Int32).toUInt32 &&& Int32.toUInt32 31)).toInt32) &&& (1431655765 : Int32))) &&& (858993459 : Int32)) + ((((x0 - (((x0.toUInt32 >>> ((1 : Int32).toUInt32 &&& Int32.toUInt32 31)).toInt32) &&& (1431655765 : Int32))).toUInt32 >>> ((2 : Int32).toUInt32 &&& Int32.toUInt32 31)).toInt32) &&& (858993459 : Int32))).toUInt32 >>> ((4 : Int32).toUInt32 &&& Int32.toUInt32 31)).toInt32)) &&& (252645135 : Int32)))]) (i := 0) dJ6_bitCount_0f7a4_33 rfl (by decide) rfl ?_
  refine wp_iload_n (i := 0) dJ6_bitCount_0f7a4_34 rfl rfl ?_
  refine wp_iload_n (i := 0) dJ6_bitCount_0f7a4_35 rfl rfl ?_
  refine wp_bipush (v := 8) dJ6_bitCount_0f7a4_36 (by decide) ?_
  refine wp_iushr dJ6_bitCount_0f7a4_38 ?_
  refine wp_iadd dJ6_bitCount_0f7a4_39 ?_
  refine wx_istore_n (ls' := [(0, .int ((((((x0 - (((x0.toUInt32 >>> ((1 : Int32).toUInt32 &&& Int32.toUInt32 31)).toInt32) &&& (1431655765 : Int32))) &&& (858993459 : Int32)) + ((((x0 - (((x0.toUInt32 >>> ((1 : Int32).toUInt32 &&& Int32.toUInt32 31)).toInt32) &&& (1431655765 : Int32))).toUInt32 >>> ((2 : Int32).toUInt32 &&& Int32.toUInt32 31)).toInt32) &&& (858993459 : Int32))) + (((((x0 - (((x0.toUInt32 >>> ((1 : Int32).toUInt32 &&& Int32.toUInt32 31)).toInt32) &&& (1431655765 : Int32))) &&& (858993459 : Int32)) + ((((x0 - (((x0.toUInt32 >>> ((1 : Int32).toUInt32 &&& Int32.toUInt32 31)).toInt32) &&& (1431655765 : Int32))).toUInt32 >>> ((2 : Int32).toUInt32 &&& Int32.toUInt32 31)).toInt32) &&& (858993459 : Int32))).toUInt32 >>> ((4 : Int32).toUInt32 &&& Int32.toUInt32 31)).toInt32)) &&& (252645135 : Int32)) + (((((((x0 - (((x0.toUInt32 >>> ((1 : Int32).toUInt32 &&& Int32.toUInt32 31)).toInt32) &&& (1431655765 : Int32))) &&& (858993459 : Int32)) + ((((x0 - (((x0.toUInt32 >>> ((1 : Int32).toUInt32 &&& Int32.toUInt32 31)).toInt32) &&& (1431655765 : Int32))).toUInt32 >>> ((2 : Int32).toUInt32 &&& Int32.toUInt32 31)).toInt32) &&& (858993459 : Int32))) + (((((x0 - (((x0.toUInt32 >>> ((1 : Int32).toUInt32 &&& Int32.toUInt32 31)).toInt32) &&& (1431655765 : Int32))) &&& (858993459 : Int32)) + ((((x0 - (((x0.toUInt32 >>> ((1 : Int32).toUInt32 &&& Int32.toUInt32 31)).toInt32) &&& (1431655765 : Int32))).toUInt32 >>> ((2 : Int32).toUInt32 &&& Int32.toUInt32 31)).toInt32) &&& (858993459 : Int32))).toUInt32 >>> ((4 : Int32).toUInt32 &&& Int32.toUInt32 31)).toInt32)) &&& (252645135 : Int32)).toUInt32 >>> ((8 : Int32).toUInt32 &&& Int32.toUInt32 31)).toInt32)))]) (i := 0) dJ6_bitCount_0f7a4_40 rfl (by decide) rfl ?_
  refine wp_iload_n (i := 0) dJ6_bitCount_0f7a4_41 rfl rfl ?_
  refine wp_iload_n (i := 0) dJ6_bitCount_0f7a4_42 rfl rfl ?_
  refine wp_bipush (v := 16) dJ6_bitCount_0f7a4_43 (by decide) ?_
  refine wp_iushr dJ6_bitCount_0f7a4_45 ?_
  refine wp_iadd dJ6_bitCount_0f7a4_46 ?_
  refine wx_istore_n (ls' := [(0, .int (((((((x0 - (((x0.toUInt32 >>> ((1 : Int32).toUInt32 &&& Int32.toUInt32 31)).toInt32) &&& (1431655765 : Int32))) &&& (858993459 : Int32)) + ((((x0 - (((x0.toUInt32 >>> ((1 : Int32).toUInt32 &&& Int32.toUInt32 31)).toInt32) &&& (1431655765 : Int32))).toUInt32 >>> ((2 : Int32).toUInt32 &&& Int32.toUInt32 31)).toInt32) &&& (858993459 : Int32))) + (((((x0 - (((x0.toUInt32 >>> ((1 : Int32).toUInt32 &&& Int32.toUInt32 31)).toInt32) &&& (1431655765 : Int32))) &&& (858993459 : Int32)) + ((((x0 - (((x0.toUInt32 >>> ((1 : Int32).toUInt32 &&& Int32.toUInt32 31)).toInt32) &&& (1431655765 : Int32))).toUInt32 >>> ((2 : Int32).toUInt32 &&& Int32.toUInt32 31)).toInt32) &&& (858993459 : Int32))).toUInt32 >>> ((4 : Int32).toUInt32 &&& Int32.toUInt32 31)).toInt32)) &&& (252645135 : Int32)) + (((((((x0 - (((x0.toUInt32 >>> ((1 : Int32).toUInt32 &&& Int32.toUInt32 31)).toInt32) &&& (1431655765 : Int32))) &&& (858993459 : Int32)) + ((((x0 - (((x0.toUInt32 >>> ((1 : Int32).toUInt32 &&& Int32.toUInt32 31)).toInt32) &&& (1431655765 : Int32))).toUInt32 >>> ((2 : Int32).toUInt32 &&& Int32.toUInt32 31)).toInt32) &&& (858993459 : Int32))) + (((((x0 - (((x0.toUInt32 >>> ((1 : Int32).toUInt32 &&& Int32.toUInt32 31)).toInt32) &&& (1431655765 : Int32))) &&& (858993459 : Int32)) + ((((x0 - (((x0.toUInt32 >>> ((1 : Int32).toUInt32 &&& Int32.toUInt32 31)).toInt32) &&& (1431655765 : Int32))).toUInt32 >>> ((2 : Int32).toUInt32 &&& Int32.toUInt32 31)).toInt32) &&& (858993459 : Int32))).toUInt32 >>> ((4 : Int32).toUInt32 &&& Int32.toUInt32 31)).toInt32)) &&& (252645135 : Int32)).toUInt32 >>> ((8 : Int32).toUInt32 &&& Int32.toUInt32 31)).toInt32)) + ((((((((x0 - (((x0.toUInt32 >>> ((1 : Int32).toUInt32 &&& Int32.toUInt32 31)).toInt32) &&& (1431655765 : Int32))) &&& (858993459 : Int32)) + ((((x0 - (((x0.toUInt32 >>> ((1 : Int32).toUInt32 &&& Int32.toUInt32 31)).toInt32) &&& (1431655765 : Int32))).toUInt32 >>> ((2 : Int32).toUInt32 &&& Int32.toUInt32 31)).toInt32) &&& (858993459 : Int32))) + (((((x0 - (((x0.toUInt32 >>> ((1 : Int32).toUInt32 &&& Int32.toUInt32 31)).toInt32) &&& (1431655765 : Int32))) &&& (858993459 : Int32)) + ((((x0 - (((x0.toUInt32 >>> ((1 : Int32).toUInt32 &&& Int32.toUInt32 31)).toInt32) &&& (1431655765 : Int32))).toUInt32 >>> ((2 : Int32).toUInt32 &&& Int32.toUInt32 31)).toInt32) &&& (858993459 : Int32))).toUInt32 >>> ((4 : Int32).toUInt32 &&& Int32.toUInt32 31)).toInt32)) &&& (252645135 : Int32)) + (((((((x0 - (((x0.toUInt32 >>> ((1 : Int32).toUInt32 &&& Int32.toUInt32 31)).toInt32) &&& (1431655765 : Int32))) &&& (858993459 : Int32)) + ((((x0 - (((x0.toUInt32 >>> ((1 : Int32).toUInt32 &&& Int32.toUInt32 31)).toInt32) &&& (1431655765 : Int32))).toUInt32 >>> ((2 : Int32).toUInt32 &&& Int32.toUInt32 31)).toInt32) &&& (858993459 : Int32))) + (((((x0 - (((x0.toUInt32 >>> ((1 : Int32).toUInt32 &&& Int32.toUInt32 31)).toInt32) &&& (1431655765 : Int32))) &&& (858993459 : Int32)) + ((((x0 - (((x0.toUInt32 >>> ((1 : Int32).toUInt32 &&& Int32.toUInt32 31)).toInt32) &&& (1431655765 : Int32))).toUInt32 >>> ((2 : Int32).toUInt32 &&& Int32.toUInt32 31)).toInt32) &&& (858993459 : Int32))).toUInt32 >>> ((4 : Int32).toUInt32 &&& Int32.toUInt32 31)).toInt32)) &&& (252645135 : Int32)).toUInt32 >>> ((8 : Int32).toUInt32 &&& Int32.toUInt32 31)).toInt32)).toUInt32 >>> ((16 : Int32).toUInt32 &&& Int32.toUInt32 31)).toInt32)))]) (i := 0) dJ6_bitCount_0f7a4_47 rfl (by decide) rfl ?_
  refine wp_iload_n (i := 0) dJ6_bitCount_0f7a4_48 rfl rfl ?_
  refine wp_bipush (v := 63) dJ6_bitCount_0f7a4_49 (by decide) ?_
  refine wp_iand dJ6_bitCount_0f7a4_51 ?_
  obtain rfl := hv
  exact wp_ireturn dJ6_bitCount_0f7a4_52 rfl rfl rfl hq
theorem wJ9_max_7cf53_0 {x0 : Int32} {x1 : Int32} (hK : StK K)  (hv : ((x0 < x1 → r = some (.int x1)) ∧ (¬ x0 < x1 → r = some (.int x0)))) : Ev G d mJ9_max_7cf53 0 [(0, .int x0), (1, .int x1)] (K, n, V, J, O) r (K, n, V, J, O) := by
  refine Ev.mk fun Q hq => ?_
  refine wp_iload_n (i := 0) dJ9_max_7cf53_0 rfl rfl ?_
  refine wp_iload_n (i := 1) dJ9_max_7cf53_1 rfl rfl ?_
  refine wp_icmp_lt 9 dJ9_max_7cf53_2 (by decide) (fun q => ?_) (fun q => ?_)
  · replace hv := hv.1 q
    refine wp_iload_n (i := 1) dJ9_max_7cf53_9 rfl rfl ?_
    obtain rfl := hv
    exact wp_ireturn dJ9_max_7cf53_10 rfl rfl rfl hq
  · replace hv := hv.2 q
    refine wp_iload_n (i := 0) dJ9_max_7cf53_5 rfl rfl ?_
    refine wp_goto 10 dJ9_max_7cf53_6 (by decide) ?_
    obtain rfl := hv
    exact wp_ireturn dJ9_max_7cf53_10 rfl rfl rfl hq
theorem wJ9_min_7cf53_0 {x0 : Int32} {x1 : Int32} (hK : StK K)  (hv : ((x1 < x0 → r = some (.int x1)) ∧ (¬ x1 < x0 → r = some (.int x0)))) : Ev G d mJ9_min_7cf53 0 [(0, .int x0), (1, .int x1)] (K, n, V, J, O) r (K, n, V, J, O) := by
  refine Ev.mk fun Q hq => ?_
  refine wp_iload_n (i := 0) dJ9_min_7cf53_0 rfl rfl ?_
  refine wp_iload_n (i := 1) dJ9_min_7cf53_1 rfl rfl ?_
  refine wp_icmp_gt 9 dJ9_min_7cf53_2 (by decide) (fun q => ?_) (fun q => ?_)
  · replace hv := hv.1 q
    refine wp_iload_n (i := 1) dJ9_min_7cf53_9 rfl rfl ?_
    obtain rfl := hv
    exact wp_ireturn dJ9_min_7cf53_10 rfl rfl rfl hq
  · replace hv := hv.2 q
    refine wp_iload_n (i := 0) dJ9_min_7cf53_5 rfl rfl ?_
    refine wp_goto 10 dJ9_min_7cf53_6 (by decide) ?_
    obtain rfl := hv
    exact wp_ireturn dJ9_min_7cf53_10 rfl rfl rfl hq
theorem wJ9_min_f86c9_0 {l0 : Int64} {l2 : Int64} (hK : StK K)  (hv : ((0 < (lg_cmp l0 l2) → r = some (.long l2)) ∧ (¬ 0 < (lg_cmp l0 l2) → r = some (.long l0)))) : Ev G d mJ9_min_f86c9 0 [(0, .long l0), (2, .long l2)] (K, n, V, J, O) r (K, n, V, J, O) := by
  refine Ev.mk fun Q hq => ?_
  refine wp_lload_n (i := 0) dJ9_min_f86c9_0 rfl rfl ?_
  refine wp_lload_n (i := 2) dJ9_min_f86c9_1 rfl rfl ?_
  refine wp_lcmp dJ9_min_f86c9_2 ?_
  refine wp_if_gt 10 dJ9_min_f86c9_3 (by decide) (fun q => ?_) (fun q => ?_)
  · replace hv := hv.1 q
    refine wp_lload_n (i := 2) dJ9_min_f86c9_10 rfl rfl ?_
    obtain rfl := hv
    exact wp_lreturn dJ9_min_f86c9_11 rfl rfl hq
  · replace hv := hv.2 q
    refine wp_lload_n (i := 0) dJ9_min_f86c9_6 rfl rfl ?_
    refine wp_goto 11 dJ9_min_f86c9_7 (by decide) ?_
    obtain rfl := hv
    exact wp_lreturn dJ9_min_f86c9_11 rfl rfl hq
theorem wJ7_fill_d0a16_0 {a0 : Nat} {N0 : Nat} {l1 : Int64} (hK : StK K) (hn0 : K a0 = some (arJ N0)) (hv : Ev G d mJ7_fill_d0a16 6 [(0, .ref a0), (1, .long l1), (3, .int (0 : Int32)), (4, .int (Int32.ofNat N0))] (K, n, V, J, O) r (K, n, V, J', O)) : Ev G d mJ7_fill_d0a16 0 [(0, .ref a0), (1, .long l1)] (K, n, V, J, O) r (K, n, V, J', O) := by
  refine Ev.mk fun Q hq => ?_
  refine wp_iconst (v := 0) dJ7_fill_d0a16_0 (by decide) ?_
  refine wx_istore_n (ls' := [(0, .ref a0), (1, .long l1), (3, .int (0 : Int32))]) (i := 3) dJ7_fill_d0a16_1 rfl (by decide) rfl ?_
  refine wp_aload_n (i := 0) dJ7_fill_d0a16_2 rfl rfl ?_
  refine wz_alen dJ7_fill_d0a16_3 hn0 (by decide) ?_
  refine wx_istore (ls' := [(0, .ref a0), (1, .long l1), (3, .int (0 : Int32)), (4, .int (Int32.ofNat N0))]) dJ7_fill_d0a16_4 (by decide) rfl ?_
  exact hv Q hq
theorem wJ7_fill_d0a16_6 {a0 : Nat} {N0 : Nat} {l1 : Int64} {x3 : Int32} {x4 : Int32} (hK : StK K) (hn0 : K a0 = some (arJ N0)) (hv : ((x4 ≤ x3 → (r = none ∧ J' = J)) ∧ (¬ x4 ≤ x3 → (vp_in x3 N0 ∧ Ev G d mJ7_fill_d0a16 6 [(0, .ref a0), (1, .long l1), (3, .int (x3 + 1)), (4, .int x4)] (K, n, V, (up2 J a0 (x3).toNatClampNeg l1), O) r (K, n, V, J', O))))) : Ev G d mJ7_fill_d0a16 6 [(0, .ref a0), (1, .long l1), (3, .int x3), (4, .int x4)] (K, n, V, J, O) r (K, n, V, J', O) := by
  refine Ev.mk fun Q hq => ?_
  refine wp_iload_n (i := 3) dJ7_fill_d0a16_6 rfl rfl ?_
  refine wp_iload dJ7_fill_d0a16_7 rfl ?_
  refine wp_icmp_ge 22 dJ7_fill_d0a16_9 (by decide) (fun q => ?_) (fun q => ?_)
  · replace hv := hv.1 q
    obtain ⟨rfl, rfl⟩ := hv
    exact wp_return dJ7_fill_d0a16_22 rfl rfl hq
  · replace hv := hv.2 q
    refine wp_aload_n (i := 0) dJ7_fill_d0a16_12 rfl rfl ?_
    refine wp_iload_n (i := 3) dJ7_fill_d0a16_13 rfl rfl ?_
    refine wp_lload_n (i := 1) dJ7_fill_d0a16_14 rfl rfl ?_
    obtain ⟨z1, hv⟩ := hv
    refine wz_lastore dJ7_fill_d0a16_15 hn0 z1 ?_
    refine wx_iinc (v := 1) (ls' := [(0, .ref a0), (1, .long l1), (3, .int (x3 + 1)), (4, .int x4)]) dJ7_fill_d0a16_16 rfl (by decide) (by decide) rfl ?_
    refine wp_goto 6 dJ7_fill_d0a16_19 (by decide) ?_
    exact hv Q hq
theorem wJ7_fill_53178_0 {a0 : Nat} {N0 : Nat} {x1 : Int32} (hK : StK K) (hn0 : K a0 = some (arI N0)) (hv : Ev G d mJ7_fill_53178 5 [(0, .ref a0), (1, .int x1), (2, .int (0 : Int32)), (3, .int (Int32.ofNat N0))] (K, n, V, J, O) r (K, n, V', J, O)) : Ev G d mJ7_fill_53178 0 [(0, .ref a0), (1, .int x1)] (K, n, V, J, O) r (K, n, V', J, O) := by
  refine Ev.mk fun Q hq => ?_
  refine wp_iconst (v := 0) dJ7_fill_53178_0 (by decide) ?_
  refine wx_istore_n (ls' := [(0, .ref a0), (1, .int x1), (2, .int (0 : Int32))]) (i := 2) dJ7_fill_53178_1 rfl (by decide) rfl ?_
  refine wp_aload_n (i := 0) dJ7_fill_53178_2 rfl rfl ?_
  refine wz_alen dJ7_fill_53178_3 hn0 (by decide) ?_
  refine wx_istore_n (ls' := [(0, .ref a0), (1, .int x1), (2, .int (0 : Int32)), (3, .int (Int32.ofNat N0))]) (i := 3) dJ7_fill_53178_4 rfl (by decide) rfl ?_
  exact hv Q hq
theorem wJ7_fill_53178_5 {a0 : Nat} {N0 : Nat} {x1 : Int32} {x2 : Int32} {x3 : Int32} (hK : StK K) (hn0 : K a0 = some (arI N0)) (hv : ((x3 ≤ x2 → (r = none ∧ V' = V)) ∧ (¬ x3 ≤ x2 → (vp_in x2 N0 ∧ Ev G d mJ7_fill_53178 5 [(0, .ref a0), (1, .int x1), (2, .int (x2 + 1)), (3, .int x3)] (K, n, (up2 V a0 (x2).toNatClampNeg x1), J, O) r (K, n, V', J, O))))) : Ev G d mJ7_fill_53178 5 [(0, .ref a0), (1, .int x1), (2, .int x2), (3, .int x3)] (K, n, V, J, O) r (K, n, V', J, O) := by
  refine Ev.mk fun Q hq => ?_
  refine wp_iload_n (i := 2) dJ7_fill_53178_5 rfl rfl ?_
  refine wp_iload_n (i := 3) dJ7_fill_53178_6 rfl rfl ?_
  refine wp_icmp_ge 20 dJ7_fill_53178_7 (by decide) (fun q => ?_) (fun q => ?_)
  · replace hv := hv.1 q
    obtain ⟨rfl, rfl⟩ := hv
    exact wp_return dJ7_fill_53178_20 rfl rfl hq
  · replace hv := hv.2 q
    refine wp_aload_n (i := 0) dJ7_fill_53178_10 rfl rfl ?_
    refine wp_iload_n (i := 2) dJ7_fill_53178_11 rfl rfl ?_
    refine wp_iload_n (i := 1) dJ7_fill_53178_12 rfl rfl ?_
    obtain ⟨z1, hv⟩ := hv
    refine wz_iastore dJ7_fill_53178_13 hn0 z1 ?_
    refine wx_iinc (v := 1) (ls' := [(0, .ref a0), (1, .int x1), (2, .int (x2 + 1)), (3, .int x3)]) dJ7_fill_53178_14 rfl (by decide) (by decide) rfl ?_
    refine wp_goto 5 dJ7_fill_53178_17 (by decide) ?_
    exact hv Q hq
end
