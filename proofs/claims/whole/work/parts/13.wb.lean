section
variable {G : Gp} {d : Nat} {K : SK} {n : Nat × Nat} {V V' : SV} {J J' : SJV} {O O' : SO} {r : Option Value}
theorem wX11_put_0 {x1 : Int32} {x2 : Int32} {x3 : Int32} {x4 : Int32} (hK : StK K)  (hv : (∃ (v1 : Int32), Ev G d mX11_isValue 0 [(0, .int x1)] (K, n, V, J, O) (some (.int v1)) (K, n, V, J, O) ∧ ((v1 = 0 → (r = some (.int (-1 : Int32)) ∧ V' = V)) ∧ (¬ v1 = 0 → (∃ (v2 : Int32), Ev G d mX11_isValue 0 [(0, .int x2)] (K, n, V, J, O) (some (.int v2)) (K, n, V, J, O) ∧ ((v2 = 0 → (r = some (.int (-1 : Int32)) ∧ V' = V)) ∧ (¬ v2 = 0 → (∃ (v3 : Int32), Ev G d mX11_isValue 0 [(0, .int x3)] (K, n, V, J, O) (some (.int v3)) (K, n, V, J, O) ∧ ((v3 = 0 → (r = some (.int (-1 : Int32)) ∧ V' = V)) ∧ (¬ v3 = 0 → (∃ (v4 : Int32), Ev G d mX11_isValue 0 [(0, .int x4)] (K, n, V, J, O) (some (.int v4)) (K, n, V, J, O) ∧ ((v4 ≠ 0 → (∃ (v5 : Int32), Ev G d mX8_wouldBreak 0 [(0, .ref 1), (1, .int (0 : Int32)), (2, .int x1)] (K, n, V, J, O) (some (.int v5)) (K, n, V, J, O) ∧ ((v5 ≠ 0 → (r = some (.int (-5 : Int32)) ∧ V' = V)) ∧ (v5 = 0 → (∃ (v6 : Int32), Ev G d mX8_wouldBreak 0 [(0, .ref 1), (1, .int (1 : Int32)), (2, .int x2)] (K, n, V, J, O) (some (.int v6)) (K, n, V, J, O) ∧ ((v6 ≠ 0 → (r = some (.int (-5 : Int32)) ∧ V' = V)) ∧ (v6 = 0 → (∃ (v7 : Int32), Ev G d mX8_wouldBreak 0 [(0, .ref 1), (1, .int (2 : Int32)), (2, .int x3)] (K, n, V, J, O) (some (.int v7)) (K, n, V, J, O) ∧ ((v7 ≠ 0 → (r = some (.int (-5 : Int32)) ∧ V' = V)) ∧ (v7 = 0 → (∃ (v8 : Int32), Ev G d mX8_wouldBreak 0 [(0, .ref 1), (1, .int (3 : Int32)), (2, .int x4)] (K, n, V, J, O) (some (.int v8)) (K, n, V, J, O) ∧ ((v8 = 0 → (((V 1 2) < (80 : Int32) → (∃ (v10 : Int32) (V9 : SV), Ev G d mX8_add 0 [(0, .ref 1), (1, .int x1), (2, .int x2), (3, .int x3), (4, .int x4)] (K, n, V, J, O) (some (.int v10)) (K, n, V9, J, O) ∧ Ev G (d + 1) mX11_put 115 [(0, .ref 0), (1, .int x1), (2, .int x2), (3, .int x3), (4, .int x4), (5, .int v10), (6, .int (0 : Int32))] (K, n, V9, J, O) r (K, n, V', J, O))) ∧ (¬ (V 1 2) < (80 : Int32) → (r = some (.int (-3 : Int32)) ∧ V' = V)))) ∧ (¬ v8 = 0 → (r = some (.int (-5 : Int32)) ∧ V' = V)))))))))))))) ∧ (v4 = 0 → (r = some (.int (-1 : Int32)) ∧ V' = V)))))))))))))) : Ev G (d + 1) mX11_put 0 [(0, .ref 0), (1, .int x1), (2, .int x2), (3, .int x3), (4, .int x4)] (K, n, V, J, O) r (K, n, V', J, O) := by
  refine Ev.mk fun Q hq => ?_
  refine wp_iload_n (i := 1) dX11_put_0 rfl rfl ?_
  obtain ⟨v1, hE, hv⟩ := hv
  refine wz_callS (vs := [.int x1]) (st := []) dX11_put_1 k11_75 hE rfl (Nat.le_of_ble_eq_true rfl) (Nat.le_of_ble_eq_true rfl) ?_
  change wp _ _ _ _ _ [.int v1] _ _ _
  refine wp_if_eq 29 dX11_put_4 (by decide) (fun q => ?_) (fun q => ?_)
  · replace hv := hv.1 q
    refine wp_iconst (v := -1) dX11_put_29 (by decide) ?_
    obtain ⟨rfl, rfl⟩ := hv
    exact wp_ireturn dX11_put_30 rfl rfl rfl hq
  · replace hv := hv.2 q
    refine wp_iload_n (i := 2) dX11_put_7 rfl rfl ?_
    obtain ⟨v2, hE, hv⟩ := hv
    refine wz_callS (vs := [.int x2]) (st := []) dX11_put_8 k11_75 hE rfl (Nat.le_of_ble_eq_true rfl) (Nat.le_of_ble_eq_true rfl) ?_
    change wp _ _ _ _ _ [.int v2] _ _ _
    refine wp_if_eq 29 dX11_put_11 (by decide) (fun q => ?_) (fun q => ?_)
    · replace hv := hv.1 q
      refine wp_iconst (v := -1) dX11_put_29 (by decide) ?_
      obtain ⟨rfl, rfl⟩ := hv
      exact wp_ireturn dX11_put_30 rfl rfl rfl hq
    · replace hv := hv.2 q
      refine wp_iload_n (i := 3) dX11_put_14 rfl rfl ?_
      obtain ⟨v3, hE, hv⟩ := hv
      refine wz_callS (vs := [.int x3]) (st := []) dX11_put_15 k11_75 hE rfl (Nat.le_of_ble_eq_true rfl) (Nat.le_of_ble_eq_true rfl) ?_
      change wp _ _ _ _ _ [.int v3] _ _ _
      refine wp_if_eq 29 dX11_put_18 (by decide) (fun q => ?_) (fun q => ?_)
      · replace hv := hv.1 q
        refine wp_iconst (v := -1) dX11_put_29 (by decide) ?_
        obtain ⟨rfl, rfl⟩ := hv
        exact wp_ireturn dX11_put_30 rfl rfl rfl hq
      · replace hv := hv.2 q
        refine wp_iload dX11_put_21 rfl ?_
        obtain ⟨v4, hE, hv⟩ := hv
        refine wz_callS (vs := [.int x4]) (st := []) dX11_put_23 k11_75 hE rfl (Nat.le_of_ble_eq_true rfl) (Nat.le_of_ble_eq_true rfl) ?_
        change wp _ _ _ _ _ [.int v4] _ _ _
        refine wp_if_ne 31 dX11_put_26 (by decide) (fun q => ?_) (fun q => ?_)
        · replace hv := hv.1 q
          refine wp_aload_n (i := 0) dX11_put_31 rfl rfl ?_
          refine wz_getR (b := 1) dX11_put_32 (k0 hK) (f11_10 _ (by decide)) rfl ?_
          refine wp_iconst (v := 0) dX11_put_35 (by decide) ?_
          refine wp_iload_n (i := 1) dX11_put_36 rfl rfl ?_
          obtain ⟨v5, hE, hv⟩ := hv
          refine wz_callV (vs := [.int (0 : Int32), .int x1]) (st := []) dX11_put_37 (k1 hK) rfl k11_79_8 hE rfl (Nat.le_of_ble_eq_true rfl) (Nat.le_of_ble_eq_true rfl) ?_
          change wp _ _ _ _ _ [.int v5] _ _ _
          refine wp_if_ne 80 dX11_put_40 (by decide) (fun q => ?_) (fun q => ?_)
          · replace hv := hv.1 q
            refine wp_bipush (v := -5) dX11_put_80 (by decide) ?_
            obtain ⟨rfl, rfl⟩ := hv
            exact wp_ireturn dX11_put_82 rfl rfl rfl hq
          · replace hv := hv.2 q
            refine wp_aload_n (i := 0) dX11_put_43 rfl rfl ?_
            refine wz_getR (b := 1) dX11_put_44 (k0 hK) (f11_10 _ (by decide)) rfl ?_
            refine wp_iconst (v := 1) dX11_put_47 (by decide) ?_
            refine wp_iload_n (i := 2) dX11_put_48 rfl rfl ?_
            obtain ⟨v6, hE, hv⟩ := hv
            refine wz_callV (vs := [.int (1 : Int32), .int x2]) (st := []) dX11_put_49 (k1 hK) rfl k11_79_8 hE rfl (Nat.le_of_ble_eq_true rfl) (Nat.le_of_ble_eq_true rfl) ?_
            change wp _ _ _ _ _ [.int v6] _ _ _
            refine wp_if_ne 80 dX11_put_52 (by decide) (fun q => ?_) (fun q => ?_)
            · replace hv := hv.1 q
              refine wp_bipush (v := -5) dX11_put_80 (by decide) ?_
              obtain ⟨rfl, rfl⟩ := hv
              exact wp_ireturn dX11_put_82 rfl rfl rfl hq
            · replace hv := hv.2 q
              refine wp_aload_n (i := 0) dX11_put_55 rfl rfl ?_
              refine wz_getR (b := 1) dX11_put_56 (k0 hK) (f11_10 _ (by decide)) rfl ?_
              refine wp_iconst (v := 2) dX11_put_59 (by decide) ?_
              refine wp_iload_n (i := 3) dX11_put_60 rfl rfl ?_
              obtain ⟨v7, hE, hv⟩ := hv
              refine wz_callV (vs := [.int (2 : Int32), .int x3]) (st := []) dX11_put_61 (k1 hK) rfl k11_79_8 hE rfl (Nat.le_of_ble_eq_true rfl) (Nat.le_of_ble_eq_true rfl) ?_
              change wp _ _ _ _ _ [.int v7] _ _ _
              refine wp_if_ne 80 dX11_put_64 (by decide) (fun q => ?_) (fun q => ?_)
              · replace hv := hv.1 q
                refine wp_bipush (v := -5) dX11_put_80 (by decide) ?_
                obtain ⟨rfl, rfl⟩ := hv
                exact wp_ireturn dX11_put_82 rfl rfl rfl hq
              · replace hv := hv.2 q
                refine wp_aload_n (i := 0) dX11_put_67 rfl rfl ?_
                refine wz_getR (b := 1) dX11_put_68 (k0 hK) (f11_10 _ (by decide)) rfl ?_
                refine wp_iconst (v := 3) dX11_put_71 (by decide) ?_
                refine wp_iload dX11_put_72 rfl ?_
                obtain ⟨v8, hE, hv⟩ := hv
                refine wz_callV (vs := [.int (3 : Int32), .int x4]) (st := []) dX11_put_74 (k1 hK) rfl k11_79_8 hE rfl (Nat.le_of_ble_eq_true rfl) (Nat.le_of_ble_eq_true rfl) ?_
                change wp _ _ _ _ _ [.int v8] _ _ _
                refine wp_if_eq 83 dX11_put_77 (by decide) (fun q => ?_) (fun q => ?_)
                · replace hv := hv.1 q
                  refine wp_aload_n (i := 0) dX11_put_83 rfl rfl ?_
                  refine wz_getR (b := 1) dX11_put_84 (k0 hK) (f11_10 _ (by decide)) rfl ?_
                  refine wz_getI dX11_put_87 (k1 hK) (f11_83 _ (by decide)) rfl ?_
                  refine wp_bipush (v := 80) dX11_put_90 (by decide) ?_
                  refine wp_icmp_lt 98 dX11_put_92 (by decide) (fun q => ?_) (fun q => ?_)
                  · replace hv := hv.1 q
                    refine wp_aload_n (i := 0) dX11_put_98 rfl rfl ?_
                    refine wz_getR (b := 1) dX11_put_99 (k0 hK) (f11_10 _ (by decide)) rfl ?_
                    refine wp_iload_n (i := 1) dX11_put_102 rfl rfl ?_
                    refine wp_iload_n (i := 2) dX11_put_103 rfl rfl ?_
                    refine wp_iload_n (i := 3) dX11_put_104 rfl rfl ?_
                    refine wp_iload dX11_put_105 rfl ?_
                    obtain ⟨v10, V9, hE, hv⟩ := hv
                    refine wz_callV (vs := [.int x1, .int x2, .int x3, .int x4]) (st := []) dX11_put_107 (k1 hK) rfl k11_87_8 hE rfl (Nat.le_of_ble_eq_true rfl) (Nat.le_of_ble_eq_true rfl) ?_
                    change wp _ _ _ _ _ [.int v10] _ _ _
                    refine wx_istore (ls' := [(0, .ref 0), (1, .int x1), (2, .int x2), (3, .int x3), (4, .int x4), (5, .int v10)]) dX11_put_110 (by decide) rfl ?_
                    refine wp_iconst (v := 0) dX11_put_112 (by decide) ?_
                    refine wx_istore (ls' := [(0, .ref 0), (1, .int x1), (2, .int x2), (3, .int x3), (4, .int x4), (5, .int v10), (6, .int (0 : Int32))]) dX11_put_113 (by decide) rfl ?_
                    exact hv Q hq
                  · replace hv := hv.2 q
                    refine wp_bipush (v := -3) dX11_put_95 (by decide) ?_
                    obtain ⟨rfl, rfl⟩ := hv
                    exact wp_ireturn dX11_put_97 rfl rfl rfl hq
                · replace hv := hv.2 q
                  refine wp_bipush (v := -5) dX11_put_80 (by decide) ?_
                  obtain ⟨rfl, rfl⟩ := hv
                  exact wp_ireturn dX11_put_82 rfl rfl rfl hq
        · replace hv := hv.2 q
          refine wp_iconst (v := -1) dX11_put_29 (by decide) ?_
          obtain ⟨rfl, rfl⟩ := hv
          exact wp_ireturn dX11_put_30 rfl rfl rfl hq
theorem wX11_put_115 {x1 : Int32} {x2 : Int32} {x3 : Int32} {x4 : Int32} {x5 : Int32} {x6 : Int32} (hK : StK K)  (hv : (((V 0 7) ≤ x6 → (r = some (.int x5) ∧ V' = V)) ∧ (¬ (V 0 7) ≤ x6 → (vp_in x6 10 ∧ ∃ (b2 c3 y4 : Nat), O 33 (x6).toNatClampNeg = some b2 ∧ IsSt K b2 c3 y4 ∧ c3 ∈ [1, 2, 3, 4, 5, 6, 7, 10] ∧ (∃ (V7 : SV), Ev G d mX5_enter 0 [(0, .ref b2), (1, .int x5)] (K, n, V, J, O) none (K, n, V7, J, O) ∧ Ev G (d + 1) mX11_put 115 [(0, .ref 0), (1, .int x1), (2, .int x2), (3, .int x3), (4, .int x4), (5, .int x5), (6, .int (x6 + 1))] (K, n, V7, J, O) r (K, n, V', J, O)))))) : Ev G (d + 1) mX11_put 115 [(0, .ref 0), (1, .int x1), (2, .int x2), (3, .int x3), (4, .int x4), (5, .int x5), (6, .int x6)] (K, n, V, J, O) r (K, n, V', J, O) := by
  refine Ev.mk fun Q hq => ?_
  refine wp_iload dX11_put_115 rfl ?_
  refine wp_aload_n (i := 0) dX11_put_117 rfl rfl ?_
  refine wz_getI dX11_put_118 (k0 hK) (f11_91 _ (by decide)) rfl ?_
  refine wp_icmp_ge 142 dX11_put_121 (by decide) (fun q => ?_) (fun q => ?_)
  · replace hv := hv.1 q
    refine wp_iload dX11_put_142 rfl ?_
    obtain ⟨rfl, rfl⟩ := hv
    exact wp_ireturn dX11_put_144 rfl rfl rfl hq
  · replace hv := hv.2 q
    refine wp_aload_n (i := 0) dX11_put_124 rfl rfl ?_
    refine wz_getR (b := 33) dX11_put_125 (k0 hK) (f11_40 _ (by decide)) rfl ?_
    refine wp_iload dX11_put_128 rfl ?_
    obtain ⟨z1, b2, c3, y4, o0, h5, z6, hv⟩ := hv
    refine wz_aaloadR dX11_put_130 (k33 hK) (by decide) z1 o0 ?_
    refine wp_iload dX11_put_131 rfl ?_
    obtain ⟨V7, hE, hv⟩ := hv
    refine wz_callX (vs := [.int x5]) (st := []) dX11_put_133 (st_0 h5) (kx11_94 (vs11_94_all z6)).1 hE rfl (kx11_94 (vs11_94_all z6)).2 (Nat.le_of_ble_eq_true rfl) ?_
    change wp _ _ _ _ _ [] _ _ _
    refine wx_iinc (v := 1) (ls' := [(0, .ref 0), (1, .int x1), (2, .int x2), (3, .int x3), (4, .int x4), (5, .int x5), (6, .int (x6 + 1))]) dX11_put_136 rfl (by decide) (by decide) rfl ?_
    refine wp_goto 115 dX11_put_139 (by decide) ?_
    exact hv Q hq
theorem wX11_take_0 {x1 : Int32} (hK : StK K)  (hv : (∃ (v1 : Int32), Ev G d mX8_has 0 [(0, .ref 1), (1, .int x1)] (K, n, V, J, O) (some (.int v1)) (K, n, V, J, O) ∧ ((v1 ≠ 0 → (∃ (v2 : Int32), Ev G d mX8_isIn 0 [(0, .ref 1), (1, .int x1)] (K, n, V, J, O) (some (.int v2)) (K, n, V, J, O) ∧ ((v2 ≠ 0 → (∃ (V3 : SV), Ev G d mX8_remove 0 [(0, .ref 1), (1, .int x1)] (K, n, V, J, O) none (K, n, V3, J, O) ∧ Ev G (d + 1) mX11_take 37 [(0, .ref 0), (1, .int x1), (2, .int (0 : Int32))] (K, n, V3, J, O) r (K, n, V', J, O))) ∧ (v2 = 0 → (r = some (.int (-2 : Int32)) ∧ V' = V))))) ∧ (v1 = 0 → (r = some (.int (-1 : Int32)) ∧ V' = V))))) : Ev G (d + 1) mX11_take 0 [(0, .ref 0), (1, .int x1)] (K, n, V, J, O) r (K, n, V', J, O) := by
  refine Ev.mk fun Q hq => ?_
  refine wp_aload_n (i := 0) dX11_take_0 rfl rfl ?_
  refine wz_getR (b := 1) dX11_take_1 (k0 hK) (f11_10 _ (by decide)) rfl ?_
  refine wp_iload_n (i := 1) dX11_take_4 rfl rfl ?_
  obtain ⟨v1, hE, hv⟩ := hv
  refine wz_callV (vs := [.int x1]) (st := []) dX11_take_5 (k1 hK) rfl k11_98_8 hE rfl (Nat.le_of_ble_eq_true rfl) (Nat.le_of_ble_eq_true rfl) ?_
  change wp _ _ _ _ _ [.int v1] _ _ _
  refine wp_if_ne 13 dX11_take_8 (by decide) (fun q => ?_) (fun q => ?_)
  · replace hv := hv.1 q
    refine wp_aload_n (i := 0) dX11_take_13 rfl rfl ?_
    refine wz_getR (b := 1) dX11_take_14 (k0 hK) (f11_10 _ (by decide)) rfl ?_
    refine wp_iload_n (i := 1) dX11_take_17 rfl rfl ?_
    obtain ⟨v2, hE, hv⟩ := hv
    refine wz_callV (vs := [.int x1]) (st := []) dX11_take_18 (k1 hK) rfl k11_101_8 hE rfl (Nat.le_of_ble_eq_true rfl) (Nat.le_of_ble_eq_true rfl) ?_
    change wp _ _ _ _ _ [.int v2] _ _ _
    refine wp_if_ne 27 dX11_take_21 (by decide) (fun q => ?_) (fun q => ?_)
    · replace hv := hv.1 q
      refine wp_aload_n (i := 0) dX11_take_27 rfl rfl ?_
      refine wz_getR (b := 1) dX11_take_28 (k0 hK) (f11_10 _ (by decide)) rfl ?_
      refine wp_iload_n (i := 1) dX11_take_31 rfl rfl ?_
      obtain ⟨V3, hE, hv⟩ := hv
      refine wz_callV (vs := [.int x1]) (st := []) dX11_take_32 (k1 hK) rfl k11_104_8 hE rfl (Nat.le_of_ble_eq_true rfl) (Nat.le_of_ble_eq_true rfl) ?_
      change wp _ _ _ _ _ [] _ _ _
      refine wp_iconst (v := 0) dX11_take_35 (by decide) ?_
      refine wx_istore_n (ls' := [(0, .ref 0), (1, .int x1), (2, .int (0 : Int32))]) (i := 2) dX11_take_36 rfl (by decide) rfl ?_
      exact hv Q hq
    · replace hv := hv.2 q
      refine wp_bipush (v := -2) dX11_take_24 (by decide) ?_
      obtain ⟨rfl, rfl⟩ := hv
      exact wp_ireturn dX11_take_26 rfl rfl rfl hq
  · replace hv := hv.2 q
    refine wp_iconst (v := -1) dX11_take_11 (by decide) ?_
    obtain ⟨rfl, rfl⟩ := hv
    exact wp_ireturn dX11_take_12 rfl rfl rfl hq
theorem wX11_take_37 {x1 : Int32} {x2 : Int32} (hK : StK K)  (hv : (((V 0 7) ≤ x2 → (r = some (.int (1 : Int32)) ∧ V' = V)) ∧ (¬ (V 0 7) ≤ x2 → (vp_in x2 10 ∧ ∃ (b2 c3 y4 : Nat), O 33 (x2).toNatClampNeg = some b2 ∧ IsSt K b2 c3 y4 ∧ c3 ∈ [1, 2, 3, 4, 5, 6, 7, 10] ∧ (∃ (V7 : SV), Ev G d mX5_leave 0 [(0, .ref b2), (1, .int x1)] (K, n, V, J, O) none (K, n, V7, J, O) ∧ Ev G (d + 1) mX11_take 37 [(0, .ref 0), (1, .int x1), (2, .int (x2 + 1))] (K, n, V7, J, O) r (K, n, V', J, O)))))) : Ev G (d + 1) mX11_take 37 [(0, .ref 0), (1, .int x1), (2, .int x2)] (K, n, V, J, O) r (K, n, V', J, O) := by
  refine Ev.mk fun Q hq => ?_
  refine wp_iload_n (i := 2) dX11_take_37 rfl rfl ?_
  refine wp_aload_n (i := 0) dX11_take_38 rfl rfl ?_
  refine wz_getI dX11_take_39 (k0 hK) (f11_91 _ (by decide)) rfl ?_
  refine wp_icmp_ge 61 dX11_take_42 (by decide) (fun q => ?_) (fun q => ?_)
  · replace hv := hv.1 q
    refine wp_iconst (v := 1) dX11_take_61 (by decide) ?_
    obtain ⟨rfl, rfl⟩ := hv
    exact wp_ireturn dX11_take_62 rfl rfl rfl hq
  · replace hv := hv.2 q
    refine wp_aload_n (i := 0) dX11_take_45 rfl rfl ?_
    refine wz_getR (b := 33) dX11_take_46 (k0 hK) (f11_40 _ (by decide)) rfl ?_
    refine wp_iload_n (i := 2) dX11_take_49 rfl rfl ?_
    obtain ⟨z1, b2, c3, y4, o0, h5, z6, hv⟩ := hv
    refine wz_aaloadR dX11_take_50 (k33 hK) (by decide) z1 o0 ?_
    refine wp_iload_n (i := 1) dX11_take_51 rfl rfl ?_
    obtain ⟨V7, hE, hv⟩ := hv
    refine wz_callX (vs := [.int x1]) (st := []) dX11_take_52 (st_0 h5) (kx11_107 (vs11_107_all z6)).1 hE rfl (kx11_107 (vs11_107_all z6)).2 (Nat.le_of_ble_eq_true rfl) ?_
    change wp _ _ _ _ _ [] _ _ _
    refine wx_iinc (v := 1) (ls' := [(0, .ref 0), (1, .int x1), (2, .int (x2 + 1))]) dX11_take_55 rfl (by decide) (by decide) rfl ?_
    refine wp_goto 37 dX11_take_58 (by decide) ?_
    exact hv Q hq
theorem wX11_of_0 {x1 : Int32} {x2 : Int32} (hK : StK K)  (hv : (∃ (v1 : Int32), Ev G d mX8_has 0 [(0, .ref 1), (1, .int x1)] (K, n, V, J, O) (some (.int v1)) (K, n, V, J, O) ∧ ((v1 = 0 → r = some (.int (-1 : Int32))) ∧ (¬ v1 = 0 → (∃ (v2 : Int32), Ev G d mX11_isWithin 0 [(0, .int x2), (1, .int (0 : Int32)), (2, .int (4 : Int32))] (K, n, V, J, O) (some (.int v2)) (K, n, V, J, O) ∧ ((v2 ≠ 0 → ((x2 ≠ (4 : Int32) → (∃ (v3 : Int32), Ev G d mX8_value 0 [(0, .ref 1), (1, .int x1), (2, .int x2)] (K, n, V, J, O) (some (.int v3)) (K, n, V, J, O) ∧ r = some (.int v3))) ∧ (x2 = (4 : Int32) → (∃ (v4 : Int32), Ev G d mX8_isIn 0 [(0, .ref 1), (1, .int x1)] (K, n, V, J, O) (some (.int v4)) (K, n, V, J, O) ∧ ((v4 = 0 → r = some (.int (0 : Int32))) ∧ (¬ v4 = 0 → r = some (.int (1 : Int32)))))))) ∧ (v2 = 0 → r = some (.int (-1 : Int32))))))))) : Ev G (d + 1) mX11_of 0 [(0, .ref 0), (1, .int x1), (2, .int x2)] (K, n, V, J, O) r (K, n, V, J, O) := by
  refine Ev.mk fun Q hq => ?_
  refine wp_aload_n (i := 0) dX11_of_0 rfl rfl ?_
  refine wz_getR (b := 1) dX11_of_1 (k0 hK) (f11_10 _ (by decide)) rfl ?_
  refine wp_iload_n (i := 1) dX11_of_4 rfl rfl ?_
  obtain ⟨v1, hE, hv⟩ := hv
  refine wz_callV (vs := [.int x1]) (st := []) dX11_of_5 (k1 hK) rfl k11_98_8 hE rfl (Nat.le_of_ble_eq_true rfl) (Nat.le_of_ble_eq_true rfl) ?_
  change wp _ _ _ _ _ [.int v1] _ _ _
  refine wp_if_eq 20 dX11_of_8 (by decide) (fun q => ?_) (fun q => ?_)
  · replace hv := hv.1 q
    refine wp_iconst (v := -1) dX11_of_20 (by decide) ?_
    obtain rfl := hv
    exact wp_ireturn dX11_of_21 rfl rfl rfl hq
  · replace hv := hv.2 q
    refine wp_iload_n (i := 2) dX11_of_11 rfl rfl ?_
    refine wp_iconst (v := 0) dX11_of_12 (by decide) ?_
    refine wp_iconst (v := 4) dX11_of_13 (by decide) ?_
    obtain ⟨v2, hE, hv⟩ := hv
    refine wz_callS (vs := [.int x2, .int (0 : Int32), .int (4 : Int32)]) (st := []) dX11_of_14 k11_110 hE rfl (Nat.le_of_ble_eq_true rfl) (Nat.le_of_ble_eq_true rfl) ?_
    change wp _ _ _ _ _ [.int v2] _ _ _
    refine wp_if_ne 22 dX11_of_17 (by decide) (fun q => ?_) (fun q => ?_)
    · replace hv := hv.1 q
      refine wp_iload_n (i := 2) dX11_of_22 rfl rfl ?_
      refine wp_iconst (v := 4) dX11_of_23 (by decide) ?_
      refine wp_icmp_ne 44 dX11_of_24 (by decide) (fun q => ?_) (fun q => ?_)
      · replace hv := hv.1 q
        refine wp_aload_n (i := 0) dX11_of_44 rfl rfl ?_
        refine wz_getR (b := 1) dX11_of_45 (k0 hK) (f11_10 _ (by decide)) rfl ?_
        refine wp_iload_n (i := 1) dX11_of_48 rfl rfl ?_
        refine wp_iload_n (i := 2) dX11_of_49 rfl rfl ?_
        obtain ⟨v3, hE, hv⟩ := hv
        refine wz_callV (vs := [.int x1, .int x2]) (st := []) dX11_of_50 (k1 hK) rfl k11_114_8 hE rfl (Nat.le_of_ble_eq_true rfl) (Nat.le_of_ble_eq_true rfl) ?_
        change wp _ _ _ _ _ [.int v3] _ _ _
        obtain rfl := hv
        exact wp_ireturn dX11_of_53 rfl rfl rfl hq
      · replace hv := hv.2 q
        refine wp_aload_n (i := 0) dX11_of_27 rfl rfl ?_
        refine wz_getR (b := 1) dX11_of_28 (k0 hK) (f11_10 _ (by decide)) rfl ?_
        refine wp_iload_n (i := 1) dX11_of_31 rfl rfl ?_
        obtain ⟨v4, hE, hv⟩ := hv
        refine wz_callV (vs := [.int x1]) (st := []) dX11_of_32 (k1 hK) rfl k11_101_8 hE rfl (Nat.le_of_ble_eq_true rfl) (Nat.le_of_ble_eq_true rfl) ?_
        change wp _ _ _ _ _ [.int v4] _ _ _
        refine wp_if_eq 42 dX11_of_35 (by decide) (fun q => ?_) (fun q => ?_)
        · replace hv := hv.1 q
          refine wp_iconst (v := 0) dX11_of_42 (by decide) ?_
          obtain rfl := hv
          exact wp_ireturn dX11_of_43 rfl rfl rfl hq
        · replace hv := hv.2 q
          refine wp_iconst (v := 1) dX11_of_38 (by decide) ?_
          refine wp_goto 43 dX11_of_39 (by decide) ?_
          obtain rfl := hv
          exact wp_ireturn dX11_of_43 rfl rfl rfl hq
    · replace hv := hv.2 q
      refine wp_iconst (v := -1) dX11_of_20 (by decide) ?_
      obtain rfl := hv
      exact wp_ireturn dX11_of_21 rfl rfl rfl hq
theorem wX11_unlike_0 {x1 : Int32} {x2 : Int32} (hK : StK K)  (hv : (∃ (v1 : Int32), Ev G d mX11_isField 0 [(0, .int x1)] (K, n, V, J, O) (some (.int v1)) (K, n, V, J, O) ∧ ((v1 = 0 → (r = some (.int (-1 : Int32)) ∧ V' = V)) ∧ (¬ v1 = 0 → (∃ (v2 : Int32), Ev G d mX11_isWithin 0 [(0, .int x2), (1, .int (0 : Int32)), (2, .int (1 : Int32))] (K, n, V, J, O) (some (.int v2)) (K, n, V, J, O) ∧ ((v2 ≠ 0 → ((x2 ≠ (1 : Int32) → (vp_in x1 4 ∧ (vp_in x1 4 ∧ (r = some (.int (V 2 (x1).toNatClampNeg)) ∧ V' = (up2 V 2 (x1).toNatClampNeg x2))))) ∧ (x2 = (1 : Int32) → (∃ (v5 : Int32), Ev G d mX8_hasLikes 0 [(0, .ref 1), (1, .int x1)] (K, n, V, J, O) (some (.int v5)) (K, n, V, J, O) ∧ ((v5 = 0 → (vp_in x1 4 ∧ (vp_in x1 4 ∧ (r = some (.int (V 2 (x1).toNatClampNeg)) ∧ V' = (up2 V 2 (x1).toNatClampNeg x2))))) ∧ (¬ v5 = 0 → (r = some (.int (-5 : Int32)) ∧ V' = V))))))) ∧ (v2 = 0 → (r = some (.int (-1 : Int32)) ∧ V' = V)))))))) : Ev G (d + 1) mX11_unlike 0 [(0, .ref 0), (1, .int x1), (2, .int x2)] (K, n, V, J, O) r (K, n, V', J, O) := by
  refine Ev.mk fun Q hq => ?_
  refine wp_iload_n (i := 1) dX11_unlike_0 rfl rfl ?_
  obtain ⟨v1, hE, hv⟩ := hv
  refine wz_callS (vs := [.int x1]) (st := []) dX11_unlike_1 k11_118 hE rfl (Nat.le_of_ble_eq_true rfl) (Nat.le_of_ble_eq_true rfl) ?_
  change wp _ _ _ _ _ [.int v1] _ _ _
  refine wp_if_eq 16 dX11_unlike_4 (by decide) (fun q => ?_) (fun q => ?_)
  · replace hv := hv.1 q
    refine wp_iconst (v := -1) dX11_unlike_16 (by decide) ?_
    obtain ⟨rfl, rfl⟩ := hv
    exact wp_ireturn dX11_unlike_17 rfl rfl rfl hq
  · replace hv := hv.2 q
    refine wp_iload_n (i := 2) dX11_unlike_7 rfl rfl ?_
    refine wp_iconst (v := 0) dX11_unlike_8 (by decide) ?_
    refine wp_iconst (v := 1) dX11_unlike_9 (by decide) ?_
    obtain ⟨v2, hE, hv⟩ := hv
    refine wz_callS (vs := [.int x2, .int (0 : Int32), .int (1 : Int32)]) (st := []) dX11_unlike_10 k11_110 hE rfl (Nat.le_of_ble_eq_true rfl) (Nat.le_of_ble_eq_true rfl) ?_
    change wp _ _ _ _ _ [.int v2] _ _ _
    refine wp_if_ne 18 dX11_unlike_13 (by decide) (fun q => ?_) (fun q => ?_)
    · replace hv := hv.1 q
      refine wp_iload_n (i := 2) dX11_unlike_18 rfl rfl ?_
      refine wp_iconst (v := 1) dX11_unlike_19 (by decide) ?_
      refine wp_icmp_ne 37 dX11_unlike_20 (by decide) (fun q => ?_) (fun q => ?_)
      · replace hv := hv.1 q
        refine wp_aload_n (i := 0) dX11_unlike_37 rfl rfl ?_
        refine wz_getR (b := 1) dX11_unlike_38 (k0 hK) (f11_10 _ (by decide)) rfl ?_
        refine wz_getR (b := 2) dX11_unlike_41 (k1 hK) (f11_124 _ (by decide)) rfl ?_
        refine wp_iload_n (i := 1) dX11_unlike_44 rfl rfl ?_
        obtain ⟨z3, hv⟩ := hv
        refine wz_iaload dX11_unlike_45 (k2 hK) z3 ?_
        refine wx_istore_n (ls' := [(0, .ref 0), (1, .int x1), (2, .int x2), (3, .int (V 2 (x1).toNatClampNeg))]) (i := 3) dX11_unlike_46 rfl (by decide) rfl ?_
        refine wp_aload_n (i := 0) dX11_unlike_47 rfl rfl ?_
        refine wz_getR (b := 1) dX11_unlike_48 (k0 hK) (f11_10 _ (by decide)) rfl ?_
        refine wz_getR (b := 2) dX11_unlike_51 (k1 hK) (f11_124 _ (by decide)) rfl ?_
        refine wp_iload_n (i := 1) dX11_unlike_54 rfl rfl ?_
        refine wp_iload_n (i := 2) dX11_unlike_55 rfl rfl ?_
        obtain ⟨z4, hv⟩ := hv
        refine wz_iastore dX11_unlike_56 (k2 hK) z4 ?_
        refine wp_iload_n (i := 3) dX11_unlike_57 rfl rfl ?_
        obtain ⟨rfl, rfl⟩ := hv
        exact wp_ireturn dX11_unlike_58 rfl rfl rfl hq
      · replace hv := hv.2 q
        refine wp_aload_n (i := 0) dX11_unlike_23 rfl rfl ?_
        refine wz_getR (b := 1) dX11_unlike_24 (k0 hK) (f11_10 _ (by decide)) rfl ?_
        refine wp_iload_n (i := 1) dX11_unlike_27 rfl rfl ?_
        obtain ⟨v5, hE, hv⟩ := hv
        refine wz_callV (vs := [.int x1]) (st := []) dX11_unlike_28 (k1 hK) rfl k11_121_8 hE rfl (Nat.le_of_ble_eq_true rfl) (Nat.le_of_ble_eq_true rfl) ?_
        change wp _ _ _ _ _ [.int v5] _ _ _
        refine wp_if_eq 37 dX11_unlike_31 (by decide) (fun q => ?_) (fun q => ?_)
        · replace hv := hv.1 q
          refine wp_aload_n (i := 0) dX11_unlike_37 rfl rfl ?_
          refine wz_getR (b := 1) dX11_unlike_38 (k0 hK) (f11_10 _ (by decide)) rfl ?_
          refine wz_getR (b := 2) dX11_unlike_41 (k1 hK) (f11_124 _ (by decide)) rfl ?_
          refine wp_iload_n (i := 1) dX11_unlike_44 rfl rfl ?_
          obtain ⟨z6, hv⟩ := hv
          refine wz_iaload dX11_unlike_45 (k2 hK) z6 ?_
          refine wx_istore_n (ls' := [(0, .ref 0), (1, .int x1), (2, .int x2), (3, .int (V 2 (x1).toNatClampNeg))]) (i := 3) dX11_unlike_46 rfl (by decide) rfl ?_
          refine wp_aload_n (i := 0) dX11_unlike_47 rfl rfl ?_
          refine wz_getR (b := 1) dX11_unlike_48 (k0 hK) (f11_10 _ (by decide)) rfl ?_
          refine wz_getR (b := 2) dX11_unlike_51 (k1 hK) (f11_124 _ (by decide)) rfl ?_
          refine wp_iload_n (i := 1) dX11_unlike_54 rfl rfl ?_
          refine wp_iload_n (i := 2) dX11_unlike_55 rfl rfl ?_
          obtain ⟨z7, hv⟩ := hv
          refine wz_iastore dX11_unlike_56 (k2 hK) z7 ?_
          refine wp_iload_n (i := 3) dX11_unlike_57 rfl rfl ?_
          obtain ⟨rfl, rfl⟩ := hv
          exact wp_ireturn dX11_unlike_58 rfl rfl rfl hq
        · replace hv := hv.2 q
          refine wp_bipush (v := -5) dX11_unlike_34 (by decide) ?_
          obtain ⟨rfl, rfl⟩ := hv
          exact wp_ireturn dX11_unlike_36 rfl rfl rfl hq
    · replace hv := hv.2 q
      refine wp_iconst (v := -1) dX11_unlike_16 (by decide) ?_
      obtain ⟨rfl, rfl⟩ := hv
      exact wp_ireturn dX11_unlike_17 rfl rfl rfl hq
theorem wX11_most_0 {x1 : Int32} {x2 : Int32} (hK : StK K)  (hv : (∃ (v1 : Int32), Ev G d mX11_isField 0 [(0, .int x1)] (K, n, V, J, O) (some (.int v1)) (K, n, V, J, O) ∧ ((v1 = 0 → (r = some (.int (-2000000000 : Int32)) ∧ V' = V)) ∧ (¬ v1 = 0 → (∃ (v2 : Int32), Ev G d mX11_isWithin 0 [(0, .int x2), (1, .int (-1 : Int32)), (2, .int (9999 : Int32))] (K, n, V, J, O) (some (.int v2)) (K, n, V, J, O) ∧ ((v2 ≠ 0 → ((x2 = (-1 : Int32) → (vp_in x1 4 ∧ (vp_in x1 4 ∧ (r = some (.int (V 3 (x1).toNatClampNeg)) ∧ V' = (up2 V 3 (x1).toNatClampNeg x2))))) ∧ (¬ x2 = (-1 : Int32) → (∃ (v5 : Int32), Ev G d mX8_sum 0 [(0, .ref 1), (1, .int x1)] (K, n, V, J, O) (some (.int v5)) (K, n, V, J, O) ∧ ((v5 ≤ x2 → (vp_in x1 4 ∧ (vp_in x1 4 ∧ (r = some (.int (V 3 (x1).toNatClampNeg)) ∧ V' = (up2 V 3 (x1).toNatClampNeg x2))))) ∧ (¬ v5 ≤ x2 → (r = some (.int (-2 : Int32)) ∧ V' = V))))))) ∧ (v2 = 0 → (r = some (.int (-2000000000 : Int32)) ∧ V' = V)))))))) : Ev G (d + 1) mX11_most 0 [(0, .ref 0), (1, .int x1), (2, .int x2)] (K, n, V, J, O) r (K, n, V', J, O) := by
  refine Ev.mk fun Q hq => ?_
  refine wp_iload_n (i := 1) dX11_most_0 rfl rfl ?_
  obtain ⟨v1, hE, hv⟩ := hv
  refine wz_callS (vs := [.int x1]) (st := []) dX11_most_1 k11_118 hE rfl (Nat.le_of_ble_eq_true rfl) (Nat.le_of_ble_eq_true rfl) ?_
  change wp _ _ _ _ _ [.int v1] _ _ _
  refine wp_if_eq 18 dX11_most_4 (by decide) (fun q => ?_) (fun q => ?_)
  · replace hv := hv.1 q
    refine wp_ldc (v := -2000000000) dX11_most_18 q11_127 ?_
    obtain ⟨rfl, rfl⟩ := hv
    exact wp_ireturn dX11_most_20 rfl rfl rfl hq
  · replace hv := hv.2 q
    refine wp_iload_n (i := 2) dX11_most_7 rfl rfl ?_
    refine wp_iconst (v := -1) dX11_most_8 (by decide) ?_
    refine wp_sipush (v := 9999) dX11_most_9 (by decide) ?_
    obtain ⟨v2, hE, hv⟩ := hv
    refine wz_callS (vs := [.int x2, .int (-1 : Int32), .int (9999 : Int32)]) (st := []) dX11_most_12 k11_110 hE rfl (Nat.le_of_ble_eq_true rfl) (Nat.le_of_ble_eq_true rfl) ?_
    change wp _ _ _ _ _ [.int v2] _ _ _
    refine wp_if_ne 21 dX11_most_15 (by decide) (fun q => ?_) (fun q => ?_)
    · replace hv := hv.1 q
      refine wp_iload_n (i := 2) dX11_most_21 rfl rfl ?_
      refine wp_iconst (v := -1) dX11_most_22 (by decide) ?_
      refine wp_icmp_eq 41 dX11_most_23 (by decide) (fun q => ?_) (fun q => ?_)
      · replace hv := hv.1 q
        refine wp_aload_n (i := 0) dX11_most_41 rfl rfl ?_
        refine wz_getR (b := 1) dX11_most_42 (k0 hK) (f11_10 _ (by decide)) rfl ?_
        refine wz_getR (b := 3) dX11_most_45 (k1 hK) (f11_132 _ (by decide)) rfl ?_
        refine wp_iload_n (i := 1) dX11_most_48 rfl rfl ?_
        obtain ⟨z3, hv⟩ := hv
        refine wz_iaload dX11_most_49 (k3 hK) z3 ?_
        refine wx_istore_n (ls' := [(0, .ref 0), (1, .int x1), (2, .int x2), (3, .int (V 3 (x1).toNatClampNeg))]) (i := 3) dX11_most_50 rfl (by decide) rfl ?_
        refine wp_aload_n (i := 0) dX11_most_51 rfl rfl ?_
        refine wz_getR (b := 1) dX11_most_52 (k0 hK) (f11_10 _ (by decide)) rfl ?_
        refine wz_getR (b := 3) dX11_most_55 (k1 hK) (f11_132 _ (by decide)) rfl ?_
        refine wp_iload_n (i := 1) dX11_most_58 rfl rfl ?_
        refine wp_iload_n (i := 2) dX11_most_59 rfl rfl ?_
        obtain ⟨z4, hv⟩ := hv
        refine wz_iastore dX11_most_60 (k3 hK) z4 ?_
        refine wp_iload_n (i := 3) dX11_most_61 rfl rfl ?_
        obtain ⟨rfl, rfl⟩ := hv
        exact wp_ireturn dX11_most_62 rfl rfl rfl hq
      · replace hv := hv.2 q
        refine wp_aload_n (i := 0) dX11_most_26 rfl rfl ?_
        refine wz_getR (b := 1) dX11_most_27 (k0 hK) (f11_10 _ (by decide)) rfl ?_
        refine wp_iload_n (i := 1) dX11_most_30 rfl rfl ?_
        obtain ⟨v5, hE, hv⟩ := hv
        refine wz_callV (vs := [.int x1]) (st := []) dX11_most_31 (k1 hK) rfl k11_128_8 hE rfl (Nat.le_of_ble_eq_true rfl) (Nat.le_of_ble_eq_true rfl) ?_
        change wp _ _ _ _ _ [.int v5] _ _ _
        refine wp_iload_n (i := 2) dX11_most_34 rfl rfl ?_
        refine wp_icmp_le 41 dX11_most_35 (by decide) (fun q => ?_) (fun q => ?_)
        · replace hv := hv.1 q
          refine wp_aload_n (i := 0) dX11_most_41 rfl rfl ?_
          refine wz_getR (b := 1) dX11_most_42 (k0 hK) (f11_10 _ (by decide)) rfl ?_
          refine wz_getR (b := 3) dX11_most_45 (k1 hK) (f11_132 _ (by decide)) rfl ?_
          refine wp_iload_n (i := 1) dX11_most_48 rfl rfl ?_
          obtain ⟨z6, hv⟩ := hv
          refine wz_iaload dX11_most_49 (k3 hK) z6 ?_
          refine wx_istore_n (ls' := [(0, .ref 0), (1, .int x1), (2, .int x2), (3, .int (V 3 (x1).toNatClampNeg))]) (i := 3) dX11_most_50 rfl (by decide) rfl ?_
          refine wp_aload_n (i := 0) dX11_most_51 rfl rfl ?_
          refine wz_getR (b := 1) dX11_most_52 (k0 hK) (f11_10 _ (by decide)) rfl ?_
          refine wz_getR (b := 3) dX11_most_55 (k1 hK) (f11_132 _ (by decide)) rfl ?_
          refine wp_iload_n (i := 1) dX11_most_58 rfl rfl ?_
          refine wp_iload_n (i := 2) dX11_most_59 rfl rfl ?_
          obtain ⟨z7, hv⟩ := hv
          refine wz_iastore dX11_most_60 (k3 hK) z7 ?_
          refine wp_iload_n (i := 3) dX11_most_61 rfl rfl ?_
          obtain ⟨rfl, rfl⟩ := hv
          exact wp_ireturn dX11_most_62 rfl rfl rfl hq
        · replace hv := hv.2 q
          refine wp_bipush (v := -2) dX11_most_38 (by decide) ?_
          obtain ⟨rfl, rfl⟩ := hv
          exact wp_ireturn dX11_most_40 rfl rfl rfl hq
    · replace hv := hv.2 q
      refine wp_ldc (v := -2000000000) dX11_most_18 q11_127 ?_
      obtain ⟨rfl, rfl⟩ := hv
      exact wp_ireturn dX11_most_20 rfl rfl rfl hq
theorem wX11_feed_0 {x1 : Int32} {x2 : Int32} (hK : StK K)  (hv : (∃ (v1 : Int32), Ev G d mX11_isWithin 0 [(0, .int x1), (1, .int (1 : Int32)), (2, .int (4 : Int32))] (K, n, V, J, O) (some (.int v1)) (K, n, V, J, O) ∧ ((v1 ≠ 0 → ((((V 0 3) + x1) ≤ (60 : Int32) → Ev G (d + 1) mX11_feed 27 [(0, .ref 0), (1, .int x1), (2, .int x2), (3, .int (0 : Int32))] (K, n, V, J, O) r (K, n, V', J, O)) ∧ (¬ ((V 0 3) + x1) ≤ (60 : Int32) → (r = some (.int (-3 : Int32)) ∧ V' = V)))) ∧ (v1 = 0 → (r = some (.int (-1 : Int32)) ∧ V' = V))))) : Ev G (d + 1) mX11_feed 0 [(0, .ref 0), (1, .int x1), (2, .int x2)] (K, n, V, J, O) r (K, n, V', J, O) := by
  refine Ev.mk fun Q hq => ?_
  refine wp_iload_n (i := 1) dX11_feed_0 rfl rfl ?_
  refine wp_iconst (v := 1) dX11_feed_1 (by decide) ?_
  refine wp_iconst (v := 4) dX11_feed_2 (by decide) ?_
  obtain ⟨v1, hE, hv⟩ := hv
  refine wz_callS (vs := [.int x1, .int (1 : Int32), .int (4 : Int32)]) (st := []) dX11_feed_3 k11_110 hE rfl (Nat.le_of_ble_eq_true rfl) (Nat.le_of_ble_eq_true rfl) ?_
  change wp _ _ _ _ _ [.int v1] _ _ _
  refine wp_if_ne 11 dX11_feed_6 (by decide) (fun q => ?_) (fun q => ?_)
  · replace hv := hv.1 q
    refine wp_aload_n (i := 0) dX11_feed_11 rfl rfl ?_
    refine wz_getI dX11_feed_12 (k0 hK) (f11_135 _ (by decide)) rfl ?_
    refine wp_iload_n (i := 1) dX11_feed_15 rfl rfl ?_
    refine wp_iadd dX11_feed_16 ?_
    refine wp_bipush (v := 60) dX11_feed_17 (by decide) ?_
    refine wp_icmp_le 25 dX11_feed_19 (by decide) (fun q => ?_) (fun q => ?_)
    · replace hv := hv.1 q
      refine wp_iconst (v := 0) dX11_feed_25 (by decide) ?_
      refine wx_istore_n (ls' := [(0, .ref 0), (1, .int x1), (2, .int x2), (3, .int (0 : Int32))]) (i := 3) dX11_feed_26 rfl (by decide) rfl ?_
      exact hv Q hq
    · replace hv := hv.2 q
      refine wp_bipush (v := -3) dX11_feed_22 (by decide) ?_
      obtain ⟨rfl, rfl⟩ := hv
      exact wp_ireturn dX11_feed_24 rfl rfl rfl hq
  · replace hv := hv.2 q
    refine wp_iconst (v := -1) dX11_feed_9 (by decide) ?_
    obtain ⟨rfl, rfl⟩ := hv
    exact wp_ireturn dX11_feed_10 rfl rfl rfl hq
theorem wX11_feed_27 {x1 : Int32} {x2 : Int32} {x3 : Int32} (hK : StK K)  (hv : ((x1 ≤ x3 → (r = some (.int (V 0 3)) ∧ V' = V)) ∧ (¬ x1 ≤ x3 → (vp_in (V 0 3) 60 ∧ Ev G (d + 1) mX11_feed 27 [(0, .ref 0), (1, .int x1), (2, .int x2), (3, .int (x3 + 1))] (K, n, (up2 (up2 V 31 ((V 0 3)).toNatClampNeg (((x2.toUInt32 >>> (((8 : Int32) * x3).toUInt32 &&& Int32.toUInt32 31)).toInt32) &&& (255 : Int32))) 0 3 ((V 0 3) + (1 : Int32))), J, O) r (K, n, V', J, O))))) : Ev G (d + 1) mX11_feed 27 [(0, .ref 0), (1, .int x1), (2, .int x2), (3, .int x3)] (K, n, V, J, O) r (K, n, V', J, O) := by
  refine Ev.mk fun Q hq => ?_
  refine wp_iload_n (i := 3) dX11_feed_27 rfl rfl ?_
  refine wp_iload_n (i := 1) dX11_feed_28 rfl rfl ?_
  refine wp_icmp_ge 67 dX11_feed_29 (by decide) (fun q => ?_) (fun q => ?_)
  · replace hv := hv.1 q
    refine wp_aload_n (i := 0) dX11_feed_67 rfl rfl ?_
    refine wz_getI dX11_feed_68 (k0 hK) (f11_135 _ (by decide)) rfl ?_
    obtain ⟨rfl, rfl⟩ := hv
    exact wp_ireturn dX11_feed_71 rfl rfl rfl hq
  · replace hv := hv.2 q
    refine wp_aload_n (i := 0) dX11_feed_32 rfl rfl ?_
    refine wz_getR (b := 31) dX11_feed_33 (k0 hK) (f11_23 _ (by decide)) rfl ?_
    refine wp_aload_n (i := 0) dX11_feed_36 rfl rfl ?_
    refine wz_getI dX11_feed_37 (k0 hK) (f11_135 _ (by decide)) rfl ?_
    refine wp_iload_n (i := 2) dX11_feed_40 rfl rfl ?_
    refine wp_bipush (v := 8) dX11_feed_41 (by decide) ?_
    refine wp_iload_n (i := 3) dX11_feed_43 rfl rfl ?_
    refine wp_imul dX11_feed_44 ?_
    refine wp_iushr dX11_feed_45 ?_
    refine wp_sipush (v := 255) dX11_feed_46 (by decide) ?_
    refine wp_iand dX11_feed_49 ?_
    obtain ⟨z1, hv⟩ := hv
    refine wz_iastore dX11_feed_50 (k31 hK) z1 ?_
    refine wp_aload_n (i := 0) dX11_feed_51 rfl rfl ?_
    refine wp_dupR dX11_feed_52 ?_
    refine wz_getIe (v := (V 0 3)) dX11_feed_53 (k0 hK) (f11_135 _ (by decide)) rfl (up2_a (by decide)) ?_
    refine wp_iconst (v := 1) dX11_feed_56 (by decide) ?_
    refine wp_iadd dX11_feed_57 ?_
    refine wz_putI dX11_feed_58 (k0 hK) (w11_135 _ (by decide)) rfl ?_
    refine wx_iinc (v := 1) (ls' := [(0, .ref 0), (1, .int x1), (2, .int x2), (3, .int (x3 + 1))]) dX11_feed_61 rfl (by decide) (by decide) rfl ?_
    refine wp_goto 27 dX11_feed_64 (by decide) ?_
    exact hv Q hq
theorem wX11_often_0 {x1 : Int32} {x2 : Int32} (hK : StK K)  (hv : (∃ r2 : Option Value, Ev G d mX11_askAt 0 [(0, .ref 0), (1, .int x1)] (K, n, V, J, O) r2 (K, n, V, J, O) ∧ ((r2 = some .null ∧ (r = some (.int (-1 : Int32)) ∧ V' = V)) ∨ ∃ b1 : Nat, r2 = some (.ref b1) ∧ IsAk K b1 ∧ (∃ (v4 : Int32), Ev G d mX11_isWithin 0 [(0, .int x2), (1, .int (0 : Int32)), (2, .int (99 : Int32))] (K, n, V, J, O) (some (.int v4)) (K, n, V, J, O) ∧ ((v4 ≠ 0 → (r = some (.int (V b1 0)) ∧ V' = (up2 V b1 0 x2))) ∧ (v4 = 0 → (r = some (.int (-1 : Int32)) ∧ V' = V))))))) : Ev G (d + 1) mX11_often 0 [(0, .ref 0), (1, .int x1), (2, .int x2)] (K, n, V, J, O) r (K, n, V', J, O) := by
  refine Ev.mk fun Q hq => ?_
  refine wp_aload_n (i := 0) dX11_often_0 rfl rfl ?_
  refine wp_iload_n (i := 1) dX11_often_1 rfl rfl ?_
  obtain ⟨r2, hE, hv⟩ := hv
  obtain ⟨rfl, hv⟩ | ⟨b1, rfl, q3, hv⟩ := hv
  · refine wz_callV (vs := [.int x1]) (st := []) dX11_often_2 (k0 hK) rfl k11_145_11 hE rfl (Nat.le_of_ble_eq_true rfl) (Nat.le_of_ble_eq_true rfl) ?_
    change wp _ _ _ _ _ [.null] _ _ _
    refine wx_astore_nN (ls' := [(0, .ref 0), (1, .int x1), (2, .int x2), (3, .null)]) (i := 3) dX11_often_5 rfl (by decide) rfl ?_
    refine wp_aload_nN (i := 3) dX11_often_6 rfl rfl ?_
    refine wp_ifnullN 20 dX11_often_7 (by decide) ?_
    refine wp_iconst (v := -1) dX11_often_20 (by decide) ?_
    obtain ⟨rfl, rfl⟩ := hv
    exact wp_ireturn dX11_often_21 rfl rfl rfl hq
  · refine wz_callV (vs := [.int x1]) (st := []) dX11_often_2 (k0 hK) rfl k11_145_11 hE rfl (Nat.le_of_ble_eq_true rfl) (Nat.le_of_ble_eq_true rfl) ?_
    change wp _ _ _ _ _ [.ref b1] _ _ _
    refine wx_astore_n (ls' := [(0, .ref 0), (1, .int x1), (2, .int x2), (3, .ref b1)]) (i := 3) dX11_often_5 rfl (by decide) rfl ?_
    refine wp_aload_n (i := 3) dX11_often_6 rfl rfl ?_
    refine wp_ifnullR dX11_often_7 ?_
    refine wp_iload_n (i := 2) dX11_often_10 rfl rfl ?_
    refine wp_iconst (v := 0) dX11_often_11 (by decide) ?_
    refine wp_bipush (v := 99) dX11_often_12 (by decide) ?_
    obtain ⟨v4, hE, hv⟩ := hv
    refine wz_callS (vs := [.int x2, .int (0 : Int32), .int (99 : Int32)]) (st := []) dX11_often_14 k11_110 hE rfl (Nat.le_of_ble_eq_true rfl) (Nat.le_of_ble_eq_true rfl) ?_
    change wp _ _ _ _ _ [.int v4] _ _ _
    refine wp_if_ne 22 dX11_often_17 (by decide) (fun q => ?_) (fun q => ?_)
    · replace hv := hv.1 q
      refine wp_aload_n (i := 3) dX11_often_22 rfl rfl ?_
      refine wz_getI dX11_often_23 (ak_0 q3) (f11_149 _ (by decide)) rfl ?_
      refine wx_istore (ls' := [(0, .ref 0), (1, .int x1), (2, .int x2), (3, .ref b1), (4, .int (V b1 0))]) dX11_often_26 (by decide) rfl ?_
      refine wp_aload_n (i := 3) dX11_often_28 rfl rfl ?_
      refine wp_iload_n (i := 2) dX11_often_29 rfl rfl ?_
      refine wz_putI dX11_often_30 (ak_0 q3) (w11_149 _ (by decide)) rfl ?_
      refine wp_iload dX11_often_33 rfl ?_
      obtain ⟨rfl, rfl⟩ := hv
      exact wp_ireturn dX11_often_35 rfl rfl rfl hq
    · replace hv := hv.2 q
      refine wp_iconst (v := -1) dX11_often_20 (by decide) ?_
      obtain ⟨rfl, rfl⟩ := hv
      exact wp_ireturn dX11_often_21 rfl rfl rfl hq
theorem wX11_answer_0 {x1 : Int32} {x2 : Int32} {x3 : Int32} (hK : StK K)  (hv : (∃ r2 : Option Value, Ev G d mX11_askAt 0 [(0, .ref 0), (1, .int x1)] (K, n, V, J, O) r2 (K, n, V, J, O) ∧ ((r2 = some .null ∧ (r = some (.int (-2000000000 : Int32)) ∧ V' = V)) ∨ ∃ b1 : Nat, r2 = some (.ref b1) ∧ IsAk K b1 ∧ (∃ (v4 : Int32), Ev G d mX11_isValue 0 [(0, .int x2)] (K, n, V, J, O) (some (.int v4)) (K, n, V, J, O) ∧ ((v4 = 0 → (r = some (.int (-2000000000 : Int32)) ∧ V' = V)) ∧ (¬ v4 = 0 → (∃ (v5 : Int32), Ev G d mX11_isValue 0 [(0, .int x3)] (K, n, V, J, O) (some (.int v5)) (K, n, V, J, O) ∧ ((v5 ≠ 0 → (∃ (v7 : Int32) (V6 : SV), Ev G d mX11_plainAnswer 0 [(0, .ref 0), (1, .ref b1), (2, .int x2), (3, .int x3)] (K, n, V, J, O) (some (.int v7)) (K, n, V6, J, O) ∧ (r = some (.int v7) ∧ V' = V6))) ∧ (v5 = 0 → (r = some (.int (-2000000000 : Int32)) ∧ V' = V)))))))))) : Ev G (d + 1) mX11_answer 0 [(0, .ref 0), (1, .int x1), (2, .int x2), (3, .int x3)] (K, n, V, J, O) r (K, n, V', J, O) := by
  refine Ev.mk fun Q hq => ?_
  refine wp_aload_n (i := 0) dX11_answer_0 rfl rfl ?_
  refine wp_iload_n (i := 1) dX11_answer_1 rfl rfl ?_
  obtain ⟨r2, hE, hv⟩ := hv
  obtain ⟨rfl, hv⟩ | ⟨b1, rfl, q3, hv⟩ := hv
  · refine wz_callV (vs := [.int x1]) (st := []) dX11_answer_2 (k0 hK) rfl k11_145_11 hE rfl (Nat.le_of_ble_eq_true rfl) (Nat.le_of_ble_eq_true rfl) ?_
    change wp _ _ _ _ _ [.null] _ _ _
    refine wx_astoreN (ls' := [(0, .ref 0), (1, .int x1), (2, .int x2), (3, .int x3), (4, .null)]) dX11_answer_5 (by decide) rfl ?_
    refine wp_aloadN dX11_answer_7 rfl ?_
    refine wp_ifnullN 26 dX11_answer_9 (by decide) ?_
    refine wp_ldc (v := -2000000000) dX11_answer_26 q11_127 ?_
    obtain ⟨rfl, rfl⟩ := hv
    exact wp_ireturn dX11_answer_28 rfl rfl rfl hq
  · refine wz_callV (vs := [.int x1]) (st := []) dX11_answer_2 (k0 hK) rfl k11_145_11 hE rfl (Nat.le_of_ble_eq_true rfl) (Nat.le_of_ble_eq_true rfl) ?_
    change wp _ _ _ _ _ [.ref b1] _ _ _
    refine wx_astore (ls' := [(0, .ref 0), (1, .int x1), (2, .int x2), (3, .int x3), (4, .ref b1)]) dX11_answer_5 (by decide) rfl ?_
    refine wp_aload dX11_answer_7 rfl ?_
    refine wp_ifnullR dX11_answer_9 ?_
    refine wp_iload_n (i := 2) dX11_answer_12 rfl rfl ?_
    obtain ⟨v4, hE, hv⟩ := hv
    refine wz_callS (vs := [.int x2]) (st := []) dX11_answer_13 k11_75 hE rfl (Nat.le_of_ble_eq_true rfl) (Nat.le_of_ble_eq_true rfl) ?_
    change wp _ _ _ _ _ [.int v4] _ _ _
    refine wp_if_eq 26 dX11_answer_16 (by decide) (fun q => ?_) (fun q => ?_)
    · replace hv := hv.1 q
      refine wp_ldc (v := -2000000000) dX11_answer_26 q11_127 ?_
      obtain ⟨rfl, rfl⟩ := hv
      exact wp_ireturn dX11_answer_28 rfl rfl rfl hq
    · replace hv := hv.2 q
      refine wp_iload_n (i := 3) dX11_answer_19 rfl rfl ?_
      obtain ⟨v5, hE, hv⟩ := hv
      refine wz_callS (vs := [.int x3]) (st := []) dX11_answer_20 k11_75 hE rfl (Nat.le_of_ble_eq_true rfl) (Nat.le_of_ble_eq_true rfl) ?_
      change wp _ _ _ _ _ [.int v5] _ _ _
      refine wp_if_ne 29 dX11_answer_23 (by decide) (fun q => ?_) (fun q => ?_)
      · replace hv := hv.1 q
        refine wp_aload_n (i := 0) dX11_answer_29 rfl rfl ?_
        refine wp_aload dX11_answer_30 rfl ?_
        refine wp_iload_n (i := 2) dX11_answer_32 rfl rfl ?_
        refine wp_iload_n (i := 3) dX11_answer_33 rfl rfl ?_
        obtain ⟨v7, V6, hE, hv⟩ := hv
        refine wz_callV (vs := [.ref b1, .int x2, .int x3]) (st := []) dX11_answer_34 (k0 hK) rfl k11_152_11 hE rfl (Nat.le_of_ble_eq_true rfl) (Nat.le_of_ble_eq_true rfl) ?_
        change wp _ _ _ _ _ [.int v7] _ _ _
        obtain ⟨rfl, rfl⟩ := hv
        exact wp_ireturn dX11_answer_37 rfl rfl rfl hq
      · replace hv := hv.2 q
        refine wp_ldc (v := -2000000000) dX11_answer_26 q11_127 ?_
        obtain ⟨rfl, rfl⟩ := hv
        exact wp_ireturn dX11_answer_28 rfl rfl rfl hq
theorem wX11_plainAnswer_0 {a1 : Nat} {x2 : Int32} {x3 : Int32} (hK : StK K) (hq1 : IsAk K a1) (hv : (∃ (V1 : SV), Ev G d mX0_begin 0 [(0, .ref a1), (1, .int x2), (2, .int x3)] (K, n, V, J, O) none (K, n, V1, J, O) ∧ Ev G (d + 1) mX11_plainAnswer 9 [(0, .ref 0), (1, .ref a1), (2, .int x2), (3, .int x3), (4, .int (0 : Int32))] (K, n, V1, J, O) r (K, n, V', J, O))) : Ev G (d + 1) mX11_plainAnswer 0 [(0, .ref 0), (1, .ref a1), (2, .int x2), (3, .int x3)] (K, n, V, J, O) r (K, n, V', J, O) := by
  refine Ev.mk fun Q hq => ?_
  refine wp_aload_n (i := 1) dX11_plainAnswer_0 rfl rfl ?_
  refine wp_iload_n (i := 2) dX11_plainAnswer_1 rfl rfl ?_
  refine wp_iload_n (i := 3) dX11_plainAnswer_2 rfl rfl ?_
  obtain ⟨V1, hE, hv⟩ := hv
  refine wz_callV (vs := [.int x2, .int x3]) (st := []) dX11_plainAnswer_3 (ak_0 hq1) rfl k11_156_0 hE rfl (Nat.le_of_ble_eq_true rfl) (Nat.le_of_ble_eq_true rfl) ?_
  change wp _ _ _ _ _ [] _ _ _
  refine wp_iconst (v := 0) dX11_plainAnswer_6 (by decide) ?_
  refine wx_istore (ls' := [(0, .ref 0), (1, .ref a1), (2, .int x2), (3, .int x3), (4, .int (0 : Int32))]) dX11_plainAnswer_7 (by decide) rfl ?_
  exact hv Q hq
theorem wX11_plainAnswer_9 {a1 : Nat} {x2 : Int32} {x3 : Int32} {x4 : Int32} (hK : StK K) (hq1 : IsAk K a1) (hv : (((V 1 2) ≤ x4 → (∃ (v1 : Int32), Ev G d mX0_result 0 [(0, .ref a1)] (K, n, V, J, O) (some (.int v1)) (K, n, V, J, O) ∧ (r = some (.int v1) ∧ V' = V))) ∧ (¬ (V 1 2) ≤ x4 → (∃ (v2 : Int32), Ev G d mX8_isIn 0 [(0, .ref 1), (1, .int x4)] (K, n, V, J, O) (some (.int v2)) (K, n, V, J, O) ∧ ((v2 = 0 → Ev G (d + 1) mX11_plainAnswer 9 [(0, .ref 0), (1, .ref a1), (2, .int x2), (3, .int x3), (4, .int (x4 + 1))] (K, n, V, J, O) r (K, n, V', J, O)) ∧ (¬ v2 = 0 → (∃ (V3 : SV), Ev G d mX0_see 0 [(0, .ref a1), (1, .ref 1), (2, .int x4)] (K, n, V, J, O) none (K, n, V3, J, O) ∧ Ev G (d + 1) mX11_plainAnswer 9 [(0, .ref 0), (1, .ref a1), (2, .int x2), (3, .int x3), (4, .int (x4 + 1))] (K, n, V3, J, O) r (K, n, V', J, O)))))))) : Ev G (d + 1) mX11_plainAnswer 9 [(0, .ref 0), (1, .ref a1), (2, .int x2), (3, .int x3), (4, .int x4)] (K, n, V, J, O) r (K, n, V', J, O) := by
  refine Ev.mk fun Q hq => ?_
  refine wp_iload dX11_plainAnswer_9 rfl ?_
  refine wp_aload_n (i := 0) dX11_plainAnswer_11 rfl rfl ?_
  refine wz_getR (b := 1) dX11_plainAnswer_12 (k0 hK) (f11_10 _ (by decide)) rfl ?_
  refine wz_getI dX11_plainAnswer_15 (k1 hK) (f11_83 _ (by decide)) rfl ?_
  refine wp_icmp_ge 49 dX11_plainAnswer_18 (by decide) (fun q => ?_) (fun q => ?_)
  · replace hv := hv.1 q
    refine wp_aload_n (i := 1) dX11_plainAnswer_49 rfl rfl ?_
    obtain ⟨v1, hE, hv⟩ := hv
    refine wz_callV (vs := []) (st := []) dX11_plainAnswer_50 (ak_0 hq1) rfl k11_164_0 hE rfl (Nat.le_of_ble_eq_true rfl) (Nat.le_of_ble_eq_true rfl) ?_
    change wp _ _ _ _ _ [.int v1] _ _ _
    obtain ⟨rfl, rfl⟩ := hv
    exact wp_ireturn dX11_plainAnswer_53 rfl rfl rfl hq
  · replace hv := hv.2 q
    refine wp_aload_n (i := 0) dX11_plainAnswer_21 rfl rfl ?_
    refine wz_getR (b := 1) dX11_plainAnswer_22 (k0 hK) (f11_10 _ (by decide)) rfl ?_
    refine wp_iload dX11_plainAnswer_25 rfl ?_
    obtain ⟨v2, hE, hv⟩ := hv
    refine wz_callV (vs := [.int x4]) (st := []) dX11_plainAnswer_27 (k1 hK) rfl k11_101_8 hE rfl (Nat.le_of_ble_eq_true rfl) (Nat.le_of_ble_eq_true rfl) ?_
    change wp _ _ _ _ _ [.int v2] _ _ _
    refine wp_if_eq 43 dX11_plainAnswer_30 (by decide) (fun q => ?_) (fun q => ?_)
    · replace hv := hv.1 q
      refine wx_iinc (v := 1) (ls' := [(0, .ref 0), (1, .ref a1), (2, .int x2), (3, .int x3), (4, .int (x4 + 1))]) dX11_plainAnswer_43 rfl (by decide) (by decide) rfl ?_
      refine wp_goto 9 dX11_plainAnswer_46 (by decide) ?_
      exact hv Q hq
    · replace hv := hv.2 q
      refine wp_aload_n (i := 1) dX11_plainAnswer_33 rfl rfl ?_
      refine wp_aload_n (i := 0) dX11_plainAnswer_34 rfl rfl ?_
      refine wz_getR (b := 1) dX11_plainAnswer_35 (k0 hK) (f11_10 _ (by decide)) rfl ?_
      refine wp_iload dX11_plainAnswer_38 rfl ?_
      obtain ⟨V3, hE, hv⟩ := hv
      refine wz_callV (vs := [.ref 1, .int x4]) (st := []) dX11_plainAnswer_40 (ak_0 hq1) rfl k11_160_0 hE rfl (Nat.le_of_ble_eq_true rfl) (Nat.le_of_ble_eq_true rfl) ?_
      change wp _ _ _ _ _ [] _ _ _
      refine wx_iinc (v := 1) (ls' := [(0, .ref 0), (1, .ref a1), (2, .int x2), (3, .int x3), (4, .int (x4 + 1))]) dX11_plainAnswer_43 rfl (by decide) (by decide) rfl ?_
      refine wp_goto 9 dX11_plainAnswer_46 (by decide) ?_
      exact hv Q hq
theorem wX11_ofStone_0 {x1 : Int32} {x2 : Int32} (hK : StK K)  (hv : (∃ r2 : Option Value, Ev G d mX11_stoneAt 0 [(0, .ref 0), (1, .int x1)] (K, n, V, J, O) r2 (K, n, V, J, O) ∧ ((r2 = some .null ∧ r = some (.int (-1 : Int32))) ∨ ∃ (b1 c3 y4 : Nat), r2 = some (.ref b1) ∧ IsSt K b1 c3 y4 ∧ c3 ∈ [1, 2, 3, 4, 5, 6, 7, 10] ∧ ((x2 = (0 : Int32) → (∃ M' : AM, vt11_202 c3 = some M' ∧ (∃ (v7 : Int32), Ev G d M' 0 [(0, .ref b1)] (K, n, V, J, O) (some (.int v7)) (K, n, V, J, O) ∧ r = some (.int v7)))) ∧ (x2 = (1 : Int32) → r = some (.int (V b1 2))) ∧ (x2 = (2 : Int32) → (∃ M' : AM, vt11_208 c3 = some M' ∧ (∃ (v8 : Int32), Ev G d M' 0 [(0, .ref b1)] (K, n, V, J, O) (some (.int v8)) (K, n, V, J, O) ∧ r = some (.int v8)))) ∧ (x2 = (3 : Int32) → r = some (.int (V b1 6))) ∧ (x2 = (4 : Int32) → r = some (.int (V b1 7))) ∧ ((¬ x2 = (0 : Int32) ∧ ¬ x2 = (1 : Int32) ∧ ¬ x2 = (2 : Int32) ∧ ¬ x2 = (3 : Int32) ∧ ¬ x2 = (4 : Int32)) → r = some (.int (-1 : Int32))))))) : Ev G (d + 1) mX11_ofStone 0 [(0, .ref 0), (1, .int x1), (2, .int x2)] (K, n, V, J, O) r (K, n, V, J, O) := by
  refine Ev.mk fun Q hq => ?_
  refine wp_aload_n (i := 0) dX11_ofStone_0 rfl rfl ?_
  refine wp_iload_n (i := 1) dX11_ofStone_1 rfl rfl ?_
  obtain ⟨r2, hE, hv⟩ := hv
  obtain ⟨rfl, hv⟩ | ⟨b1, c3, y4, rfl, h5, z6, hv⟩ := hv
  · refine wz_callV (vs := [.int x1]) (st := []) dX11_ofStone_2 (k0 hK) rfl k11_198_11 hE rfl (Nat.le_of_ble_eq_true rfl) (Nat.le_of_ble_eq_true rfl) ?_
    change wp _ _ _ _ _ [.null] _ _ _
    refine wx_astore_nN (ls' := [(0, .ref 0), (1, .int x1), (2, .int x2), (3, .null)]) (i := 3) dX11_ofStone_5 rfl (by decide) rfl ?_
    refine wp_aload_nN (i := 3) dX11_ofStone_6 rfl rfl ?_
    refine wp_ifnonnullN dX11_ofStone_7 ?_
    refine wp_iconst (v := -1) dX11_ofStone_10 (by decide) ?_
    obtain rfl := hv
    exact wp_ireturn dX11_ofStone_11 rfl rfl rfl hq
  · refine wz_callV (vs := [.int x1]) (st := []) dX11_ofStone_2 (k0 hK) rfl k11_198_11 hE rfl (Nat.le_of_ble_eq_true rfl) (Nat.le_of_ble_eq_true rfl) ?_
    change wp _ _ _ _ _ [.ref b1] _ _ _
    refine wx_astore_n (ls' := [(0, .ref 0), (1, .int x1), (2, .int x2), (3, .ref b1)]) (i := 3) dX11_ofStone_5 rfl (by decide) rfl ?_
    refine wp_aload_n (i := 3) dX11_ofStone_6 rfl rfl ?_
    refine wp_ifnonnullR 12 dX11_ofStone_7 (by decide) ?_
    refine wp_iload_n (i := 2) dX11_ofStone_12 rfl rfl ?_
    by_cases q0 : x2 = (0 : Int32)
    · refine wx_tableIn (off := 35) (0 : Int32) q0 48 dX11_ofStone_13 (by decide) (by decide) (by decide +kernel) (by decide) ?_
      replace hv := hv.1 q0
      refine wp_aload_n (i := 3) dX11_ofStone_48 rfl rfl ?_
      obtain ⟨M', hM, hv⟩ := hv
      obtain ⟨v7, hE, hv⟩ := hv
      refine wz_callX (vs := []) (st := []) dX11_ofStone_49 (st_0 h5) (kx11_202 hM).1 hE rfl (kx11_202 hM).2 (Nat.le_of_ble_eq_true rfl) ?_
      change wp _ _ _ _ _ [.int v7] _ _ _
      obtain rfl := hv
      exact wp_ireturn dX11_ofStone_52 rfl rfl rfl hq
    by_cases q1 : x2 = (1 : Int32)
    · refine wx_tableIn (off := 40) (1 : Int32) q1 53 dX11_ofStone_13 (by decide) (by decide) (by decide +kernel) (by decide) ?_
      replace hv := hv.2.1 q1
      refine wp_aload_n (i := 3) dX11_ofStone_53 rfl rfl ?_
      refine wz_getI dX11_ofStone_54 (st_0 h5) (f11_205 _ z6) rfl ?_
      obtain rfl := hv
      exact wp_ireturn dX11_ofStone_57 rfl rfl rfl hq
    by_cases q2 : x2 = (2 : Int32)
    · refine wx_tableIn (off := 45) (2 : Int32) q2 58 dX11_ofStone_13 (by decide) (by decide) (by decide +kernel) (by decide) ?_
      replace hv := hv.2.2.1 q2
      refine wp_aload_n (i := 3) dX11_ofStone_58 rfl rfl ?_
      obtain ⟨M', hM, hv⟩ := hv
      obtain ⟨v8, hE, hv⟩ := hv
      refine wz_callX (vs := []) (st := []) dX11_ofStone_59 (st_0 h5) (kx11_208 hM).1 hE rfl (kx11_208 hM).2 (Nat.le_of_ble_eq_true rfl) ?_
      change wp _ _ _ _ _ [.int v8] _ _ _
      obtain rfl := hv
      exact wp_ireturn dX11_ofStone_62 rfl rfl rfl hq
    by_cases q3 : x2 = (3 : Int32)
    · refine wx_tableIn (off := 50) (3 : Int32) q3 63 dX11_ofStone_13 (by decide) (by decide) (by decide +kernel) (by decide) ?_
      replace hv := hv.2.2.2.1 q3
      refine wp_aload_n (i := 3) dX11_ofStone_63 rfl rfl ?_
      refine wz_getI dX11_ofStone_64 (st_0 h5) (f11_211 _ z6) rfl ?_
      obtain rfl := hv
      exact wp_ireturn dX11_ofStone_67 rfl rfl rfl hq
    by_cases q4 : x2 = (4 : Int32)
    · refine wx_tableIn (off := 55) (4 : Int32) q4 68 dX11_ofStone_13 (by decide) (by decide) (by decide +kernel) (by decide) ?_
      replace hv := hv.2.2.2.2.1 q4
      refine wp_aload_n (i := 3) dX11_ofStone_68 rfl rfl ?_
      refine wz_getI dX11_ofStone_69 (st_0 h5) (f11_214 _ z6) rfl ?_
      obtain rfl := hv
      exact wp_ireturn dX11_ofStone_72 rfl rfl rfl hq
    refine wp_tableOut 73 dX11_ofStone_13 (by have n0 := lv_neT q0 (show ((0 : Int32)).toInt = 0 by decide); have n1 := lv_neT q1 (show ((1 : Int32)).toInt = 1 by decide); have n2 := lv_neT q2 (show ((2 : Int32)).toInt = 2 by decide); have n3 := lv_neT q3 (show ((3 : Int32)).toInt = 3 by decide); have n4 := lv_neT q4 (show ((4 : Int32)).toInt = 4 by decide); omega) (by decide) ?_
    replace hv := hv.2.2.2.2.2 ⟨q0, q1, q2, q3, q4⟩
    refine wp_iconst (v := -1) dX11_ofStone_73 (by decide) ?_
    obtain rfl := hv
    exact wp_ireturn dX11_ofStone_74 rfl rfl rfl hq
theorem wX11_nameAt_0 {x1 : Int32} {x2 : Int32} (hK : StK K)  (hv : (∃ r2 : Option Value, Ev G d mX11_stoneAt 0 [(0, .ref 0), (1, .int x1)] (K, n, V, J, O) r2 (K, n, V, J, O) ∧ ((r2 = some .null ∧ (r = some (.int (-1 : Int32)) ∧ V' = V)) ∨ ∃ (b1 c3 y4 : Nat), r2 = some (.ref b1) ∧ IsSt K b1 c3 y4 ∧ c3 ∈ [1, 2, 3, 4, 5, 6, 7, 10] ∧ (∃ M' : AM, vt11_217 c3 = some M' ∧ (∃ (v8 : Int32) (V7 : SV), Ev G d M' 0 [(0, .ref b1), (1, .int x2)] (K, n, V, J, O) (some (.int v8)) (K, n, V7, J, O) ∧ (r = some (.int v8) ∧ V' = V7)))))) : Ev G (d + 1) mX11_nameAt 0 [(0, .ref 0), (1, .int x1), (2, .int x2)] (K, n, V, J, O) r (K, n, V', J, O) := by
  refine Ev.mk fun Q hq => ?_
  refine wp_aload_n (i := 0) dX11_nameAt_0 rfl rfl ?_
  refine wp_iload_n (i := 1) dX11_nameAt_1 rfl rfl ?_
  obtain ⟨r2, hE, hv⟩ := hv
  obtain ⟨rfl, hv⟩ | ⟨b1, c3, y4, rfl, h5, z6, hv⟩ := hv
  · refine wz_callV (vs := [.int x1]) (st := []) dX11_nameAt_2 (k0 hK) rfl k11_198_11 hE rfl (Nat.le_of_ble_eq_true rfl) (Nat.le_of_ble_eq_true rfl) ?_
    change wp _ _ _ _ _ [.null] _ _ _
    refine wx_astore_nN (ls' := [(0, .ref 0), (1, .int x1), (2, .int x2), (3, .null)]) (i := 3) dX11_nameAt_5 rfl (by decide) rfl ?_
    refine wp_aload_nN (i := 3) dX11_nameAt_6 rfl rfl ?_
    refine wp_ifnonnullN dX11_nameAt_7 ?_
    refine wp_iconst (v := -1) dX11_nameAt_10 (by decide) ?_
    refine wp_goto 19 dX11_nameAt_11 (by decide) ?_
    obtain ⟨rfl, rfl⟩ := hv
    exact wp_ireturn dX11_nameAt_19 rfl rfl rfl hq
  · refine wz_callV (vs := [.int x1]) (st := []) dX11_nameAt_2 (k0 hK) rfl k11_198_11 hE rfl (Nat.le_of_ble_eq_true rfl) (Nat.le_of_ble_eq_true rfl) ?_
    change wp _ _ _ _ _ [.ref b1] _ _ _
    refine wx_astore_n (ls' := [(0, .ref 0), (1, .int x1), (2, .int x2), (3, .ref b1)]) (i := 3) dX11_nameAt_5 rfl (by decide) rfl ?_
    refine wp_aload_n (i := 3) dX11_nameAt_6 rfl rfl ?_
    refine wp_ifnonnullR 14 dX11_nameAt_7 (by decide) ?_
    refine wp_aload_n (i := 3) dX11_nameAt_14 rfl rfl ?_
    refine wp_iload_n (i := 2) dX11_nameAt_15 rfl rfl ?_
    obtain ⟨M', hM, hv⟩ := hv
    obtain ⟨v8, V7, hE, hv⟩ := hv
    refine wz_callX (vs := [.int x2]) (st := []) dX11_nameAt_16 (st_0 h5) (kx11_217 hM).1 hE rfl (kx11_217 hM).2 (Nat.le_of_ble_eq_true rfl) ?_
    change wp _ _ _ _ _ [.int v8] _ _ _
    obtain ⟨rfl, rfl⟩ := hv
    exact wp_ireturn dX11_nameAt_19 rfl rfl rfl hq
theorem wX11_through_0 {x1 : Int32} {x2 : Int32} {x3 : Int32} {x4 : Int32} (hK : StK K)  (hv : (∃ r2 : Option Value, Ev G d mX11_stoneAt 0 [(0, .ref 0), (1, .int x1)] (K, n, V, J, O) r2 (K, n, V, J, O) ∧ ((r2 = some .null ∧ (∃ r4 : Option Value, Ev G d mX11_askAt 0 [(0, .ref 0), (1, .int x2)] (K, n, V, J, O) r4 (K, n, V, J, O) ∧ ((r4 = some .null ∧ (r = some (.int (-2000000000 : Int32)) ∧ V' = V)) ∨ ∃ b3 : Nat, r4 = some (.ref b3) ∧ IsAk K b3 ∧ (r = some (.int (-2000000000 : Int32)) ∧ V' = V)))) ∨ ∃ (b1 c6 y7 : Nat), r2 = some (.ref b1) ∧ IsSt K b1 c6 y7 ∧ c6 ∈ [1, 2, 3, 4, 5, 6, 7, 10] ∧ (∃ r11 : Option Value, Ev G d mX11_askAt 0 [(0, .ref 0), (1, .int x2)] (K, n, V, J, O) r11 (K, n, V, J, O) ∧ ((r11 = some .null ∧ (r = some (.int (-2000000000 : Int32)) ∧ V' = V)) ∨ ∃ b10 : Nat, r11 = some (.ref b10) ∧ IsAk K b10 ∧ (∃ (v13 : Int32), Ev G d mX11_isValue 0 [(0, .int x3)] (K, n, V, J, O) (some (.int v13)) (K, n, V, J, O) ∧ ((v13 = 0 → (r = some (.int (-2000000000 : Int32)) ∧ V' = V)) ∧ (¬ v13 = 0 → (∃ (v14 : Int32), Ev G d mX11_isValue 0 [(0, .int x4)] (K, n, V, J, O) (some (.int v14)) (K, n, V, J, O) ∧ ((v14 ≠ 0 → (∃ (v16 : Int32) (V15 : SV), Ev G d mX11_answerThrough 0 [(0, .ref b1), (1, .ref b10), (2, .int x3), (3, .int x4)] (K, n, V, J, O) (some (.int v16)) (K, n, V15, J, O) ∧ ((v16 = (-2 : Int32) → (r = some (.int v16) ∧ V' = V15)) ∧ (¬ v16 = (-2 : Int32) → (r = some (.int v16) ∧ V' = (up2 V15 0 8 (V15 b1 8))))))) ∧ (v14 = 0 → (r = some (.int (-2000000000 : Int32)) ∧ V' = V)))))))))))) : Ev G (d + 1) mX11_through 0 [(0, .ref 0), (1, .int x1), (2, .int x2), (3, .int x3), (4, .int x4)] (K, n, V, J, O) r (K, n, V', J, O) := by
  refine Ev.mk fun Q hq => ?_
  refine wp_aload_n (i := 0) dX11_through_0 rfl rfl ?_
  refine wp_iload_n (i := 1) dX11_through_1 rfl rfl ?_
  obtain ⟨r2, hE, hv⟩ := hv
  obtain ⟨rfl, hv⟩ | ⟨b1, c6, y7, rfl, h8, z9, hv⟩ := hv
  · refine wz_callV (vs := [.int x1]) (st := []) dX11_through_2 (k0 hK) rfl k11_198_11 hE rfl (Nat.le_of_ble_eq_true rfl) (Nat.le_of_ble_eq_true rfl) ?_
    change wp _ _ _ _ _ [.null] _ _ _
    refine wx_astoreN (ls' := [(0, .ref 0), (1, .int x1), (2, .int x2), (3, .int x3), (4, .int x4), (5, .null)]) dX11_through_5 (by decide) rfl ?_
    refine wp_aload_n (i := 0) dX11_through_7 rfl rfl ?_
    refine wp_iload_n (i := 2) dX11_through_8 rfl rfl ?_
    obtain ⟨r4, hE, hv⟩ := hv
    obtain ⟨rfl, hv⟩ | ⟨b3, rfl, q5, hv⟩ := hv
    · refine wz_callV (vs := [.int x2]) (st := []) dX11_through_9 (k0 hK) rfl k11_145_11 hE rfl (Nat.le_of_ble_eq_true rfl) (Nat.le_of_ble_eq_true rfl) ?_
      change wp _ _ _ _ _ [.null] _ _ _
      refine wx_astoreN (ls' := [(0, .ref 0), (1, .int x1), (2, .int x2), (3, .int x3), (4, .int x4), (5, .null), (6, .null)]) dX11_through_12 (by decide) rfl ?_
      refine wp_aloadN dX11_through_14 rfl ?_
      refine wp_ifnullN 39 dX11_through_16 (by decide) ?_
      refine wp_ldc (v := -2000000000) dX11_through_39 q11_127 ?_
      obtain ⟨rfl, rfl⟩ := hv
      exact wp_ireturn dX11_through_41 rfl rfl rfl hq
    · refine wz_callV (vs := [.int x2]) (st := []) dX11_through_9 (k0 hK) rfl k11_145_11 hE rfl (Nat.le_of_ble_eq_true rfl) (Nat.le_of_ble_eq_true rfl) ?_
      change wp _ _ _ _ _ [.ref b3] _ _ _
      refine wx_astore (ls' := [(0, .ref 0), (1, .int x1), (2, .int x2), (3, .int x3), (4, .int x4), (5, .null), (6, .ref b3)]) dX11_through_12 (by decide) rfl ?_
      refine wp_aloadN dX11_through_14 rfl ?_
      refine wp_ifnullN 39 dX11_through_16 (by decide) ?_
      refine wp_ldc (v := -2000000000) dX11_through_39 q11_127 ?_
      obtain ⟨rfl, rfl⟩ := hv
      exact wp_ireturn dX11_through_41 rfl rfl rfl hq
  · refine wz_callV (vs := [.int x1]) (st := []) dX11_through_2 (k0 hK) rfl k11_198_11 hE rfl (Nat.le_of_ble_eq_true rfl) (Nat.le_of_ble_eq_true rfl) ?_
    change wp _ _ _ _ _ [.ref b1] _ _ _
    refine wx_astore (ls' := [(0, .ref 0), (1, .int x1), (2, .int x2), (3, .int x3), (4, .int x4), (5, .ref b1)]) dX11_through_5 (by decide) rfl ?_
    refine wp_aload_n (i := 0) dX11_through_7 rfl rfl ?_
    refine wp_iload_n (i := 2) dX11_through_8 rfl rfl ?_
    obtain ⟨r11, hE, hv⟩ := hv
    obtain ⟨rfl, hv⟩ | ⟨b10, rfl, q12, hv⟩ := hv
    · refine wz_callV (vs := [.int x2]) (st := []) dX11_through_9 (k0 hK) rfl k11_145_11 hE rfl (Nat.le_of_ble_eq_true rfl) (Nat.le_of_ble_eq_true rfl) ?_
      change wp _ _ _ _ _ [.null] _ _ _
      refine wx_astoreN (ls' := [(0, .ref 0), (1, .int x1), (2, .int x2), (3, .int x3), (4, .int x4), (5, .ref b1), (6, .null)]) dX11_through_12 (by decide) rfl ?_
      refine wp_aload dX11_through_14 rfl ?_
      refine wp_ifnullR dX11_through_16 ?_
      refine wp_aloadN dX11_through_19 rfl ?_
      refine wp_ifnullN 39 dX11_through_21 (by decide) ?_
      refine wp_ldc (v := -2000000000) dX11_through_39 q11_127 ?_
      obtain ⟨rfl, rfl⟩ := hv
      exact wp_ireturn dX11_through_41 rfl rfl rfl hq
    · refine wz_callV (vs := [.int x2]) (st := []) dX11_through_9 (k0 hK) rfl k11_145_11 hE rfl (Nat.le_of_ble_eq_true rfl) (Nat.le_of_ble_eq_true rfl) ?_
      change wp _ _ _ _ _ [.ref b10] _ _ _
      refine wx_astore (ls' := [(0, .ref 0), (1, .int x1), (2, .int x2), (3, .int x3), (4, .int x4), (5, .ref b1), (6, .ref b10)]) dX11_through_12 (by decide) rfl ?_
      refine wp_aload dX11_through_14 rfl ?_
      refine wp_ifnullR dX11_through_16 ?_
      refine wp_aload dX11_through_19 rfl ?_
      refine wp_ifnullR dX11_through_21 ?_
      refine wp_iload_n (i := 3) dX11_through_24 rfl rfl ?_
      obtain ⟨v13, hE, hv⟩ := hv
      refine wz_callS (vs := [.int x3]) (st := []) dX11_through_25 k11_75 hE rfl (Nat.le_of_ble_eq_true rfl) (Nat.le_of_ble_eq_true rfl) ?_
      change wp _ _ _ _ _ [.int v13] _ _ _
      refine wp_if_eq 39 dX11_through_28 (by decide) (fun q => ?_) (fun q => ?_)
      · replace hv := hv.1 q
        refine wp_ldc (v := -2000000000) dX11_through_39 q11_127 ?_
        obtain ⟨rfl, rfl⟩ := hv
        exact wp_ireturn dX11_through_41 rfl rfl rfl hq
      · replace hv := hv.2 q
        refine wp_iload dX11_through_31 rfl ?_
        obtain ⟨v14, hE, hv⟩ := hv
        refine wz_callS (vs := [.int x4]) (st := []) dX11_through_33 k11_75 hE rfl (Nat.le_of_ble_eq_true rfl) (Nat.le_of_ble_eq_true rfl) ?_
        change wp _ _ _ _ _ [.int v14] _ _ _
        refine wp_if_ne 42 dX11_through_36 (by decide) (fun q => ?_) (fun q => ?_)
        · replace hv := hv.1 q
          refine wp_aload dX11_through_42 rfl ?_
          refine wp_aload dX11_through_44 rfl ?_
          refine wp_iload_n (i := 3) dX11_through_46 rfl rfl ?_
          refine wp_iload dX11_through_47 rfl ?_
          obtain ⟨v16, V15, hE, hv⟩ := hv
          refine wz_callS (vs := [.ref b1, .ref b10, .int x3, .int x4]) (st := []) dX11_through_49 k11_220 hE rfl (Nat.le_of_ble_eq_true rfl) (Nat.le_of_ble_eq_true rfl) ?_
          change wp _ _ _ _ _ [.int v16] _ _ _
          refine wx_istore (ls' := [(0, .ref 0), (1, .int x1), (2, .int x2), (3, .int x3), (4, .int x4), (5, .ref b1), (6, .ref b10), (7, .int v16)]) dX11_through_52 (by decide) rfl ?_
          refine wp_iload dX11_through_54 rfl ?_
          refine wp_bipush (v := -2) dX11_through_56 (by decide) ?_
          refine wp_icmp_eq 70 dX11_through_58 (by decide) (fun q => ?_) (fun q => ?_)
          · replace hv := hv.1 q
            refine wp_iload dX11_through_70 rfl ?_
            obtain ⟨rfl, rfl⟩ := hv
            exact wp_ireturn dX11_through_72 rfl rfl rfl hq
          · replace hv := hv.2 q
            refine wp_aload_n (i := 0) dX11_through_61 rfl rfl ?_
            refine wp_aload dX11_through_62 rfl ?_
            refine wz_getI dX11_through_64 (st_0 h8) (f11_224 _ z9) rfl ?_
            refine wz_putI dX11_through_67 (k0 hK) (w11_227 _ (by decide)) rfl ?_
            refine wp_iload dX11_through_70 rfl ?_
            obtain ⟨rfl, rfl⟩ := hv
            exact wp_ireturn dX11_through_72 rfl rfl rfl hq
        · replace hv := hv.2 q
          refine wp_ldc (v := -2000000000) dX11_through_39 q11_127 ?_
          obtain ⟨rfl, rfl⟩ := hv
          exact wp_ireturn dX11_through_41 rfl rfl rfl hq
theorem wX11_answerThrough_0 {a0 : Nat} {ci0 ky0 : Nat} {a1 : Nat} {x2 : Int32} {x3 : Int32} (hK : StK K) (ha0 : IsSt K a0 ci0 ky0) (hc0 : ci0 ∈ [1, 2, 3, 4, 5, 6, 7, 10]) (hq1 : IsAk K a1) (hv : (∃ (V1 : SV), Ev G d mX0_begin 0 [(0, .ref a1), (1, .int x2), (2, .int x3)] (K, n, V, J, O) none (K, n, V1, J, O) ∧ (∃ M' : AM, vt11_230 ci0 = some M' ∧ (∃ (v3 : Int32) (V2 : SV), Ev G d M' 0 [(0, .ref a0), (1, .ref a1)] (K, n, (up2 V1 a0 8 (0 : Int32)), J, O) (some (.int v3)) (K, n, V2, J, O) ∧ (r = some (.int v3) ∧ V' = V2))))) : Ev G (d + 1) mX11_answerThrough 0 [(0, .ref a0), (1, .ref a1), (2, .int x2), (3, .int x3)] (K, n, V, J, O) r (K, n, V', J, O) := by
  refine Ev.mk fun Q hq => ?_
  refine wp_aload_n (i := 1) dX11_answerThrough_0 rfl rfl ?_
  refine wp_iload_n (i := 2) dX11_answerThrough_1 rfl rfl ?_
  refine wp_iload_n (i := 3) dX11_answerThrough_2 rfl rfl ?_
  obtain ⟨V1, hE, hv⟩ := hv
  refine wz_callV (vs := [.int x2, .int x3]) (st := []) dX11_answerThrough_3 (ak_0 hq1) rfl k11_156_0 hE rfl (Nat.le_of_ble_eq_true rfl) (Nat.le_of_ble_eq_true rfl) ?_
  change wp _ _ _ _ _ [] _ _ _
  refine wp_aload_n (i := 0) dX11_answerThrough_6 rfl rfl ?_
  refine wp_iconst (v := 0) dX11_answerThrough_7 (by decide) ?_
  refine wz_putI dX11_answerThrough_8 (st_0 ha0) (w11_224 _ hc0) rfl ?_
  refine wp_aload_n (i := 0) dX11_answerThrough_11 rfl rfl ?_
  refine wp_aload_n (i := 1) dX11_answerThrough_12 rfl rfl ?_
  obtain ⟨M', hM, hv⟩ := hv
  obtain ⟨v3, V2, hE, hv⟩ := hv
  refine wz_callX (vs := [.ref a1]) (st := []) dX11_answerThrough_13 (st_0 ha0) (kx11_230 hM).1 hE rfl (kx11_230 hM).2 (Nat.le_of_ble_eq_true rfl) ?_
  change wp _ _ _ _ _ [.int v3] _ _ _
  obtain ⟨rfl, rfl⟩ := hv
  exact wp_ireturn dX11_answerThrough_16 rfl rfl rfl hq
theorem wX11_looks_0  (hK : StK K)  (hv : r = some (.int (V 0 8))) : Ev G d mX11_looks 0 [(0, .ref 0)] (K, n, V, J, O) r (K, n, V, J, O) := by
  refine Ev.mk fun Q hq => ?_
  refine wp_aload_n (i := 0) dX11_looks_0 rfl rfl ?_
  refine wz_getI dX11_looks_1 (k0 hK) (f11_227 _ (by decide)) rfl ?_
  obtain rfl := hv
  exact wp_ireturn dX11_looks_4 rfl rfl rfl hq
theorem wX11_firstUnlike_0 {x1 : Int32} {x2 : Int32} {x3 : Int32} (hK : StK K)  (hv : (∃ r2 : Option Value, Ev G d mX11_askAt 0 [(0, .ref 0), (1, .int x1)] (K, n, V, J, O) r2 (K, n, V, J, O) ∧ ((r2 = some .null ∧ (r = some (.int (-1 : Int32)) ∧ V' = V)) ∨ ∃ b1 : Nat, r2 = some (.ref b1) ∧ IsAk K b1 ∧ (∃ (v4 : Int32), Ev G d mX11_isValue 0 [(0, .int x2)] (K, n, V, J, O) (some (.int v4)) (K, n, V, J, O) ∧ ((v4 = 0 → (r = some (.int (-1 : Int32)) ∧ V' = V)) ∧ (¬ v4 = 0 → (∃ (v5 : Int32), Ev G d mX11_isValue 0 [(0, .int x3)] (K, n, V, J, O) (some (.int v5)) (K, n, V, J, O) ∧ ((v5 ≠ 0 → (∃ (v7 : Int32) (V6 : SV), Ev G d mX11_plainAnswer 0 [(0, .ref 0), (1, .ref b1), (2, .int x2), (3, .int x3)] (K, n, V, J, O) (some (.int v7)) (K, n, V6, J, O) ∧ Ev G (d + 1) mX11_firstUnlike 41 [(0, .ref 0), (1, .int x1), (2, .int x2), (3, .int x3), (4, .ref b1), (5, .int v7), (6, .int (0 : Int32))] (K, n, V6, J, O) r (K, n, V', J, O))) ∧ (v5 = 0 → (r = some (.int (-1 : Int32)) ∧ V' = V)))))))))) : Ev G (d + 1) mX11_firstUnlike 0 [(0, .ref 0), (1, .int x1), (2, .int x2), (3, .int x3)] (K, n, V, J, O) r (K, n, V', J, O) := by
  refine Ev.mk fun Q hq => ?_
  refine wp_aload_n (i := 0) dX11_firstUnlike_0 rfl rfl ?_
  refine wp_iload_n (i := 1) dX11_firstUnlike_1 rfl rfl ?_
  obtain ⟨r2, hE, hv⟩ := hv
  obtain ⟨rfl, hv⟩ | ⟨b1, rfl, q3, hv⟩ := hv
  · refine wz_callV (vs := [.int x1]) (st := []) dX11_firstUnlike_2 (k0 hK) rfl k11_145_11 hE rfl (Nat.le_of_ble_eq_true rfl) (Nat.le_of_ble_eq_true rfl) ?_
    change wp _ _ _ _ _ [.null] _ _ _
    refine wx_astoreN (ls' := [(0, .ref 0), (1, .int x1), (2, .int x2), (3, .int x3), (4, .null)]) dX11_firstUnlike_5 (by decide) rfl ?_
    refine wp_aloadN dX11_firstUnlike_7 rfl ?_
    refine wp_ifnullN 26 dX11_firstUnlike_9 (by decide) ?_
    refine wp_iconst (v := -1) dX11_firstUnlike_26 (by decide) ?_
    obtain ⟨rfl, rfl⟩ := hv
    exact wp_ireturn dX11_firstUnlike_27 rfl rfl rfl hq
  · refine wz_callV (vs := [.int x1]) (st := []) dX11_firstUnlike_2 (k0 hK) rfl k11_145_11 hE rfl (Nat.le_of_ble_eq_true rfl) (Nat.le_of_ble_eq_true rfl) ?_
    change wp _ _ _ _ _ [.ref b1] _ _ _
    refine wx_astore (ls' := [(0, .ref 0), (1, .int x1), (2, .int x2), (3, .int x3), (4, .ref b1)]) dX11_firstUnlike_5 (by decide) rfl ?_
    refine wp_aload dX11_firstUnlike_7 rfl ?_
    refine wp_ifnullR dX11_firstUnlike_9 ?_
    refine wp_iload_n (i := 2) dX11_firstUnlike_12 rfl rfl ?_
    obtain ⟨v4, hE, hv⟩ := hv
    refine wz_callS (vs := [.int x2]) (st := []) dX11_firstUnlike_13 k11_75 hE rfl (Nat.le_of_ble_eq_true rfl) (Nat.le_of_ble_eq_true rfl) ?_
    change wp _ _ _ _ _ [.int v4] _ _ _
    refine wp_if_eq 26 dX11_firstUnlike_16 (by decide) (fun q => ?_) (fun q => ?_)
    · replace hv := hv.1 q
      refine wp_iconst (v := -1) dX11_firstUnlike_26 (by decide) ?_
      obtain ⟨rfl, rfl⟩ := hv
      exact wp_ireturn dX11_firstUnlike_27 rfl rfl rfl hq
    · replace hv := hv.2 q
      refine wp_iload_n (i := 3) dX11_firstUnlike_19 rfl rfl ?_
      obtain ⟨v5, hE, hv⟩ := hv
      refine wz_callS (vs := [.int x3]) (st := []) dX11_firstUnlike_20 k11_75 hE rfl (Nat.le_of_ble_eq_true rfl) (Nat.le_of_ble_eq_true rfl) ?_
      change wp _ _ _ _ _ [.int v5] _ _ _
      refine wp_if_ne 28 dX11_firstUnlike_23 (by decide) (fun q => ?_) (fun q => ?_)
      · replace hv := hv.1 q
        refine wp_aload_n (i := 0) dX11_firstUnlike_28 rfl rfl ?_
        refine wp_aload dX11_firstUnlike_29 rfl ?_
        refine wp_iload_n (i := 2) dX11_firstUnlike_31 rfl rfl ?_
        refine wp_iload_n (i := 3) dX11_firstUnlike_32 rfl rfl ?_
        obtain ⟨v7, V6, hE, hv⟩ := hv
        refine wz_callV (vs := [.ref b1, .int x2, .int x3]) (st := []) dX11_firstUnlike_33 (k0 hK) rfl k11_152_11 hE rfl (Nat.le_of_ble_eq_true rfl) (Nat.le_of_ble_eq_true rfl) ?_
        change wp _ _ _ _ _ [.int v7] _ _ _
        refine wx_istore (ls' := [(0, .ref 0), (1, .int x1), (2, .int x2), (3, .int x3), (4, .ref b1), (5, .int v7)]) dX11_firstUnlike_36 (by decide) rfl ?_
        refine wp_iconst (v := 0) dX11_firstUnlike_38 (by decide) ?_
        refine wx_istore (ls' := [(0, .ref 0), (1, .int x1), (2, .int x2), (3, .int x3), (4, .ref b1), (5, .int v7), (6, .int (0 : Int32))]) dX11_firstUnlike_39 (by decide) rfl ?_
        exact hv Q hq
      · replace hv := hv.2 q
        refine wp_iconst (v := -1) dX11_firstUnlike_26 (by decide) ?_
        obtain ⟨rfl, rfl⟩ := hv
        exact wp_ireturn dX11_firstUnlike_27 rfl rfl rfl hq
theorem wX11_firstUnlike_41 {x1 : Int32} {x2 : Int32} {x3 : Int32} {a4 : Nat} {x5 : Int32} {x6 : Int32} (hK : StK K) (hq4 : IsAk K a4) (hv : (((V 0 7) ≤ x6 → (r = some (.int (-2 : Int32)) ∧ V' = V)) ∧ (¬ (V 0 7) ≤ x6 → (vp_in x6 10 ∧ ∃ (b2 c3 y4 : Nat), O 33 (x6).toNatClampNeg = some b2 ∧ IsSt K b2 c3 y4 ∧ c3 ∈ [1, 2, 3, 4, 5, 6, 7, 10] ∧ (∃ (v8 : Int32) (V7 : SV), Ev G d mX11_answerThrough 0 [(0, .ref b2), (1, .ref a4), (2, .int x2), (3, .int x3)] (K, n, V, J, O) (some (.int v8)) (K, n, V7, J, O) ∧ ((v8 = (-2 : Int32) → Ev G (d + 1) mX11_firstUnlike 41 [(0, .ref 0), (1, .int x1), (2, .int x2), (3, .int x3), (4, .ref a4), (5, .int x5), (6, .int (x6 + 1))] (K, n, V7, J, O) r (K, n, V', J, O)) ∧ (¬ v8 = (-2 : Int32) → ((v8 = (-6 : Int32) → Ev G (d + 1) mX11_firstUnlike 41 [(0, .ref 0), (1, .int x1), (2, .int x2), (3, .int x3), (4, .ref a4), (5, .int x5), (6, .int (x6 + 1))] (K, n, V7, J, O) r (K, n, V', J, O)) ∧ (¬ v8 = (-6 : Int32) → ((v8 = x5 → Ev G (d + 1) mX11_firstUnlike 41 [(0, .ref 0), (1, .int x1), (2, .int x2), (3, .int x3), (4, .ref a4), (5, .int x5), (6, .int (x6 + 1))] (K, n, V7, J, O) r (K, n, V', J, O)) ∧ (¬ v8 = x5 → (r = some (.int x6) ∧ V' = V7)))))))))))) : Ev G (d + 1) mX11_firstUnlike 41 [(0, .ref 0), (1, .int x1), (2, .int x2), (3, .int x3), (4, .ref a4), (5, .int x5), (6, .int x6)] (K, n, V, J, O) r (K, n, V', J, O) := by
  refine Ev.mk fun Q hq => ?_
  refine wp_iload dX11_firstUnlike_41 rfl ?_
  refine wp_aload_n (i := 0) dX11_firstUnlike_43 rfl rfl ?_
  refine wz_getI dX11_firstUnlike_44 (k0 hK) (f11_91 _ (by decide)) rfl ?_
  refine wp_icmp_ge 96 dX11_firstUnlike_47 (by decide) (fun q => ?_) (fun q => ?_)
  · replace hv := hv.1 q
    refine wp_bipush (v := -2) dX11_firstUnlike_96 (by decide) ?_
    obtain ⟨rfl, rfl⟩ := hv
    exact wp_ireturn dX11_firstUnlike_98 rfl rfl rfl hq
  · replace hv := hv.2 q
    refine wp_aload_n (i := 0) dX11_firstUnlike_50 rfl rfl ?_
    refine wz_getR (b := 33) dX11_firstUnlike_51 (k0 hK) (f11_40 _ (by decide)) rfl ?_
    refine wp_iload dX11_firstUnlike_54 rfl ?_
    obtain ⟨z1, b2, c3, y4, o0, h5, z6, hv⟩ := hv
    refine wz_aaloadR dX11_firstUnlike_56 (k33 hK) (by decide) z1 o0 ?_
    refine wp_aload dX11_firstUnlike_57 rfl ?_
    refine wp_iload_n (i := 2) dX11_firstUnlike_59 rfl rfl ?_
    refine wp_iload_n (i := 3) dX11_firstUnlike_60 rfl rfl ?_
    obtain ⟨v8, V7, hE, hv⟩ := hv
    refine wz_callS (vs := [.ref b2, .ref a4, .int x2, .int x3]) (st := []) dX11_firstUnlike_61 k11_220 hE rfl (Nat.le_of_ble_eq_true rfl) (Nat.le_of_ble_eq_true rfl) ?_
    change wp _ _ _ _ _ [.int v8] _ _ _
    refine wx_istore (ls' := [(0, .ref 0), (1, .int x1), (2, .int x2), (3, .int x3), (4, .ref a4), (5, .int x5), (6, .int x6), (7, .int v8)]) dX11_firstUnlike_64 (by decide) rfl ?_
    refine wp_iload dX11_firstUnlike_66 rfl ?_
    refine wp_bipush (v := -2) dX11_firstUnlike_68 (by decide) ?_
    refine wp_icmp_eq 90 dX11_firstUnlike_70 (by decide) (fun q => ?_) (fun q => ?_)
    · replace hv := hv.1 q
      refine wx_iinc (v := 1) (ls' := [(0, .ref 0), (1, .int x1), (2, .int x2), (3, .int x3), (4, .ref a4), (5, .int x5), (6, .int (x6 + 1)), (7, .int v8)]) dX11_firstUnlike_90 rfl (by decide) (by decide) rfl ?_
      refine wp_goto 41 dX11_firstUnlike_93 (by decide) ?_
      refine wx_sub (ls' := [(0, .ref 0), (1, .int x1), (2, .int x2), (3, .int x3), (4, .ref a4), (5, .int x5), (6, .int (x6 + 1))]) [0, 1, 2, 3, 4, 5, 6] rfl ?_
      exact hv Q hq
    · replace hv := hv.2 q
      refine wp_iload dX11_firstUnlike_73 rfl ?_
      refine wp_bipush (v := -6) dX11_firstUnlike_75 (by decide) ?_
      refine wp_icmp_eq 90 dX11_firstUnlike_77 (by decide) (fun q => ?_) (fun q => ?_)
      · replace hv := hv.1 q
        refine wx_iinc (v := 1) (ls' := [(0, .ref 0), (1, .int x1), (2, .int x2), (3, .int x3), (4, .ref a4), (5, .int x5), (6, .int (x6 + 1)), (7, .int v8)]) dX11_firstUnlike_90 rfl (by decide) (by decide) rfl ?_
        refine wp_goto 41 dX11_firstUnlike_93 (by decide) ?_
        refine wx_sub (ls' := [(0, .ref 0), (1, .int x1), (2, .int x2), (3, .int x3), (4, .ref a4), (5, .int x5), (6, .int (x6 + 1))]) [0, 1, 2, 3, 4, 5, 6] rfl ?_
        exact hv Q hq
      · replace hv := hv.2 q
        refine wp_iload dX11_firstUnlike_80 rfl ?_
        refine wp_iload dX11_firstUnlike_82 rfl ?_
        refine wp_icmp_eq 90 dX11_firstUnlike_84 (by decide) (fun q => ?_) (fun q => ?_)
        · replace hv := hv.1 q
          refine wx_iinc (v := 1) (ls' := [(0, .ref 0), (1, .int x1), (2, .int x2), (3, .int x3), (4, .ref a4), (5, .int x5), (6, .int (x6 + 1)), (7, .int v8)]) dX11_firstUnlike_90 rfl (by decide) (by decide) rfl ?_
          refine wp_goto 41 dX11_firstUnlike_93 (by decide) ?_
          refine wx_sub (ls' := [(0, .ref 0), (1, .int x1), (2, .int x2), (3, .int x3), (4, .ref a4), (5, .int x5), (6, .int (x6 + 1))]) [0, 1, 2, 3, 4, 5, 6] rfl ?_
          exact hv Q hq
        · replace hv := hv.2 q
          refine wp_iload dX11_firstUnlike_87 rfl ?_
          obtain ⟨rfl, rfl⟩ := hv
          exact wp_ireturn dX11_firstUnlike_89 rfl rfl rfl hq
theorem wX11_price_0 {x1 : Int32} {x2 : Int32} {x3 : Int32} (hK : StK K)  (hv : (∃ r2 : Option Value, Ev G d mX11_stoneAt 0 [(0, .ref 0), (1, .int x1)] (K, n, V, J, O) r2 (K, n, V, J, O) ∧ ((r2 = some .null ∧ (∃ r4 : Option Value, Ev G d mX11_askAt 0 [(0, .ref 0), (1, .int x2)] (K, n, V, J, O) r4 (K, n, V, J, O) ∧ ((r4 = some .null ∧ r = some (.int (-1 : Int32))) ∨ ∃ b3 : Nat, r4 = some (.ref b3) ∧ IsAk K b3 ∧ r = some (.int (-1 : Int32))))) ∨ ∃ (b1 c6 y7 : Nat), r2 = some (.ref b1) ∧ IsSt K b1 c6 y7 ∧ c6 ∈ [1, 2, 3, 4, 5, 6, 7, 10] ∧ (∃ r11 : Option Value, Ev G d mX11_askAt 0 [(0, .ref 0), (1, .int x2)] (K, n, V, J, O) r11 (K, n, V, J, O) ∧ ((r11 = some .null ∧ r = some (.int (-1 : Int32))) ∨ ∃ b10 : Nat, r11 = some (.ref b10) ∧ IsAk K b10 ∧ (∃ (v13 : Int32), Ev G d mX11_isSize 0 [(0, .int x3)] (K, n, V, J, O) (some (.int v13)) (K, n, V, J, O) ∧ ((v13 ≠ 0 → (∃ M' : AM, vt11_237 c6 = some M' ∧ (∃ (v14 : Int32), Ev G d M' 0 [(0, .ref b1), (1, .ref b10), (2, .int x3)] (K, n, V, J, O) (some (.int v14)) (K, n, V, J, O) ∧ r = some (.int v14)))) ∧ (v13 = 0 → r = some (.int (-1 : Int32)))))))))) : Ev G (d + 1) mX11_price 0 [(0, .ref 0), (1, .int x1), (2, .int x2), (3, .int x3)] (K, n, V, J, O) r (K, n, V, J, O) := by
  refine Ev.mk fun Q hq => ?_
  refine wp_aload_n (i := 0) dX11_price_0 rfl rfl ?_
  refine wp_iload_n (i := 1) dX11_price_1 rfl rfl ?_
  obtain ⟨r2, hE, hv⟩ := hv
  obtain ⟨rfl, hv⟩ | ⟨b1, c6, y7, rfl, h8, z9, hv⟩ := hv
  · refine wz_callV (vs := [.int x1]) (st := []) dX11_price_2 (k0 hK) rfl k11_198_11 hE rfl (Nat.le_of_ble_eq_true rfl) (Nat.le_of_ble_eq_true rfl) ?_
    change wp _ _ _ _ _ [.null] _ _ _
    refine wx_astoreN (ls' := [(0, .ref 0), (1, .int x1), (2, .int x2), (3, .int x3), (4, .null)]) dX11_price_5 (by decide) rfl ?_
    refine wp_aload_n (i := 0) dX11_price_7 rfl rfl ?_
    refine wp_iload_n (i := 2) dX11_price_8 rfl rfl ?_
    obtain ⟨r4, hE, hv⟩ := hv
    obtain ⟨rfl, hv⟩ | ⟨b3, rfl, q5, hv⟩ := hv
    · refine wz_callV (vs := [.int x2]) (st := []) dX11_price_9 (k0 hK) rfl k11_145_11 hE rfl (Nat.le_of_ble_eq_true rfl) (Nat.le_of_ble_eq_true rfl) ?_
      change wp _ _ _ _ _ [.null] _ _ _
      refine wx_astoreN (ls' := [(0, .ref 0), (1, .int x1), (2, .int x2), (3, .int x3), (4, .null), (5, .null)]) dX11_price_12 (by decide) rfl ?_
      refine wp_aloadN dX11_price_14 rfl ?_
      refine wp_ifnullN 31 dX11_price_16 (by decide) ?_
      refine wp_iconst (v := -1) dX11_price_31 (by decide) ?_
      obtain rfl := hv
      exact wp_ireturn dX11_price_32 rfl rfl rfl hq
    · refine wz_callV (vs := [.int x2]) (st := []) dX11_price_9 (k0 hK) rfl k11_145_11 hE rfl (Nat.le_of_ble_eq_true rfl) (Nat.le_of_ble_eq_true rfl) ?_
      change wp _ _ _ _ _ [.ref b3] _ _ _
      refine wx_astore (ls' := [(0, .ref 0), (1, .int x1), (2, .int x2), (3, .int x3), (4, .null), (5, .ref b3)]) dX11_price_12 (by decide) rfl ?_
      refine wp_aloadN dX11_price_14 rfl ?_
      refine wp_ifnullN 31 dX11_price_16 (by decide) ?_
      refine wp_iconst (v := -1) dX11_price_31 (by decide) ?_
      obtain rfl := hv
      exact wp_ireturn dX11_price_32 rfl rfl rfl hq
  · refine wz_callV (vs := [.int x1]) (st := []) dX11_price_2 (k0 hK) rfl k11_198_11 hE rfl (Nat.le_of_ble_eq_true rfl) (Nat.le_of_ble_eq_true rfl) ?_
    change wp _ _ _ _ _ [.ref b1] _ _ _
    refine wx_astore (ls' := [(0, .ref 0), (1, .int x1), (2, .int x2), (3, .int x3), (4, .ref b1)]) dX11_price_5 (by decide) rfl ?_
    refine wp_aload_n (i := 0) dX11_price_7 rfl rfl ?_
    refine wp_iload_n (i := 2) dX11_price_8 rfl rfl ?_
    obtain ⟨r11, hE, hv⟩ := hv
    obtain ⟨rfl, hv⟩ | ⟨b10, rfl, q12, hv⟩ := hv
    · refine wz_callV (vs := [.int x2]) (st := []) dX11_price_9 (k0 hK) rfl k11_145_11 hE rfl (Nat.le_of_ble_eq_true rfl) (Nat.le_of_ble_eq_true rfl) ?_
      change wp _ _ _ _ _ [.null] _ _ _
      refine wx_astoreN (ls' := [(0, .ref 0), (1, .int x1), (2, .int x2), (3, .int x3), (4, .ref b1), (5, .null)]) dX11_price_12 (by decide) rfl ?_
      refine wp_aload dX11_price_14 rfl ?_
      refine wp_ifnullR dX11_price_16 ?_
      refine wp_aloadN dX11_price_19 rfl ?_
      refine wp_ifnullN 31 dX11_price_21 (by decide) ?_
      refine wp_iconst (v := -1) dX11_price_31 (by decide) ?_
      obtain rfl := hv
      exact wp_ireturn dX11_price_32 rfl rfl rfl hq
    · refine wz_callV (vs := [.int x2]) (st := []) dX11_price_9 (k0 hK) rfl k11_145_11 hE rfl (Nat.le_of_ble_eq_true rfl) (Nat.le_of_ble_eq_true rfl) ?_
      change wp _ _ _ _ _ [.ref b10] _ _ _
      refine wx_astore (ls' := [(0, .ref 0), (1, .int x1), (2, .int x2), (3, .int x3), (4, .ref b1), (5, .ref b10)]) dX11_price_12 (by decide) rfl ?_
      refine wp_aload dX11_price_14 rfl ?_
      refine wp_ifnullR dX11_price_16 ?_
      refine wp_aload dX11_price_19 rfl ?_
      refine wp_ifnullR dX11_price_21 ?_
      refine wp_iload_n (i := 3) dX11_price_24 rfl rfl ?_
      obtain ⟨v13, hE, hv⟩ := hv
      refine wz_callS (vs := [.int x3]) (st := []) dX11_price_25 k11_234 hE rfl (Nat.le_of_ble_eq_true rfl) (Nat.le_of_ble_eq_true rfl) ?_
      change wp _ _ _ _ _ [.int v13] _ _ _
      refine wp_if_ne 33 dX11_price_28 (by decide) (fun q => ?_) (fun q => ?_)
      · replace hv := hv.1 q
        refine wp_aload dX11_price_33 rfl ?_
        refine wp_aload dX11_price_35 rfl ?_
        refine wp_iload_n (i := 3) dX11_price_37 rfl rfl ?_
        obtain ⟨M', hM, hv⟩ := hv
        obtain ⟨v14, hE, hv⟩ := hv
        refine wz_callX (vs := [.ref b10, .int x3]) (st := []) dX11_price_38 (st_0 h8) (kx11_237 hM).1 hE rfl (kx11_237 hM).2 (Nat.le_of_ble_eq_true rfl) ?_
        change wp _ _ _ _ _ [.int v14] _ _ _
        obtain rfl := hv
        exact wp_ireturn dX11_price_41 rfl rfl rfl hq
      · replace hv := hv.2 q
        refine wp_iconst (v := -1) dX11_price_31 (by decide) ?_
        obtain rfl := hv
        exact wp_ireturn dX11_price_32 rfl rfl rfl hq
theorem wX11_putPrice_0 {x1 : Int32} {x2 : Int32} (hK : StK K)  (hv : (∃ r2 : Option Value, Ev G d mX11_stoneAt 0 [(0, .ref 0), (1, .int x1)] (K, n, V, J, O) r2 (K, n, V, J, O) ∧ ((r2 = some .null ∧ r = some (.int (-1 : Int32))) ∨ ∃ (b1 c3 y4 : Nat), r2 = some (.ref b1) ∧ IsSt K b1 c3 y4 ∧ c3 ∈ [1, 2, 3, 4, 5, 6, 7, 10] ∧ (∃ (v7 : Int32), Ev G d mX11_isSize 0 [(0, .int x2)] (K, n, V, J, O) (some (.int v7)) (K, n, V, J, O) ∧ ((v7 ≠ 0 → (∃ M' : AM, vt11_241 c3 = some M' ∧ (∃ (v8 : Int32), Ev G d M' 0 [(0, .ref b1), (1, .int x2)] (K, n, V, J, O) (some (.int v8)) (K, n, V, J, O) ∧ r = some (.int v8)))) ∧ (v7 = 0 → r = some (.int (-1 : Int32)))))))) : Ev G (d + 1) mX11_putPrice 0 [(0, .ref 0), (1, .int x1), (2, .int x2)] (K, n, V, J, O) r (K, n, V, J, O) := by
  refine Ev.mk fun Q hq => ?_
  refine wp_aload_n (i := 0) dX11_putPrice_0 rfl rfl ?_
  refine wp_iload_n (i := 1) dX11_putPrice_1 rfl rfl ?_
  obtain ⟨r2, hE, hv⟩ := hv
  obtain ⟨rfl, hv⟩ | ⟨b1, c3, y4, rfl, h5, z6, hv⟩ := hv
  · refine wz_callV (vs := [.int x1]) (st := []) dX11_putPrice_2 (k0 hK) rfl k11_198_11 hE rfl (Nat.le_of_ble_eq_true rfl) (Nat.le_of_ble_eq_true rfl) ?_
    change wp _ _ _ _ _ [.null] _ _ _
    refine wx_astore_nN (ls' := [(0, .ref 0), (1, .int x1), (2, .int x2), (3, .null)]) (i := 3) dX11_putPrice_5 rfl (by decide) rfl ?_
    refine wp_aload_nN (i := 3) dX11_putPrice_6 rfl rfl ?_
    refine wp_ifnullN 17 dX11_putPrice_7 (by decide) ?_
    refine wp_iconst (v := -1) dX11_putPrice_17 (by decide) ?_
    refine wp_goto 26 dX11_putPrice_18 (by decide) ?_
    obtain rfl := hv
    exact wp_ireturn dX11_putPrice_26 rfl rfl rfl hq
  · refine wz_callV (vs := [.int x1]) (st := []) dX11_putPrice_2 (k0 hK) rfl k11_198_11 hE rfl (Nat.le_of_ble_eq_true rfl) (Nat.le_of_ble_eq_true rfl) ?_
    change wp _ _ _ _ _ [.ref b1] _ _ _
    refine wx_astore_n (ls' := [(0, .ref 0), (1, .int x1), (2, .int x2), (3, .ref b1)]) (i := 3) dX11_putPrice_5 rfl (by decide) rfl ?_
    refine wp_aload_n (i := 3) dX11_putPrice_6 rfl rfl ?_
    refine wp_ifnullR dX11_putPrice_7 ?_
    refine wp_iload_n (i := 2) dX11_putPrice_10 rfl rfl ?_
    obtain ⟨v7, hE, hv⟩ := hv
    refine wz_callS (vs := [.int x2]) (st := []) dX11_putPrice_11 k11_234 hE rfl (Nat.le_of_ble_eq_true rfl) (Nat.le_of_ble_eq_true rfl) ?_
    change wp _ _ _ _ _ [.int v7] _ _ _
    refine wp_if_ne 21 dX11_putPrice_14 (by decide) (fun q => ?_) (fun q => ?_)
    · replace hv := hv.1 q
      refine wp_aload_n (i := 3) dX11_putPrice_21 rfl rfl ?_
      refine wp_iload_n (i := 2) dX11_putPrice_22 rfl rfl ?_
      obtain ⟨M', hM, hv⟩ := hv
      obtain ⟨v8, hE, hv⟩ := hv
      refine wz_callX (vs := [.int x2]) (st := []) dX11_putPrice_23 (st_0 h5) (kx11_241 hM).1 hE rfl (kx11_241 hM).2 (Nat.le_of_ble_eq_true rfl) ?_
      change wp _ _ _ _ _ [.int v8] _ _ _
      obtain rfl := hv
      exact wp_ireturn dX11_putPrice_26 rfl rfl rfl hq
    · replace hv := hv.2 q
      refine wp_iconst (v := -1) dX11_putPrice_17 (by decide) ?_
      refine wp_goto 26 dX11_putPrice_18 (by decide) ?_
      obtain rfl := hv
      exact wp_ireturn dX11_putPrice_26 rfl rfl rfl hq
theorem wX11_plan_0 {x1 : Int32} {x2 : Int32} {x3 : Int32} (hK : StK K)  (hv : (∃ (v1 : Int32), Ev G d mX11_isPlan 0 [(0, .ref 0), (1, .int x1)] (K, n, V, J, O) (some (.int v1)) (K, n, V, J, O) ∧ ((v1 = 0 → (r = some (.int (-1 : Int32)) ∧ V' = V)) ∧ (¬ v1 = 0 → (∃ (v2 : Int32), Ev G d mX11_isSize 0 [(0, .int x2)] (K, n, V, J, O) (some (.int v2)) (K, n, V, J, O) ∧ ((v2 = 0 → (r = some (.int (-1 : Int32)) ∧ V' = V)) ∧ (¬ v2 = 0 → (∃ (v3 : Int32), Ev G d mX11_isWithin 0 [(0, .int x3), (1, .int (0 : Int32)), (2, .int (999 : Int32))] (K, n, V, J, O) (some (.int v3)) (K, n, V, J, O) ∧ ((v3 ≠ 0 → (∃ (V4 : SV), Ev G d mX11_learnPrices 0 [(0, .ref 0), (1, .int x2)] (K, n, V, J, O) none (K, n, V4, J, O) ∧ (∃ (v6 : Int32) (V5 : SV), Ev G d mX11_planned 0 [(0, .ref 0), (1, .int x1), (2, .int x3)] (K, n, V4, J, O) (some (.int v6)) (K, n, V5, J, O) ∧ (r = some (.int v6) ∧ V' = V5)))) ∧ (v3 = 0 → (r = some (.int (-1 : Int32)) ∧ V' = V))))))))))) : Ev G (d + 1) mX11_plan 0 [(0, .ref 0), (1, .int x1), (2, .int x2), (3, .int x3)] (K, n, V, J, O) r (K, n, V', J, O) := by
  refine Ev.mk fun Q hq => ?_
  refine wp_aload_n (i := 0) dX11_plan_0 rfl rfl ?_
  refine wp_iload_n (i := 1) dX11_plan_1 rfl rfl ?_
  obtain ⟨v1, hE, hv⟩ := hv
  refine wz_callV (vs := [.int x1]) (st := []) dX11_plan_2 (k0 hK) rfl k11_244_11 hE rfl (Nat.le_of_ble_eq_true rfl) (Nat.le_of_ble_eq_true rfl) ?_
  change wp _ _ _ _ _ [.int v1] _ _ _
  refine wp_if_eq 26 dX11_plan_5 (by decide) (fun q => ?_) (fun q => ?_)
  · replace hv := hv.1 q
    refine wp_iconst (v := -1) dX11_plan_26 (by decide) ?_
    obtain ⟨rfl, rfl⟩ := hv
    exact wp_ireturn dX11_plan_27 rfl rfl rfl hq
  · replace hv := hv.2 q
    refine wp_iload_n (i := 2) dX11_plan_8 rfl rfl ?_
    obtain ⟨v2, hE, hv⟩ := hv
    refine wz_callS (vs := [.int x2]) (st := []) dX11_plan_9 k11_234 hE rfl (Nat.le_of_ble_eq_true rfl) (Nat.le_of_ble_eq_true rfl) ?_
    change wp _ _ _ _ _ [.int v2] _ _ _
    refine wp_if_eq 26 dX11_plan_12 (by decide) (fun q => ?_) (fun q => ?_)
    · replace hv := hv.1 q
      refine wp_iconst (v := -1) dX11_plan_26 (by decide) ?_
      obtain ⟨rfl, rfl⟩ := hv
      exact wp_ireturn dX11_plan_27 rfl rfl rfl hq
    · replace hv := hv.2 q
      refine wp_iload_n (i := 3) dX11_plan_15 rfl rfl ?_
      refine wp_iconst (v := 0) dX11_plan_16 (by decide) ?_
      refine wp_sipush (v := 999) dX11_plan_17 (by decide) ?_
      obtain ⟨v3, hE, hv⟩ := hv
      refine wz_callS (vs := [.int x3, .int (0 : Int32), .int (999 : Int32)]) (st := []) dX11_plan_20 k11_110 hE rfl (Nat.le_of_ble_eq_true rfl) (Nat.le_of_ble_eq_true rfl) ?_
      change wp _ _ _ _ _ [.int v3] _ _ _
      refine wp_if_ne 28 dX11_plan_23 (by decide) (fun q => ?_) (fun q => ?_)
      · replace hv := hv.1 q
        refine wp_aload_n (i := 0) dX11_plan_28 rfl rfl ?_
        refine wp_iload_n (i := 2) dX11_plan_29 rfl rfl ?_
        obtain ⟨V4, hE, hv⟩ := hv
        refine wz_callV (vs := [.int x2]) (st := []) dX11_plan_30 (k0 hK) rfl k11_247_11 hE rfl (Nat.le_of_ble_eq_true rfl) (Nat.le_of_ble_eq_true rfl) ?_
        change wp _ _ _ _ _ [] _ _ _
        refine wp_aload_n (i := 0) dX11_plan_33 rfl rfl ?_
        refine wp_iload_n (i := 1) dX11_plan_34 rfl rfl ?_
        refine wp_iload_n (i := 3) dX11_plan_35 rfl rfl ?_
        obtain ⟨v6, V5, hE, hv⟩ := hv
        refine wz_callV (vs := [.int x1, .int x3]) (st := []) dX11_plan_36 (k0 hK) rfl k11_250_11 hE rfl (Nat.le_of_ble_eq_true rfl) (Nat.le_of_ble_eq_true rfl) ?_
        change wp _ _ _ _ _ [.int v6] _ _ _
        obtain ⟨rfl, rfl⟩ := hv
        exact wp_ireturn dX11_plan_39 rfl rfl rfl hq
      · replace hv := hv.2 q
        refine wp_iconst (v := -1) dX11_plan_26 (by decide) ?_
        obtain ⟨rfl, rfl⟩ := hv
        exact wp_ireturn dX11_plan_27 rfl rfl rfl hq
theorem wX11_leastPlan_0 {x1 : Int32} {x2 : Int32} {x3 : Int32} (hK : StK K)  (hv : (∃ (v1 : Int32), Ev G d mX11_isSize 0 [(0, .int x1)] (K, n, V, J, O) (some (.int v1)) (K, n, V, J, O) ∧ ((v1 = 0 → (r = some (.int (-1 : Int32)) ∧ V' = V)) ∧ (¬ v1 = 0 → (∃ (v2 : Int32), Ev G d mX11_isWithin 0 [(0, .int x2), (1, .int (0 : Int32)), (2, .int (999 : Int32))] (K, n, V, J, O) (some (.int v2)) (K, n, V, J, O) ∧ ((v2 = 0 → (r = some (.int (-1 : Int32)) ∧ V' = V)) ∧ (¬ v2 = 0 → (∃ (v3 : Int32), Ev G d mX11_isWithin 0 [(0, .int x3), (1, .int (1 : Int32)), (2, .int (4 : Int32))] (K, n, V, J, O) (some (.int v3)) (K, n, V, J, O) ∧ ((v3 ≠ 0 → (∃ (V4 : SV), Ev G d mX11_learnPrices 0 [(0, .ref 0), (1, .int x1)] (K, n, V, J, O) none (K, n, V4, J, O) ∧ Ev G (d + 1) mX11_leastPlan 44 [(0, .ref 0), (1, .int x1), (2, .int x2), (3, .int x3), (4, .int (-2 : Int32)), (5, .int (0 : Int32)), (6, .int (0 : Int32))] (K, n, V4, J, O) r (K, n, V', J, O))) ∧ (v3 = 0 → (r = some (.int (-1 : Int32)) ∧ V' = V))))))))))) : Ev G (d + 1) mX11_leastPlan 0 [(0, .ref 0), (1, .int x1), (2, .int x2), (3, .int x3)] (K, n, V, J, O) r (K, n, V', J, O) := by
  refine Ev.mk fun Q hq => ?_
  refine wp_iload_n (i := 1) dX11_leastPlan_0 rfl rfl ?_
  obtain ⟨v1, hE, hv⟩ := hv
  refine wz_callS (vs := [.int x1]) (st := []) dX11_leastPlan_1 k11_234 hE rfl (Nat.le_of_ble_eq_true rfl) (Nat.le_of_ble_eq_true rfl) ?_
  change wp _ _ _ _ _ [.int v1] _ _ _
  refine wp_if_eq 27 dX11_leastPlan_4 (by decide) (fun q => ?_) (fun q => ?_)
  · replace hv := hv.1 q
    refine wp_iconst (v := -1) dX11_leastPlan_27 (by decide) ?_
    obtain ⟨rfl, rfl⟩ := hv
    exact wp_ireturn dX11_leastPlan_28 rfl rfl rfl hq
  · replace hv := hv.2 q
    refine wp_iload_n (i := 2) dX11_leastPlan_7 rfl rfl ?_
    refine wp_iconst (v := 0) dX11_leastPlan_8 (by decide) ?_
    refine wp_sipush (v := 999) dX11_leastPlan_9 (by decide) ?_
    obtain ⟨v2, hE, hv⟩ := hv
    refine wz_callS (vs := [.int x2, .int (0 : Int32), .int (999 : Int32)]) (st := []) dX11_leastPlan_12 k11_110 hE rfl (Nat.le_of_ble_eq_true rfl) (Nat.le_of_ble_eq_true rfl) ?_
    change wp _ _ _ _ _ [.int v2] _ _ _
    refine wp_if_eq 27 dX11_leastPlan_15 (by decide) (fun q => ?_) (fun q => ?_)
    · replace hv := hv.1 q
      refine wp_iconst (v := -1) dX11_leastPlan_27 (by decide) ?_
      obtain ⟨rfl, rfl⟩ := hv
      exact wp_ireturn dX11_leastPlan_28 rfl rfl rfl hq
    · replace hv := hv.2 q
      refine wp_iload_n (i := 3) dX11_leastPlan_18 rfl rfl ?_
      refine wp_iconst (v := 1) dX11_leastPlan_19 (by decide) ?_
      refine wp_iconst (v := 4) dX11_leastPlan_20 (by decide) ?_
      obtain ⟨v3, hE, hv⟩ := hv
      refine wz_callS (vs := [.int x3, .int (1 : Int32), .int (4 : Int32)]) (st := []) dX11_leastPlan_21 k11_110 hE rfl (Nat.le_of_ble_eq_true rfl) (Nat.le_of_ble_eq_true rfl) ?_
      change wp _ _ _ _ _ [.int v3] _ _ _
      refine wp_if_ne 29 dX11_leastPlan_24 (by decide) (fun q => ?_) (fun q => ?_)
      · replace hv := hv.1 q
        refine wp_aload_n (i := 0) dX11_leastPlan_29 rfl rfl ?_
        refine wp_iload_n (i := 1) dX11_leastPlan_30 rfl rfl ?_
        obtain ⟨V4, hE, hv⟩ := hv
        refine wz_callV (vs := [.int x1]) (st := []) dX11_leastPlan_31 (k0 hK) rfl k11_247_11 hE rfl (Nat.le_of_ble_eq_true rfl) (Nat.le_of_ble_eq_true rfl) ?_
        change wp _ _ _ _ _ [] _ _ _
        refine wp_bipush (v := -2) dX11_leastPlan_34 (by decide) ?_
        refine wx_istore (ls' := [(0, .ref 0), (1, .int x1), (2, .int x2), (3, .int x3), (4, .int (-2 : Int32))]) dX11_leastPlan_36 (by decide) rfl ?_
        refine wp_iconst (v := 0) dX11_leastPlan_38 (by decide) ?_
        refine wx_istore (ls' := [(0, .ref 0), (1, .int x1), (2, .int x2), (3, .int x3), (4, .int (-2 : Int32)), (5, .int (0 : Int32))]) dX11_leastPlan_39 (by decide) rfl ?_
        refine wp_iconst (v := 0) dX11_leastPlan_41 (by decide) ?_
        refine wx_istore (ls' := [(0, .ref 0), (1, .int x1), (2, .int x2), (3, .int x3), (4, .int (-2 : Int32)), (5, .int (0 : Int32)), (6, .int (0 : Int32))]) dX11_leastPlan_42 (by decide) rfl ?_
        exact hv Q hq
      · replace hv := hv.2 q
        refine wp_iconst (v := -1) dX11_leastPlan_27 (by decide) ?_
        obtain ⟨rfl, rfl⟩ := hv
        exact wp_ireturn dX11_leastPlan_28 rfl rfl rfl hq
theorem wX11_leastPlan_44 {x1 : Int32} {x2 : Int32} {x3 : Int32} {x4 : Int32} {x5 : Int32} {x6 : Int32} (hK : StK K)  (hv : ((((1 : Int32) <<< ((V 0 7) &&& 31)) ≤ x6 → (r = some (.int x4) ∧ V' = V)) ∧ (¬ ((1 : Int32) <<< ((V 0 7) &&& 31)) ≤ x6 → (∃ (v1 : Int32), Ev G d mJ6_bitCount_0f7a4 0 [(0, .int x6)] (K, n, V, J, O) (some (.int v1)) (K, n, V, J, O) ∧ ((v1 ≤ x3 → (∃ (v3 : Int32) (V2 : SV), Ev G d mX11_planned 0 [(0, .ref 0), (1, .int x6), (2, .int x2)] (K, n, V, J, O) (some (.int v3)) (K, n, V2, J, O) ∧ ((v3 ≠ (-2 : Int32) → ((x4 = (-2 : Int32) → Ev G (d + 1) mX11_leastPlan 44 [(0, .ref 0), (1, .int x1), (2, .int x2), (3, .int x3), (4, .int x6), (5, .int v3), (6, .int (x6 + 1))] (K, n, V2, J, O) r (K, n, V', J, O)) ∧ (¬ x4 = (-2 : Int32) → ((v3 < x5 → Ev G (d + 1) mX11_leastPlan 44 [(0, .ref 0), (1, .int x1), (2, .int x2), (3, .int x3), (4, .int x6), (5, .int v3), (6, .int (x6 + 1))] (K, n, V2, J, O) r (K, n, V', J, O)) ∧ (¬ v3 < x5 → ((v3 ≠ x5 → Ev G (d + 1) mX11_leastPlan 44 [(0, .ref 0), (1, .int x1), (2, .int x2), (3, .int x3), (4, .int x4), (5, .int x5), (6, .int (x6 + 1))] (K, n, V2, J, O) r (K, n, V', J, O)) ∧ (v3 = x5 → (∃ (v4 : Int32), Ev G d mJ6_bitCount_0f7a4 0 [(0, .int x4)] (K, n, V2, J, O) (some (.int v4)) (K, n, V2, J, O) ∧ ((v4 ≤ v1 → Ev G (d + 1) mX11_leastPlan 44 [(0, .ref 0), (1, .int x1), (2, .int x2), (3, .int x3), (4, .int x4), (5, .int x5), (6, .int (x6 + 1))] (K, n, V2, J, O) r (K, n, V', J, O)) ∧ (¬ v4 ≤ v1 → Ev G (d + 1) mX11_leastPlan 44 [(0, .ref 0), (1, .int x1), (2, .int x2), (3, .int x3), (4, .int x6), (5, .int v3), (6, .int (x6 + 1))] (K, n, V2, J, O) r (K, n, V', J, O))))))))))) ∧ (v3 = (-2 : Int32) → Ev G (d + 1) mX11_leastPlan 44 [(0, .ref 0), (1, .int x1), (2, .int x2), (3, .int x3), (4, .int x4), (5, .int x5), (6, .int (x6 + 1))] (K, n, V2, J, O) r (K, n, V', J, O))))) ∧ (¬ v1 ≤ x3 → Ev G (d + 1) mX11_leastPlan 44 [(0, .ref 0), (1, .int x1), (2, .int x2), (3, .int x3), (4, .int x4), (5, .int x5), (6, .int (x6 + 1))] (K, n, V, J, O) r (K, n, V', J, O))))))) : Ev G (d + 1) mX11_leastPlan 44 [(0, .ref 0), (1, .int x1), (2, .int x2), (3, .int x3), (4, .int x4), (5, .int x5), (6, .int x6)] (K, n, V, J, O) r (K, n, V', J, O) := by
  refine Ev.mk fun Q hq => ?_
  refine wp_iload dX11_leastPlan_44 rfl ?_
  refine wp_iconst (v := 1) dX11_leastPlan_46 (by decide) ?_
  refine wp_aload_n (i := 0) dX11_leastPlan_47 rfl rfl ?_
  refine wz_getI dX11_leastPlan_48 (k0 hK) (f11_91 _ (by decide)) rfl ?_
  refine wp_ishl dX11_leastPlan_51 ?_
  refine wp_icmp_ge 137 dX11_leastPlan_52 (by decide) (fun q => ?_) (fun q => ?_)
  · replace hv := hv.1 q
    refine wp_iload dX11_leastPlan_137 rfl ?_
    obtain ⟨rfl, rfl⟩ := hv
    exact wp_ireturn dX11_leastPlan_139 rfl rfl rfl hq
  · replace hv := hv.2 q
    refine wp_iload dX11_leastPlan_55 rfl ?_
    obtain ⟨v1, hE, hv⟩ := hv
    refine wz_callS (vs := [.int x6]) (st := []) dX11_leastPlan_57 k11_253 hE rfl (Nat.le_of_ble_eq_true rfl) (Nat.le_of_ble_eq_true rfl) ?_
    change wp _ _ _ _ _ [.int v1] _ _ _
    refine wx_istore (ls' := [(0, .ref 0), (1, .int x1), (2, .int x2), (3, .int x3), (4, .int x4), (5, .int x5), (6, .int x6), (7, .int v1)]) dX11_leastPlan_60 (by decide) rfl ?_
    refine wp_iload dX11_leastPlan_62 rfl ?_
    refine wp_iload_n (i := 3) dX11_leastPlan_64 rfl rfl ?_
    refine wp_icmp_le 73 dX11_leastPlan_65 (by decide) (fun q => ?_) (fun q => ?_)
    · replace hv := hv.1 q
      refine wp_aload_n (i := 0) dX11_leastPlan_73 rfl rfl ?_
      refine wp_iload dX11_leastPlan_74 rfl ?_
      refine wp_iload_n (i := 2) dX11_leastPlan_76 rfl rfl ?_
      obtain ⟨v3, V2, hE, hv⟩ := hv
      refine wz_callV (vs := [.int x6, .int x2]) (st := []) dX11_leastPlan_77 (k0 hK) rfl k11_250_11 hE rfl (Nat.le_of_ble_eq_true rfl) (Nat.le_of_ble_eq_true rfl) ?_
      change wp _ _ _ _ _ [.int v3] _ _ _
      refine wx_istore (ls' := [(0, .ref 0), (1, .int x1), (2, .int x2), (3, .int x3), (4, .int x4), (5, .int x5), (6, .int x6), (7, .int v1), (8, .int v3)]) dX11_leastPlan_80 (by decide) rfl ?_
      refine wp_iload dX11_leastPlan_82 rfl ?_
      refine wp_bipush (v := -2) dX11_leastPlan_84 (by decide) ?_
      refine wp_icmp_ne 92 dX11_leastPlan_86 (by decide) (fun q => ?_) (fun q => ?_)
      · replace hv := hv.1 q
        refine wp_iload dX11_leastPlan_92 rfl ?_
        refine wp_bipush (v := -2) dX11_leastPlan_94 (by decide) ?_
        refine wp_icmp_eq 123 dX11_leastPlan_96 (by decide) (fun q => ?_) (fun q => ?_)
        · replace hv := hv.1 q
          refine wp_iload dX11_leastPlan_123 rfl ?_
          refine wx_istore (ls' := [(0, .ref 0), (1, .int x1), (2, .int x2), (3, .int x3), (4, .int x6), (5, .int x5), (6, .int x6), (7, .int v1), (8, .int v3)]) dX11_leastPlan_125 (by decide) rfl ?_
          refine wp_iload dX11_leastPlan_127 rfl ?_
          refine wx_istore (ls' := [(0, .ref 0), (1, .int x1), (2, .int x2), (3, .int x3), (4, .int x6), (5, .int v3), (6, .int x6), (7, .int v1), (8, .int v3)]) dX11_leastPlan_129 (by decide) rfl ?_
          refine wx_iinc (v := 1) (ls' := [(0, .ref 0), (1, .int x1), (2, .int x2), (3, .int x3), (4, .int x6), (5, .int v3), (6, .int (x6 + 1)), (7, .int v1), (8, .int v3)]) dX11_leastPlan_131 rfl (by decide) (by decide) rfl ?_
          refine wp_goto 44 dX11_leastPlan_134 (by decide) ?_
          refine wx_sub (ls' := [(0, .ref 0), (1, .int x1), (2, .int x2), (3, .int x3), (4, .int x6), (5, .int v3), (6, .int (x6 + 1))]) [0, 1, 2, 3, 4, 5, 6] rfl ?_
          exact hv Q hq
        · replace hv := hv.2 q
          refine wp_iload dX11_leastPlan_99 rfl ?_
          refine wp_iload dX11_leastPlan_101 rfl ?_
          refine wp_icmp_lt 123 dX11_leastPlan_103 (by decide) (fun q => ?_) (fun q => ?_)
          · replace hv := hv.1 q
            refine wp_iload dX11_leastPlan_123 rfl ?_
            refine wx_istore (ls' := [(0, .ref 0), (1, .int x1), (2, .int x2), (3, .int x3), (4, .int x6), (5, .int x5), (6, .int x6), (7, .int v1), (8, .int v3)]) dX11_leastPlan_125 (by decide) rfl ?_
            refine wp_iload dX11_leastPlan_127 rfl ?_
            refine wx_istore (ls' := [(0, .ref 0), (1, .int x1), (2, .int x2), (3, .int x3), (4, .int x6), (5, .int v3), (6, .int x6), (7, .int v1), (8, .int v3)]) dX11_leastPlan_129 (by decide) rfl ?_
            refine wx_iinc (v := 1) (ls' := [(0, .ref 0), (1, .int x1), (2, .int x2), (3, .int x3), (4, .int x6), (5, .int v3), (6, .int (x6 + 1)), (7, .int v1), (8, .int v3)]) dX11_leastPlan_131 rfl (by decide) (by decide) rfl ?_
            refine wp_goto 44 dX11_leastPlan_134 (by decide) ?_
            refine wx_sub (ls' := [(0, .ref 0), (1, .int x1), (2, .int x2), (3, .int x3), (4, .int x6), (5, .int v3), (6, .int (x6 + 1))]) [0, 1, 2, 3, 4, 5, 6] rfl ?_
            exact hv Q hq
          · replace hv := hv.2 q
            refine wp_iload dX11_leastPlan_106 rfl ?_
            refine wp_iload dX11_leastPlan_108 rfl ?_
            refine wp_icmp_ne 131 dX11_leastPlan_110 (by decide) (fun q => ?_) (fun q => ?_)
            · replace hv := hv.1 q
              refine wx_iinc (v := 1) (ls' := [(0, .ref 0), (1, .int x1), (2, .int x2), (3, .int x3), (4, .int x4), (5, .int x5), (6, .int (x6 + 1)), (7, .int v1), (8, .int v3)]) dX11_leastPlan_131 rfl (by decide) (by decide) rfl ?_
              refine wp_goto 44 dX11_leastPlan_134 (by decide) ?_
              refine wx_sub (ls' := [(0, .ref 0), (1, .int x1), (2, .int x2), (3, .int x3), (4, .int x4), (5, .int x5), (6, .int (x6 + 1))]) [0, 1, 2, 3, 4, 5, 6] rfl ?_
              exact hv Q hq
            · replace hv := hv.2 q
              refine wp_iload dX11_leastPlan_113 rfl ?_
              refine wp_iload dX11_leastPlan_115 rfl ?_
              obtain ⟨v4, hE, hv⟩ := hv
              refine wz_callS (vs := [.int x4]) (st := [.int v1]) dX11_leastPlan_117 k11_253 hE rfl (Nat.le_of_ble_eq_true rfl) (Nat.le_of_ble_eq_true rfl) ?_
              change wp _ _ _ _ _ [.int v4, .int v1] _ _ _
              refine wp_icmp_ge 131 dX11_leastPlan_120 (by decide) (fun q => ?_) (fun q => ?_)
              · replace hv := hv.1 q
                refine wx_iinc (v := 1) (ls' := [(0, .ref 0), (1, .int x1), (2, .int x2), (3, .int x3), (4, .int x4), (5, .int x5), (6, .int (x6 + 1)), (7, .int v1), (8, .int v3)]) dX11_leastPlan_131 rfl (by decide) (by decide) rfl ?_
                refine wp_goto 44 dX11_leastPlan_134 (by decide) ?_
                refine wx_sub (ls' := [(0, .ref 0), (1, .int x1), (2, .int x2), (3, .int x3), (4, .int x4), (5, .int x5), (6, .int (x6 + 1))]) [0, 1, 2, 3, 4, 5, 6] rfl ?_
                exact hv Q hq
              · replace hv := hv.2 q
                refine wp_iload dX11_leastPlan_123 rfl ?_
                refine wx_istore (ls' := [(0, .ref 0), (1, .int x1), (2, .int x2), (3, .int x3), (4, .int x6), (5, .int x5), (6, .int x6), (7, .int v1), (8, .int v3)]) dX11_leastPlan_125 (by decide) rfl ?_
                refine wp_iload dX11_leastPlan_127 rfl ?_
                refine wx_istore (ls' := [(0, .ref 0), (1, .int x1), (2, .int x2), (3, .int x3), (4, .int x6), (5, .int v3), (6, .int x6), (7, .int v1), (8, .int v3)]) dX11_leastPlan_129 (by decide) rfl ?_
                refine wx_iinc (v := 1) (ls' := [(0, .ref 0), (1, .int x1), (2, .int x2), (3, .int x3), (4, .int x6), (5, .int v3), (6, .int (x6 + 1)), (7, .int v1), (8, .int v3)]) dX11_leastPlan_131 rfl (by decide) (by decide) rfl ?_
                refine wp_goto 44 dX11_leastPlan_134 (by decide) ?_
                refine wx_sub (ls' := [(0, .ref 0), (1, .int x1), (2, .int x2), (3, .int x3), (4, .int x6), (5, .int v3), (6, .int (x6 + 1))]) [0, 1, 2, 3, 4, 5, 6] rfl ?_
                exact hv Q hq
      · replace hv := hv.2 q
        refine wp_goto 131 dX11_leastPlan_89 (by decide) ?_
        refine wx_iinc (v := 1) (ls' := [(0, .ref 0), (1, .int x1), (2, .int x2), (3, .int x3), (4, .int x4), (5, .int x5), (6, .int (x6 + 1)), (7, .int v1), (8, .int v3)]) dX11_leastPlan_131 rfl (by decide) (by decide) rfl ?_
        refine wp_goto 44 dX11_leastPlan_134 (by decide) ?_
        refine wx_sub (ls' := [(0, .ref 0), (1, .int x1), (2, .int x2), (3, .int x3), (4, .int x4), (5, .int x5), (6, .int (x6 + 1))]) [0, 1, 2, 3, 4, 5, 6] rfl ?_
        exact hv Q hq
    · replace hv := hv.2 q
      refine wp_bipush (v := -2) dX11_leastPlan_68 (by decide) ?_
      refine wp_goto 80 dX11_leastPlan_70 (by decide) ?_
      refine wx_istore (ls' := [(0, .ref 0), (1, .int x1), (2, .int x2), (3, .int x3), (4, .int x4), (5, .int x5), (6, .int x6), (7, .int v1), (8, .int (-2 : Int32))]) dX11_leastPlan_80 (by decide) rfl ?_
      refine wp_iload dX11_leastPlan_82 rfl ?_
      refine wp_bipush (v := -2) dX11_leastPlan_84 (by decide) ?_
      refine wp_icmp_ne 92 dX11_leastPlan_86 (by decide) (fun q => absurd q (by decide)) (fun _ => ?_)
      refine wp_goto 131 dX11_leastPlan_89 (by decide) ?_
      refine wx_iinc (v := 1) (ls' := [(0, .ref 0), (1, .int x1), (2, .int x2), (3, .int x3), (4, .int x4), (5, .int x5), (6, .int (x6 + 1)), (7, .int v1), (8, .int (-2 : Int32))]) dX11_leastPlan_131 rfl (by decide) (by decide) rfl ?_
      refine wp_goto 44 dX11_leastPlan_134 (by decide) ?_
      refine wx_sub (ls' := [(0, .ref 0), (1, .int x1), (2, .int x2), (3, .int x3), (4, .int x4), (5, .int x5), (6, .int (x6 + 1))]) [0, 1, 2, 3, 4, 5, 6] rfl ?_
      exact hv Q hq
theorem wX11_goesThrough_0 {x1 : Int32} {x2 : Int32} {x3 : Int32} (hK : StK K)  (hv : (∃ (v1 : Int32), Ev G d mX11_isPlan 0 [(0, .ref 0), (1, .int x1)] (K, n, V, J, O) (some (.int v1)) (K, n, V, J, O) ∧ ((v1 = 0 → (r = some (.int (-1 : Int32)) ∧ V' = V)) ∧ (¬ v1 = 0 → (∃ r3 : Option Value, Ev G d mX11_askAt 0 [(0, .ref 0), (1, .int x2)] (K, n, V, J, O) r3 (K, n, V, J, O) ∧ ((r3 = some .null ∧ (r = some (.int (-1 : Int32)) ∧ V' = V)) ∨ ∃ b2 : Nat, r3 = some (.ref b2) ∧ IsAk K b2 ∧ (∃ (v5 : Int32), Ev G d mX11_isSize 0 [(0, .int x3)] (K, n, V, J, O) (some (.int v5)) (K, n, V, J, O) ∧ ((v5 ≠ 0 → (∃ (V6 : SV), Ev G d mX11_learnPrices 0 [(0, .ref 0), (1, .int x3)] (K, n, V, J, O) none (K, n, V6, J, O) ∧ (∃ (v8 : Int32) (V7 : SV), Ev G d mX11_choose 0 [(0, .ref 0), (1, .int x1)] (K, n, V6, J, O) (some (.int v8)) (K, n, V7, J, O) ∧ (∃ (v9 : Int32), Ev G d mX11_cheapest 0 [(0, .ref 0), (1, .int x2), (2, .int v8)] (K, n, V7, J, O) (some (.int v9)) (K, n, V7, J, O) ∧ (r = some (.int v9) ∧ V' = V7))))) ∧ (v5 = 0 → (r = some (.int (-1 : Int32)) ∧ V' = V)))))))))) : Ev G (d + 1) mX11_goesThrough 0 [(0, .ref 0), (1, .int x1), (2, .int x2), (3, .int x3)] (K, n, V, J, O) r (K, n, V', J, O) := by
  refine Ev.mk fun Q hq => ?_
  refine wp_aload_n (i := 0) dX11_goesThrough_0 rfl rfl ?_
  refine wp_iload_n (i := 1) dX11_goesThrough_1 rfl rfl ?_
  obtain ⟨v1, hE, hv⟩ := hv
  refine wz_callV (vs := [.int x1]) (st := []) dX11_goesThrough_2 (k0 hK) rfl k11_244_11 hE rfl (Nat.le_of_ble_eq_true rfl) (Nat.le_of_ble_eq_true rfl) ?_
  change wp _ _ _ _ _ [.int v1] _ _ _
  refine wp_if_eq 23 dX11_goesThrough_5 (by decide) (fun q => ?_) (fun q => ?_)
  · replace hv := hv.1 q
    refine wp_iconst (v := -1) dX11_goesThrough_23 (by decide) ?_
    obtain ⟨rfl, rfl⟩ := hv
    exact wp_ireturn dX11_goesThrough_24 rfl rfl rfl hq
  · replace hv := hv.2 q
    refine wp_aload_n (i := 0) dX11_goesThrough_8 rfl rfl ?_
    refine wp_iload_n (i := 2) dX11_goesThrough_9 rfl rfl ?_
    obtain ⟨r3, hE, hv⟩ := hv
    obtain ⟨rfl, hv⟩ | ⟨b2, rfl, q4, hv⟩ := hv
    · refine wz_callV (vs := [.int x2]) (st := []) dX11_goesThrough_10 (k0 hK) rfl k11_145_11 hE rfl (Nat.le_of_ble_eq_true rfl) (Nat.le_of_ble_eq_true rfl) ?_
      change wp _ _ _ _ _ [.null] _ _ _
      refine wp_ifnullN 23 dX11_goesThrough_13 (by decide) ?_
      refine wp_iconst (v := -1) dX11_goesThrough_23 (by decide) ?_
      obtain ⟨rfl, rfl⟩ := hv
      exact wp_ireturn dX11_goesThrough_24 rfl rfl rfl hq
    · refine wz_callV (vs := [.int x2]) (st := []) dX11_goesThrough_10 (k0 hK) rfl k11_145_11 hE rfl (Nat.le_of_ble_eq_true rfl) (Nat.le_of_ble_eq_true rfl) ?_
      change wp _ _ _ _ _ [.ref b2] _ _ _
      refine wp_ifnullR dX11_goesThrough_13 ?_
      refine wp_iload_n (i := 3) dX11_goesThrough_16 rfl rfl ?_
      obtain ⟨v5, hE, hv⟩ := hv
      refine wz_callS (vs := [.int x3]) (st := []) dX11_goesThrough_17 k11_234 hE rfl (Nat.le_of_ble_eq_true rfl) (Nat.le_of_ble_eq_true rfl) ?_
      change wp _ _ _ _ _ [.int v5] _ _ _
      refine wp_if_ne 25 dX11_goesThrough_20 (by decide) (fun q => ?_) (fun q => ?_)
      · replace hv := hv.1 q
        refine wp_aload_n (i := 0) dX11_goesThrough_25 rfl rfl ?_
        refine wp_iload_n (i := 3) dX11_goesThrough_26 rfl rfl ?_
        obtain ⟨V6, hE, hv⟩ := hv
        refine wz_callV (vs := [.int x3]) (st := []) dX11_goesThrough_27 (k0 hK) rfl k11_247_11 hE rfl (Nat.le_of_ble_eq_true rfl) (Nat.le_of_ble_eq_true rfl) ?_
        change wp _ _ _ _ _ [] _ _ _
        refine wp_aload_n (i := 0) dX11_goesThrough_30 rfl rfl ?_
        refine wp_iload_n (i := 2) dX11_goesThrough_31 rfl rfl ?_
        refine wp_aload_n (i := 0) dX11_goesThrough_32 rfl rfl ?_
        refine wp_iload_n (i := 1) dX11_goesThrough_33 rfl rfl ?_
        obtain ⟨v8, V7, hE, hv⟩ := hv
        refine wz_callV (vs := [.int x1]) (st := [.int x2, .ref 0]) dX11_goesThrough_34 (k0 hK) rfl k11_258_11 hE rfl (Nat.le_of_ble_eq_true rfl) (Nat.le_of_ble_eq_true rfl) ?_
        change wp _ _ _ _ _ [.int v8, .int x2, .ref 0] _ _ _
        obtain ⟨v9, hE, hv⟩ := hv
        refine wz_callV (vs := [.int x2, .int v8]) (st := []) dX11_goesThrough_37 (k0 hK) rfl k11_261_11 hE rfl (Nat.le_of_ble_eq_true rfl) (Nat.le_of_ble_eq_true rfl) ?_
        change wp _ _ _ _ _ [.int v9] _ _ _
        obtain ⟨rfl, rfl⟩ := hv
        exact wp_ireturn dX11_goesThrough_40 rfl rfl rfl hq
      · replace hv := hv.2 q
        refine wp_iconst (v := -1) dX11_goesThrough_23 (by decide) ?_
        obtain ⟨rfl, rfl⟩ := hv
        exact wp_ireturn dX11_goesThrough_24 rfl rfl rfl hq
theorem wX11_learnPrices_0 {x1 : Int32} (hK : StK K)  (hv : Ev G (d + 1) mX11_learnPrices 2 [(0, .ref 0), (1, .int x1), (2, .int (0 : Int32))] (K, n, V, J, O) r (K, n, V', J, O)) : Ev G (d + 1) mX11_learnPrices 0 [(0, .ref 0), (1, .int x1)] (K, n, V, J, O) r (K, n, V', J, O) := by
  refine Ev.mk fun Q hq => ?_
  refine wp_iconst (v := 0) dX11_learnPrices_0 (by decide) ?_
  refine wx_istore_n (ls' := [(0, .ref 0), (1, .int x1), (2, .int (0 : Int32))]) (i := 2) dX11_learnPrices_1 rfl (by decide) rfl ?_
  exact hv Q hq
theorem wX11_learnPrices_2 {x1 : Int32} {x2 : Int32} (hK : StK K)  (hv : (((V 0 7) ≤ x2 → (r = none ∧ V' = V)) ∧ (¬ (V 0 7) ≤ x2 → (vp_in x2 10 ∧ ∃ (b2 c3 y4 : Nat), O 33 (x2).toNatClampNeg = some b2 ∧ IsSt K b2 c3 y4 ∧ c3 ∈ [1, 2, 3, 4, 5, 6, 7, 10] ∧ (∃ M' : AM, vt11_241 c3 = some M' ∧ (∃ (v7 : Int32), Ev G d M' 0 [(0, .ref b2), (1, .int x1)] (K, n, V, J, O) (some (.int v7)) (K, n, V, J, O) ∧ (vp_in x2 10 ∧ Ev G (d + 1) mX11_learnPrices 28 [(0, .ref 0), (1, .int x1), (2, .int x2), (3, .int (0 : Int32))] (K, n, (up2 V 45 (x2).toNatClampNeg v7), J, O) r (K, n, V', J, O)))))))) : Ev G (d + 1) mX11_learnPrices 2 [(0, .ref 0), (1, .int x1), (2, .int x2)] (K, n, V, J, O) r (K, n, V', J, O) := by
  refine Ev.mk fun Q hq => ?_
  refine wp_iload_n (i := 2) dX11_learnPrices_2 rfl rfl ?_
  refine wp_aload_n (i := 0) dX11_learnPrices_3 rfl rfl ?_
  refine wz_getI dX11_learnPrices_4 (k0 hK) (f11_91 _ (by decide)) rfl ?_
  refine wp_icmp_ge 72 dX11_learnPrices_7 (by decide) (fun q => ?_) (fun q => ?_)
  · replace hv := hv.1 q
    obtain ⟨rfl, rfl⟩ := hv
    exact wp_return dX11_learnPrices_72 rfl rfl hq
  · replace hv := hv.2 q
    refine wp_aload_n (i := 0) dX11_learnPrices_10 rfl rfl ?_
    refine wz_getR (b := 45) dX11_learnPrices_11 (k0 hK) (f11_49 _ (by decide)) rfl ?_
    refine wp_iload_n (i := 2) dX11_learnPrices_14 rfl rfl ?_
    refine wp_aload_n (i := 0) dX11_learnPrices_15 rfl rfl ?_
    refine wz_getR (b := 33) dX11_learnPrices_16 (k0 hK) (f11_40 _ (by decide)) rfl ?_
    refine wp_iload_n (i := 2) dX11_learnPrices_19 rfl rfl ?_
    obtain ⟨z1, b2, c3, y4, o0, h5, z6, hv⟩ := hv
    refine wz_aaloadR dX11_learnPrices_20 (k33 hK) (by decide) z1 o0 ?_
    refine wp_iload_n (i := 1) dX11_learnPrices_21 rfl rfl ?_
    obtain ⟨M', hM, hv⟩ := hv
    obtain ⟨v7, hE, hv⟩ := hv
    refine wz_callX (vs := [.int x1]) (st := [.int x2, .ref 45]) dX11_learnPrices_22 (st_0 h5) (kx11_241 hM).1 hE rfl (kx11_241 hM).2 (Nat.le_of_ble_eq_true rfl) ?_
    change wp _ _ _ _ _ [.int v7, .int x2, .ref 45] _ _ _
    obtain ⟨z8, hv⟩ := hv
    refine wz_iastore dX11_learnPrices_25 (k45 hK) z8 ?_
    refine wp_iconst (v := 0) dX11_learnPrices_26 (by decide) ?_
    refine wx_istore_n (ls' := [(0, .ref 0), (1, .int x1), (2, .int x2), (3, .int (0 : Int32))]) (i := 3) dX11_learnPrices_27 rfl (by decide) rfl ?_
    exact hv Q hq
theorem wX11_learnPrices_28 {x1 : Int32} {x2 : Int32} {x3 : Int32} (hK : StK K)  (hv : (((V 0 5) ≤ x3 → Ev G (d + 1) mX11_learnPrices 2 [(0, .ref 0), (1, .int x1), (2, .int (x2 + 1))] (K, n, V, J, O) r (K, n, V', J, O)) ∧ (¬ (V 0 5) ≤ x3 → (vp_in x3 10 ∧ (vp_in x2 10 ∧ ∃ (b3 c4 y5 : Nat), O 33 (x2).toNatClampNeg = some b3 ∧ IsSt K b3 c4 y5 ∧ c4 ∈ [1, 2, 3, 4, 5, 6, 7, 10] ∧ (vp_in x3 10 ∧ ∃ b9 : Nat, O 32 (x3).toNatClampNeg = some b9 ∧ IsAk K b9 ∧ (∃ M' : AM, vt11_237 c4 = some M' ∧ (∃ (v11 : Int32), Ev G d M' 0 [(0, .ref b3), (1, .ref b9), (2, .int x1)] (K, n, V, J, O) (some (.int v11)) (K, n, V, J, O) ∧ (vp_in x2 10 ∧ Ev G (d + 1) mX11_learnPrices 28 [(0, .ref 0), (1, .int x1), (2, .int x2), (3, .int (x3 + 1))] (K, n, (up2 V (34 + 1 + (x3).toNatClampNeg) (x2).toNatClampNeg v11), J, O) r (K, n, V', J, O)))))))))) : Ev G (d + 1) mX11_learnPrices 28 [(0, .ref 0), (1, .int x1), (2, .int x2), (3, .int x3)] (K, n, V, J, O) r (K, n, V', J, O) := by
  refine Ev.mk fun Q hq => ?_
  refine wp_iload_n (i := 3) dX11_learnPrices_28 rfl rfl ?_
  refine wp_aload_n (i := 0) dX11_learnPrices_29 rfl rfl ?_
  refine wz_getI dX11_learnPrices_30 (k0 hK) (f11_138 _ (by decide)) rfl ?_
  refine wp_icmp_ge 66 dX11_learnPrices_33 (by decide) (fun q => ?_) (fun q => ?_)
  · replace hv := hv.1 q
    refine wx_iinc (v := 1) (ls' := [(0, .ref 0), (1, .int x1), (2, .int (x2 + 1)), (3, .int x3)]) dX11_learnPrices_66 rfl (by decide) (by decide) rfl ?_
    refine wp_goto 2 dX11_learnPrices_69 (by decide) ?_
    refine wx_sub (ls' := [(0, .ref 0), (1, .int x1), (2, .int (x2 + 1))]) [0, 1, 2] rfl ?_
    exact hv Q hq
  · replace hv := hv.2 q
    refine wp_aload_n (i := 0) dX11_learnPrices_36 rfl rfl ?_
    refine wz_getR (b := 34) dX11_learnPrices_37 (k0 hK) (f11_46 _ (by decide)) rfl ?_
    refine wp_iload_n (i := 3) dX11_learnPrices_40 rfl rfl ?_
    obtain ⟨z1, hv⟩ := hv
    refine wz_aaload (b := 34) dX11_learnPrices_41 (k34 hK) (by decide) z1 ?_
    refine wp_iload_n (i := 2) dX11_learnPrices_42 rfl rfl ?_
    refine wp_aload_n (i := 0) dX11_learnPrices_43 rfl rfl ?_
    refine wz_getR (b := 33) dX11_learnPrices_44 (k0 hK) (f11_40 _ (by decide)) rfl ?_
    refine wp_iload_n (i := 2) dX11_learnPrices_47 rfl rfl ?_
    obtain ⟨z2, b3, c4, y5, o0, h6, z7, hv⟩ := hv
    refine wz_aaloadR dX11_learnPrices_48 (k33 hK) (by decide) z2 o0 ?_
    refine wp_aload_n (i := 0) dX11_learnPrices_49 rfl rfl ?_
    refine wz_getR (b := 32) dX11_learnPrices_50 (k0 hK) (f11_29 _ (by decide)) rfl ?_
    refine wp_iload_n (i := 3) dX11_learnPrices_53 rfl rfl ?_
    obtain ⟨z8, b9, o0, q10, hv⟩ := hv
    refine wz_aaloadR dX11_learnPrices_54 (k32 hK) (by decide) z8 o0 ?_
    refine wp_iload_n (i := 1) dX11_learnPrices_55 rfl rfl ?_
    obtain ⟨M', hM, hv⟩ := hv
    obtain ⟨v11, hE, hv⟩ := hv
    refine wz_callX (vs := [.ref b9, .int x1]) (st := [.int x2, .ref (34 + 1 + (x3).toNatClampNeg)]) dX11_learnPrices_56 (st_0 h6) (kx11_237 hM).1 hE rfl (kx11_237 hM).2 (Nat.le_of_ble_eq_true rfl) ?_
    change wp _ _ _ _ _ [.int v11, .int x2, .ref (34 + 1 + (x3).toNatClampNeg)] _ _ _
    obtain ⟨z12, hv⟩ := hv
    refine wz_iastore dX11_learnPrices_59 (kr34 hK (in_lt z1)) z12 ?_
    refine wx_iinc (v := 1) (ls' := [(0, .ref 0), (1, .int x1), (2, .int x2), (3, .int (x3 + 1))]) dX11_learnPrices_60 rfl (by decide) (by decide) rfl ?_
    refine wp_goto 28 dX11_learnPrices_63 (by decide) ?_
    exact hv Q hq
theorem wX11_planned_0 {x1 : Int32} {x2 : Int32} (hK : StK K)  (hv : (∃ (v2 : Int32) (V1 : SV), Ev G d mX11_choose 0 [(0, .ref 0), (1, .int x1)] (K, n, V, J, O) (some (.int v2)) (K, n, V1, J, O) ∧ Ev G (d + 1) mX11_planned 12 [(0, .ref 0), (1, .int x1), (2, .int x2), (3, .int v2), (4, .long (0 : Int64)), (6, .int (0 : Int32))] (K, n, V1, J, O) r (K, n, V', J, O))) : Ev G (d + 1) mX11_planned 0 [(0, .ref 0), (1, .int x1), (2, .int x2)] (K, n, V, J, O) r (K, n, V', J, O) := by
  refine Ev.mk fun Q hq => ?_
  refine wp_aload_n (i := 0) dX11_planned_0 rfl rfl ?_
  refine wp_iload_n (i := 1) dX11_planned_1 rfl rfl ?_
  obtain ⟨v2, V1, hE, hv⟩ := hv
  refine wz_callV (vs := [.int x1]) (st := []) dX11_planned_2 (k0 hK) rfl k11_258_11 hE rfl (Nat.le_of_ble_eq_true rfl) (Nat.le_of_ble_eq_true rfl) ?_
  change wp _ _ _ _ _ [.int v2] _ _ _
  refine wx_istore_n (ls' := [(0, .ref 0), (1, .int x1), (2, .int x2), (3, .int v2)]) (i := 3) dX11_planned_5 rfl (by decide) rfl ?_
  refine wp_lconst (v := 0) dX11_planned_6 (by decide) ?_
  refine wx_lstore (ls' := [(0, .ref 0), (1, .int x1), (2, .int x2), (3, .int v2), (4, .long (0 : Int64))]) dX11_planned_7 (by decide) rfl ?_
  refine wp_iconst (v := 0) dX11_planned_9 (by decide) ?_
  refine wx_istore (ls' := [(0, .ref 0), (1, .int x1), (2, .int x2), (3, .int v2), (4, .long (0 : Int64)), (6, .int (0 : Int32))]) dX11_planned_10 (by decide) rfl ?_
  exact hv Q hq
theorem wX11_planned_12 {x1 : Int32} {x2 : Int32} {x3 : Int32} {l4 : Int64} {x6 : Int32} (hK : StK K)  (hv : (((V 0 5) ≤ x6 → Ev G (d + 1) mX11_planned 93 [(0, .ref 0), (1, .int x1), (2, .int x2), (3, .int x3), (4, .long l4), (6, .int (0 : Int32))] (K, n, V, J, O) r (K, n, V', J, O)) ∧ (¬ (V 0 5) ≤ x6 → (vp_in x6 10 ∧ ∃ b2 : Nat, O 32 (x6).toNatClampNeg = some b2 ∧ IsAk K b2 ∧ (((V b2 0) ≠ 0 → (∃ (v4 : Int32), Ev G d mX11_cheapest 0 [(0, .ref 0), (1, .int x6), (2, .int x3)] (K, n, V, J, O) (some (.int v4)) (K, n, V, J, O) ∧ ((v4 ≠ (-2 : Int32) → (vp_in x6 10 ∧ ∃ b6 : Nat, O 32 (x6).toNatClampNeg = some b6 ∧ IsAk K b6 ∧ (vp_in x6 10 ∧ (vp_in v4 10 ∧ Ev G (d + 1) mX11_planned 12 [(0, .ref 0), (1, .int x1), (2, .int x2), (3, .int x3), (4, .long (l4 + (((V b6 0).toInt64) * ((V (34 + 1 + (x6).toNatClampNeg) (v4).toNatClampNeg).toInt64)))), (6, .int (x6 + 1))] (K, n, V, J, O) r (K, n, V', J, O))))) ∧ (v4 = (-2 : Int32) → (r = some (.int (-2 : Int32)) ∧ V' = V))))) ∧ ((V b2 0) = 0 → Ev G (d + 1) mX11_planned 12 [(0, .ref 0), (1, .int x1), (2, .int x2), (3, .int x3), (4, .long l4), (6, .int (x6 + 1))] (K, n, V, J, O) r (K, n, V', J, O))))))) : Ev G (d + 1) mX11_planned 12 [(0, .ref 0), (1, .int x1), (2, .int x2), (3, .int x3), (4, .long l4), (6, .int x6)] (K, n, V, J, O) r (K, n, V', J, O) := by
  refine Ev.mk fun Q hq => ?_
  refine wp_iload dX11_planned_12 rfl ?_
  refine wp_aload_n (i := 0) dX11_planned_14 rfl rfl ?_
  refine wz_getI dX11_planned_15 (k0 hK) (f11_138 _ (by decide)) rfl ?_
  refine wp_icmp_ge 90 dX11_planned_18 (by decide) (fun q => ?_) (fun q => ?_)
  · replace hv := hv.1 q
    refine wp_iconst (v := 0) dX11_planned_90 (by decide) ?_
    refine wx_istore (ls' := [(0, .ref 0), (1, .int x1), (2, .int x2), (3, .int x3), (4, .long l4), (6, .int (0 : Int32))]) dX11_planned_91 (by decide) rfl ?_
    exact hv Q hq
  · replace hv := hv.2 q
    refine wp_aload_n (i := 0) dX11_planned_21 rfl rfl ?_
    refine wz_getR (b := 32) dX11_planned_22 (k0 hK) (f11_29 _ (by decide)) rfl ?_
    refine wp_iload dX11_planned_25 rfl ?_
    obtain ⟨z1, b2, o0, q3, hv⟩ := hv
    refine wz_aaloadR dX11_planned_27 (k32 hK) (by decide) z1 o0 ?_
    refine wz_getI dX11_planned_28 (ak_0 q3) (f11_149 _ (by decide)) rfl ?_
    refine wp_if_ne 37 dX11_planned_31 (by decide) (fun q => ?_) (fun q => ?_)
    · replace hv := hv.1 q
      refine wp_aload_n (i := 0) dX11_planned_37 rfl rfl ?_
      refine wp_iload dX11_planned_38 rfl ?_
      refine wp_iload_n (i := 3) dX11_planned_40 rfl rfl ?_
      obtain ⟨v4, hE, hv⟩ := hv
      refine wz_callV (vs := [.int x6, .int x3]) (st := []) dX11_planned_41 (k0 hK) rfl k11_261_11 hE rfl (Nat.le_of_ble_eq_true rfl) (Nat.le_of_ble_eq_true rfl) ?_
      change wp _ _ _ _ _ [.int v4] _ _ _
      refine wx_istore (ls' := [(0, .ref 0), (1, .int x1), (2, .int x2), (3, .int x3), (4, .long l4), (6, .int x6), (7, .int v4)]) dX11_planned_44 (by decide) rfl ?_
      refine wp_iload dX11_planned_46 rfl ?_
      refine wp_bipush (v := -2) dX11_planned_48 (by decide) ?_
      refine wp_icmp_ne 56 dX11_planned_50 (by decide) (fun q => ?_) (fun q => ?_)
      · replace hv := hv.1 q
        refine wp_lload dX11_planned_56 rfl ?_
        refine wp_aload_n (i := 0) dX11_planned_58 rfl rfl ?_
        refine wz_getR (b := 32) dX11_planned_59 (k0 hK) (f11_29 _ (by decide)) rfl ?_
        refine wp_iload dX11_planned_62 rfl ?_
        obtain ⟨z5, b6, o0, q7, hv⟩ := hv
        refine wz_aaloadR dX11_planned_64 (k32 hK) (by decide) z5 o0 ?_
        refine wz_getI dX11_planned_65 (ak_0 q7) (f11_149 _ (by decide)) rfl ?_
        refine wp_i2l dX11_planned_68 ?_
        refine wp_aload_n (i := 0) dX11_planned_69 rfl rfl ?_
        refine wz_getR (b := 34) dX11_planned_70 (k0 hK) (f11_46 _ (by decide)) rfl ?_
        refine wp_iload dX11_planned_73 rfl ?_
        obtain ⟨z8, hv⟩ := hv
        refine wz_aaload (b := 34) dX11_planned_75 (k34 hK) (by decide) z8 ?_
        refine wp_iload dX11_planned_76 rfl ?_
        obtain ⟨z9, hv⟩ := hv
        refine wz_iaload dX11_planned_78 (kr34 hK (in_lt z8)) z9 ?_
        refine wp_i2l dX11_planned_79 ?_
        refine wp_lmul dX11_planned_80 ?_
        refine wp_ladd dX11_planned_81 ?_
        refine wx_lstore (ls' := [(0, .ref 0), (1, .int x1), (2, .int x2), (3, .int x3), (4, .long (l4 + (((V b6 0).toInt64) * ((V (34 + 1 + (x6).toNatClampNeg) (v4).toNatClampNeg).toInt64)))), (6, .int x6), (7, .int v4)]) dX11_planned_82 (by decide) rfl ?_
        refine wx_iinc (v := 1) (ls' := [(0, .ref 0), (1, .int x1), (2, .int x2), (3, .int x3), (4, .long (l4 + (((V b6 0).toInt64) * ((V (34 + 1 + (x6).toNatClampNeg) (v4).toNatClampNeg).toInt64)))), (6, .int (x6 + 1)), (7, .int v4)]) dX11_planned_84 rfl (by decide) (by decide) rfl ?_
        refine wp_goto 12 dX11_planned_87 (by decide) ?_
        refine wx_sub (ls' := [(0, .ref 0), (1, .int x1), (2, .int x2), (3, .int x3), (4, .long (l4 + (((V b6 0).toInt64) * ((V (34 + 1 + (x6).toNatClampNeg) (v4).toNatClampNeg).toInt64)))), (6, .int (x6 + 1))]) [0, 1, 2, 3, 4, 5] rfl ?_
        exact hv Q hq
      · replace hv := hv.2 q
        refine wp_bipush (v := -2) dX11_planned_53 (by decide) ?_
        obtain ⟨rfl, rfl⟩ := hv
        exact wp_ireturn dX11_planned_55 rfl rfl rfl hq
    · replace hv := hv.2 q
      refine wp_goto 84 dX11_planned_34 (by decide) ?_
      refine wx_iinc (v := 1) (ls' := [(0, .ref 0), (1, .int x1), (2, .int x2), (3, .int x3), (4, .long l4), (6, .int (x6 + 1))]) dX11_planned_84 rfl (by decide) (by decide) rfl ?_
      refine wp_goto 12 dX11_planned_87 (by decide) ?_
      exact hv Q hq
theorem wX11_planned_93 {x1 : Int32} {x2 : Int32} {x3 : Int32} {l4 : Int64} {x6 : Int32} (hK : StK K)  (hv : ((x3 ≤ x6 → (r = some (.int (if (1999999999 : Int64) < l4 then (1999999999 : Int64) else l4).toInt32) ∧ V' = V)) ∧ (¬ x3 ≤ x6 → (vp_in x6 10 ∧ (vp_in (V 46 (x6).toNatClampNeg) 10 ∧ Ev G (d + 1) mX11_planned 93 [(0, .ref 0), (1, .int x1), (2, .int x2), (3, .int x3), (4, .long (l4 + ((x2.toInt64) * ((V 45 ((V 46 (x6).toNatClampNeg)).toNatClampNeg).toInt64)))), (6, .int (x6 + 1))] (K, n, V, J, O) r (K, n, V', J, O)))))) : Ev G (d + 1) mX11_planned 93 [(0, .ref 0), (1, .int x1), (2, .int x2), (3, .int x3), (4, .long l4), (6, .int x6)] (K, n, V, J, O) r (K, n, V', J, O) := by
  refine Ev.mk fun Q hq => ?_
  refine wp_iload dX11_planned_93 rfl ?_
  refine wp_iload_n (i := 3) dX11_planned_95 rfl rfl ?_
  refine wp_icmp_ge 126 dX11_planned_96 (by decide) (fun q => ?_) (fun q => ?_)
  · replace hv := hv.1 q
    refine wp_lload dX11_planned_126 rfl ?_
    refine wp_ldc2 (v := 1999999999) dX11_planned_128 q11_264 ?_
    refine wp_mminL dX11_planned_131 ma11_266 mminL1 mth2 mminL3 (Nat.le_of_ble_eq_true rfl) ⟨Nat.le_refl _, Nat.le_refl _⟩ ?_
    refine wp_l2i dX11_planned_134 ?_
    obtain ⟨rfl, rfl⟩ := hv
    exact wp_ireturn dX11_planned_135 rfl rfl rfl hq
  · replace hv := hv.2 q
    refine wp_lload dX11_planned_99 rfl ?_
    refine wp_iload_n (i := 2) dX11_planned_101 rfl rfl ?_
    refine wp_i2l dX11_planned_102 ?_
    refine wp_aload_n (i := 0) dX11_planned_103 rfl rfl ?_
    refine wz_getR (b := 45) dX11_planned_104 (k0 hK) (f11_49 _ (by decide)) rfl ?_
    refine wp_aload_n (i := 0) dX11_planned_107 rfl rfl ?_
    refine wz_getR (b := 46) dX11_planned_108 (k0 hK) (f11_52 _ (by decide)) rfl ?_
    refine wp_iload dX11_planned_111 rfl ?_
    obtain ⟨z1, hv⟩ := hv
    refine wz_iaload dX11_planned_113 (k46 hK) z1 ?_
    obtain ⟨z2, hv⟩ := hv
    refine wz_iaload dX11_planned_114 (k45 hK) z2 ?_
    refine wp_i2l dX11_planned_115 ?_
    refine wp_lmul dX11_planned_116 ?_
    refine wp_ladd dX11_planned_117 ?_
    refine wx_lstore (ls' := [(0, .ref 0), (1, .int x1), (2, .int x2), (3, .int x3), (4, .long (l4 + ((x2.toInt64) * ((V 45 ((V 46 (x6).toNatClampNeg)).toNatClampNeg).toInt64)))), (6, .int x6)]) dX11_planned_118 (by decide) rfl ?_
    refine wx_iinc (v := 1) (ls' := [(0, .ref 0), (1, .int x1), (2, .int x2), (3, .int x3), (4, .long (l4 + ((x2.toInt64) * ((V 45 ((V 46 (x6).toNatClampNeg)).toNatClampNeg).toInt64)))), (6, .int (x6 + 1))]) dX11_planned_120 rfl (by decide) (by decide) rfl ?_
    refine wp_goto 93 dX11_planned_123 (by decide) ?_
    exact hv Q hq
theorem wX11_choose_0 {x1 : Int32} (hK : StK K)  (hv : Ev G d mX11_choose 4 [(0, .ref 0), (1, .int x1), (2, .int (0 : Int32)), (3, .int (0 : Int32))] (K, n, V, J, O) r (K, n, V', J, O)) : Ev G d mX11_choose 0 [(0, .ref 0), (1, .int x1)] (K, n, V, J, O) r (K, n, V', J, O) := by
  refine Ev.mk fun Q hq => ?_
  refine wp_iconst (v := 0) dX11_choose_0 (by decide) ?_
  refine wx_istore_n (ls' := [(0, .ref 0), (1, .int x1), (2, .int (0 : Int32))]) (i := 2) dX11_choose_1 rfl (by decide) rfl ?_
  refine wp_iconst (v := 0) dX11_choose_2 (by decide) ?_
  refine wx_istore_n (ls' := [(0, .ref 0), (1, .int x1), (2, .int (0 : Int32)), (3, .int (0 : Int32))]) (i := 3) dX11_choose_3 rfl (by decide) rfl ?_
  exact hv Q hq
theorem wX11_choose_4 {x1 : Int32} {x2 : Int32} {x3 : Int32} (hK : StK K)  (hv : (((V 0 7) ≤ x3 → (r = some (.int x2) ∧ V' = V)) ∧ (¬ (V 0 7) ≤ x3 → ((((x1 >>> (x3 &&& 31)) &&& (1 : Int32)) ≠ (1 : Int32) → Ev G d mX11_choose 4 [(0, .ref 0), (1, .int x1), (2, .int x2), (3, .int (x3 + 1))] (K, n, V, J, O) r (K, n, V', J, O)) ∧ (((x1 >>> (x3 &&& 31)) &&& (1 : Int32)) = (1 : Int32) → (vp_in x2 10 ∧ Ev G d mX11_choose 4 [(0, .ref 0), (1, .int x1), (2, .int (x2 + 1)), (3, .int (x3 + 1))] (K, n, (up2 V 46 (x2).toNatClampNeg x3), J, O) r (K, n, V', J, O))))))) : Ev G d mX11_choose 4 [(0, .ref 0), (1, .int x1), (2, .int x2), (3, .int x3)] (K, n, V, J, O) r (K, n, V', J, O) := by
  refine Ev.mk fun Q hq => ?_
  refine wp_iload_n (i := 3) dX11_choose_4 rfl rfl ?_
  refine wp_aload_n (i := 0) dX11_choose_5 rfl rfl ?_
  refine wz_getI dX11_choose_6 (k0 hK) (f11_91 _ (by decide)) rfl ?_
  refine wp_icmp_ge 37 dX11_choose_9 (by decide) (fun q => ?_) (fun q => ?_)
  · replace hv := hv.1 q
    refine wp_iload_n (i := 2) dX11_choose_37 rfl rfl ?_
    obtain ⟨rfl, rfl⟩ := hv
    exact wp_ireturn dX11_choose_38 rfl rfl rfl hq
  · replace hv := hv.2 q
    refine wp_iload_n (i := 1) dX11_choose_12 rfl rfl ?_
    refine wp_iload_n (i := 3) dX11_choose_13 rfl rfl ?_
    refine wp_ishr dX11_choose_14 ?_
    refine wp_iconst (v := 1) dX11_choose_15 (by decide) ?_
    refine wp_iand dX11_choose_16 ?_
    refine wp_iconst (v := 1) dX11_choose_17 (by decide) ?_
    refine wp_icmp_ne 31 dX11_choose_18 (by decide) (fun q => ?_) (fun q => ?_)
    · replace hv := hv.1 q
      refine wx_iinc (v := 1) (ls' := [(0, .ref 0), (1, .int x1), (2, .int x2), (3, .int (x3 + 1))]) dX11_choose_31 rfl (by decide) (by decide) rfl ?_
      refine wp_goto 4 dX11_choose_34 (by decide) ?_
      exact hv Q hq
    · replace hv := hv.2 q
      refine wp_aload_n (i := 0) dX11_choose_21 rfl rfl ?_
      refine wz_getR (b := 46) dX11_choose_22 (k0 hK) (f11_52 _ (by decide)) rfl ?_
      refine wp_iload_n (i := 2) dX11_choose_25 rfl rfl ?_
      refine wp_iload_n (i := 3) dX11_choose_26 rfl rfl ?_
      obtain ⟨z1, hv⟩ := hv
      refine wz_iastore dX11_choose_27 (k46 hK) z1 ?_
      refine wx_iinc (v := 1) (ls' := [(0, .ref 0), (1, .int x1), (2, .int (x2 + 1)), (3, .int x3)]) dX11_choose_28 rfl (by decide) (by decide) rfl ?_
      refine wx_iinc (v := 1) (ls' := [(0, .ref 0), (1, .int x1), (2, .int (x2 + 1)), (3, .int (x3 + 1))]) dX11_choose_31 rfl (by decide) (by decide) rfl ?_
      refine wp_goto 4 dX11_choose_34 (by decide) ?_
      exact hv Q hq
theorem wX11_cheapest_0 {x1 : Int32} {x2 : Int32} (hK : StK K)  (hv : Ev G d mX11_cheapest 6 [(0, .ref 0), (1, .int x1), (2, .int x2), (3, .int (-2 : Int32)), (4, .int (0 : Int32))] (K, n, V, J, O) r (K, n, V, J, O)) : Ev G d mX11_cheapest 0 [(0, .ref 0), (1, .int x1), (2, .int x2)] (K, n, V, J, O) r (K, n, V, J, O) := by
  refine Ev.mk fun Q hq => ?_
  refine wp_bipush (v := -2) dX11_cheapest_0 (by decide) ?_
  refine wx_istore_n (ls' := [(0, .ref 0), (1, .int x1), (2, .int x2), (3, .int (-2 : Int32))]) (i := 3) dX11_cheapest_2 rfl (by decide) rfl ?_
  refine wp_iconst (v := 0) dX11_cheapest_3 (by decide) ?_
  refine wx_istore (ls' := [(0, .ref 0), (1, .int x1), (2, .int x2), (3, .int (-2 : Int32)), (4, .int (0 : Int32))]) dX11_cheapest_4 (by decide) rfl ?_
  exact hv Q hq
theorem wX11_cheapest_6 {x1 : Int32} {x2 : Int32} {x3 : Int32} {x4 : Int32} (hK : StK K)  (hv : ((x2 ≤ x4 → r = some (.int x3)) ∧ (¬ x2 ≤ x4 → (vp_in x1 10 ∧ (vp_in x4 10 ∧ (vp_in (V 46 (x4).toNatClampNeg) 10 ∧ (((V (34 + 1 + (x1).toNatClampNeg) ((V 46 (x4).toNatClampNeg)).toNatClampNeg) = (-2 : Int32) → Ev G d mX11_cheapest 6 [(0, .ref 0), (1, .int x1), (2, .int x2), (3, .int x3), (4, .int (x4 + 1))] (K, n, V, J, O) r (K, n, V, J, O)) ∧ (¬ (V (34 + 1 + (x1).toNatClampNeg) ((V 46 (x4).toNatClampNeg)).toNatClampNeg) = (-2 : Int32) → ((x3 = (-2 : Int32) → (vp_in x4 10 ∧ Ev G d mX11_cheapest 6 [(0, .ref 0), (1, .int x1), (2, .int x2), (3, .int (V 46 (x4).toNatClampNeg)), (4, .int (x4 + 1))] (K, n, V, J, O) r (K, n, V, J, O))) ∧ (¬ x3 = (-2 : Int32) → (vp_in x1 10 ∧ (vp_in x3 10 ∧ (((V (34 + 1 + (x1).toNatClampNeg) (x3).toNatClampNeg) ≤ (V (34 + 1 + (x1).toNatClampNeg) ((V 46 (x4).toNatClampNeg)).toNatClampNeg) → Ev G d mX11_cheapest 6 [(0, .ref 0), (1, .int x1), (2, .int x2), (3, .int x3), (4, .int (x4 + 1))] (K, n, V, J, O) r (K, n, V, J, O)) ∧ (¬ (V (34 + 1 + (x1).toNatClampNeg) (x3).toNatClampNeg) ≤ (V (34 + 1 + (x1).toNatClampNeg) ((V 46 (x4).toNatClampNeg)).toNatClampNeg) → (vp_in x4 10 ∧ Ev G d mX11_cheapest 6 [(0, .ref 0), (1, .int x1), (2, .int x2), (3, .int (V 46 (x4).toNatClampNeg)), (4, .int (x4 + 1))] (K, n, V, J, O) r (K, n, V, J, O)))))))))))))))) : Ev G d mX11_cheapest 6 [(0, .ref 0), (1, .int x1), (2, .int x2), (3, .int x3), (4, .int x4)] (K, n, V, J, O) r (K, n, V, J, O) := by
  refine Ev.mk fun Q hq => ?_
  refine wp_iload dX11_cheapest_6 rfl ?_
  refine wp_iload_n (i := 2) dX11_cheapest_8 rfl rfl ?_
  refine wp_icmp_ge 68 dX11_cheapest_9 (by decide) (fun q => ?_) (fun q => ?_)
  · replace hv := hv.1 q
    refine wp_iload_n (i := 3) dX11_cheapest_68 rfl rfl ?_
    obtain rfl := hv
    exact wp_ireturn dX11_cheapest_69 rfl rfl rfl hq
  · replace hv := hv.2 q
    refine wp_aload_n (i := 0) dX11_cheapest_12 rfl rfl ?_
    refine wz_getR (b := 34) dX11_cheapest_13 (k0 hK) (f11_46 _ (by decide)) rfl ?_
    refine wp_iload_n (i := 1) dX11_cheapest_16 rfl rfl ?_
    obtain ⟨z1, hv⟩ := hv
    refine wz_aaload (b := 34) dX11_cheapest_17 (k34 hK) (by decide) z1 ?_
    refine wp_aload_n (i := 0) dX11_cheapest_18 rfl rfl ?_
    refine wz_getR (b := 46) dX11_cheapest_19 (k0 hK) (f11_52 _ (by decide)) rfl ?_
    refine wp_iload dX11_cheapest_22 rfl ?_
    obtain ⟨z2, hv⟩ := hv
    refine wz_iaload dX11_cheapest_24 (k46 hK) z2 ?_
    obtain ⟨z3, hv⟩ := hv
    refine wz_iaload dX11_cheapest_25 (kr34 hK (in_lt z1)) z3 ?_
    refine wx_istore (ls' := [(0, .ref 0), (1, .int x1), (2, .int x2), (3, .int x3), (4, .int x4), (5, .int (V (34 + 1 + (x1).toNatClampNeg) ((V 46 (x4).toNatClampNeg)).toNatClampNeg))]) dX11_cheapest_26 (by decide) rfl ?_
    refine wp_iload dX11_cheapest_28 rfl ?_
    refine wp_bipush (v := -2) dX11_cheapest_30 (by decide) ?_
    refine wp_icmp_eq 62 dX11_cheapest_32 (by decide) (fun q => ?_) (fun q => ?_)
    · replace hv := hv.1 q
      refine wx_iinc (v := 1) (ls' := [(0, .ref 0), (1, .int x1), (2, .int x2), (3, .int x3), (4, .int (x4 + 1)), (5, .int (V (34 + 1 + (x1).toNatClampNeg) ((V 46 (x4).toNatClampNeg)).toNatClampNeg))]) dX11_cheapest_62 rfl (by decide) (by decide) rfl ?_
      refine wp_goto 6 dX11_cheapest_65 (by decide) ?_
      refine wx_sub (ls' := [(0, .ref 0), (1, .int x1), (2, .int x2), (3, .int x3), (4, .int (x4 + 1))]) [0, 1, 2, 3, 4] rfl ?_
      exact hv Q hq
    · replace hv := hv.2 q
      refine wp_iload_n (i := 3) dX11_cheapest_35 rfl rfl ?_
      refine wp_bipush (v := -2) dX11_cheapest_36 (by decide) ?_
      refine wp_icmp_eq 54 dX11_cheapest_38 (by decide) (fun q => ?_) (fun q => ?_)
      · replace hv := hv.1 q
        refine wp_aload_n (i := 0) dX11_cheapest_54 rfl rfl ?_
        refine wz_getR (b := 46) dX11_cheapest_55 (k0 hK) (f11_52 _ (by decide)) rfl ?_
        refine wp_iload dX11_cheapest_58 rfl ?_
        obtain ⟨z4, hv⟩ := hv
        refine wz_iaload dX11_cheapest_60 (k46 hK) z4 ?_
        refine wx_istore_n (ls' := [(0, .ref 0), (1, .int x1), (2, .int x2), (3, .int (V 46 (x4).toNatClampNeg)), (4, .int x4), (5, .int (V (34 + 1 + (x1).toNatClampNeg) ((V 46 (x4).toNatClampNeg)).toNatClampNeg))]) (i := 3) dX11_cheapest_61 rfl (by decide) rfl ?_
        refine wx_iinc (v := 1) (ls' := [(0, .ref 0), (1, .int x1), (2, .int x2), (3, .int (V 46 (x4).toNatClampNeg)), (4, .int (x4 + 1)), (5, .int (V (34 + 1 + (x1).toNatClampNeg) ((V 46 (x4).toNatClampNeg)).toNatClampNeg))]) dX11_cheapest_62 rfl (by decide) (by decide) rfl ?_
        refine wp_goto 6 dX11_cheapest_65 (by decide) ?_
        refine wx_sub (ls' := [(0, .ref 0), (1, .int x1), (2, .int x2), (3, .int (V 46 (x4).toNatClampNeg)), (4, .int (x4 + 1))]) [0, 1, 2, 3, 4] rfl ?_
        exact hv Q hq
      · replace hv := hv.2 q
        refine wp_iload dX11_cheapest_41 rfl ?_
        refine wp_aload_n (i := 0) dX11_cheapest_43 rfl rfl ?_
        refine wz_getR (b := 34) dX11_cheapest_44 (k0 hK) (f11_46 _ (by decide)) rfl ?_
        refine wp_iload_n (i := 1) dX11_cheapest_47 rfl rfl ?_
        obtain ⟨z5, hv⟩ := hv
        refine wz_aaload (b := 34) dX11_cheapest_48 (k34 hK) (by decide) z5 ?_
        refine wp_iload_n (i := 3) dX11_cheapest_49 rfl rfl ?_
        obtain ⟨z6, hv⟩ := hv
        refine wz_iaload dX11_cheapest_50 (kr34 hK (in_lt z5)) z6 ?_
        refine wp_icmp_ge 62 dX11_cheapest_51 (by decide) (fun q => ?_) (fun q => ?_)
        · replace hv := hv.1 q
          refine wx_iinc (v := 1) (ls' := [(0, .ref 0), (1, .int x1), (2, .int x2), (3, .int x3), (4, .int (x4 + 1)), (5, .int (V (34 + 1 + (x1).toNatClampNeg) ((V 46 (x4).toNatClampNeg)).toNatClampNeg))]) dX11_cheapest_62 rfl (by decide) (by decide) rfl ?_
          refine wp_goto 6 dX11_cheapest_65 (by decide) ?_
          refine wx_sub (ls' := [(0, .ref 0), (1, .int x1), (2, .int x2), (3, .int x3), (4, .int (x4 + 1))]) [0, 1, 2, 3, 4] rfl ?_
          exact hv Q hq
        · replace hv := hv.2 q
          refine wp_aload_n (i := 0) dX11_cheapest_54 rfl rfl ?_
          refine wz_getR (b := 46) dX11_cheapest_55 (k0 hK) (f11_52 _ (by decide)) rfl ?_
          refine wp_iload dX11_cheapest_58 rfl ?_
          obtain ⟨z7, hv⟩ := hv
          refine wz_iaload dX11_cheapest_60 (k46 hK) z7 ?_
          refine wx_istore_n (ls' := [(0, .ref 0), (1, .int x1), (2, .int x2), (3, .int (V 46 (x4).toNatClampNeg)), (4, .int x4), (5, .int (V (34 + 1 + (x1).toNatClampNeg) ((V 46 (x4).toNatClampNeg)).toNatClampNeg))]) (i := 3) dX11_cheapest_61 rfl (by decide) rfl ?_
          refine wx_iinc (v := 1) (ls' := [(0, .ref 0), (1, .int x1), (2, .int x2), (3, .int (V 46 (x4).toNatClampNeg)), (4, .int (x4 + 1)), (5, .int (V (34 + 1 + (x1).toNatClampNeg) ((V 46 (x4).toNatClampNeg)).toNatClampNeg))]) dX11_cheapest_62 rfl (by decide) (by decide) rfl ?_
          refine wp_goto 6 dX11_cheapest_65 (by decide) ?_
          refine wx_sub (ls' := [(0, .ref 0), (1, .int x1), (2, .int x2), (3, .int (V 46 (x4).toNatClampNeg)), (4, .int (x4 + 1))]) [0, 1, 2, 3, 4] rfl ?_
          exact hv Q hq
theorem wX11_drift_0 {x1 : Int32} {x2 : Int32} (hK : StK K)  (hv : (∃ (v1 : Int32), Ev G d mX11_isWithin 0 [(0, .int x1), (1, .int (0 : Int32)), (2, .int (999 : Int32))] (K, n, V, J, O) (some (.int v1)) (K, n, V, J, O) ∧ ((v1 = 0 → (r = some (.int (-1 : Int32)) ∧ V' = V)) ∧ (¬ v1 = 0 → (∃ (v2 : Int32), Ev G d mX11_isWithin 0 [(0, .int x2), (1, .int (0 : Int32)), (2, .int (999 : Int32))] (K, n, V, J, O) (some (.int v2)) (K, n, V, J, O) ∧ ((v2 ≠ 0 → (((V 13 0) < (12 : Int32) → (∃ (v4 : Int32) (V3 : SV), Ev G d mX9_addDay 0 [(0, .ref 13), (1, .int x1), (2, .int x2)] (K, n, V, J, O) (some (.int v4)) (K, n, V3, J, O) ∧ (r = some (.int v4) ∧ V' = V3))) ∧ (¬ (V 13 0) < (12 : Int32) → (r = some (.int (-3 : Int32)) ∧ V' = V)))) ∧ (v2 = 0 → (r = some (.int (-1 : Int32)) ∧ V' = V)))))))) : Ev G (d + 1) mX11_drift 0 [(0, .ref 0), (1, .int x1), (2, .int x2)] (K, n, V, J, O) r (K, n, V', J, O) := by
  refine Ev.mk fun Q hq => ?_
  refine wp_iload_n (i := 1) dX11_drift_0 rfl rfl ?_
  refine wp_iconst (v := 0) dX11_drift_1 (by decide) ?_
  refine wp_sipush (v := 999) dX11_drift_2 (by decide) ?_
  obtain ⟨v1, hE, hv⟩ := hv
  refine wz_callS (vs := [.int x1, .int (0 : Int32), .int (999 : Int32)]) (st := []) dX11_drift_5 k11_110 hE rfl (Nat.le_of_ble_eq_true rfl) (Nat.le_of_ble_eq_true rfl) ?_
  change wp _ _ _ _ _ [.int v1] _ _ _
  refine wp_if_eq 22 dX11_drift_8 (by decide) (fun q => ?_) (fun q => ?_)
  · replace hv := hv.1 q
    refine wp_iconst (v := -1) dX11_drift_22 (by decide) ?_
    obtain ⟨rfl, rfl⟩ := hv
    exact wp_ireturn dX11_drift_23 rfl rfl rfl hq
  · replace hv := hv.2 q
    refine wp_iload_n (i := 2) dX11_drift_11 rfl rfl ?_
    refine wp_iconst (v := 0) dX11_drift_12 (by decide) ?_
    refine wp_sipush (v := 999) dX11_drift_13 (by decide) ?_
    obtain ⟨v2, hE, hv⟩ := hv
    refine wz_callS (vs := [.int x2, .int (0 : Int32), .int (999 : Int32)]) (st := []) dX11_drift_16 k11_110 hE rfl (Nat.le_of_ble_eq_true rfl) (Nat.le_of_ble_eq_true rfl) ?_
    change wp _ _ _ _ _ [.int v2] _ _ _
    refine wp_if_ne 24 dX11_drift_19 (by decide) (fun q => ?_) (fun q => ?_)
    · replace hv := hv.1 q
      refine wp_aload_n (i := 0) dX11_drift_24 rfl rfl ?_
      refine wz_getR (b := 13) dX11_drift_25 (k0 hK) (f11_19 _ (by decide)) rfl ?_
      refine wz_getI dX11_drift_28 (k13 hK) (f11_272 _ (by decide)) rfl ?_
      refine wp_bipush (v := 12) dX11_drift_31 (by decide) ?_
      refine wp_icmp_lt 41 dX11_drift_33 (by decide) (fun q => ?_) (fun q => ?_)
      · replace hv := hv.1 q
        refine wp_aload_n (i := 0) dX11_drift_41 rfl rfl ?_
        refine wz_getR (b := 13) dX11_drift_42 (k0 hK) (f11_19 _ (by decide)) rfl ?_
        refine wp_iload_n (i := 1) dX11_drift_45 rfl rfl ?_
        refine wp_iload_n (i := 2) dX11_drift_46 rfl rfl ?_
        obtain ⟨v4, V3, hE, hv⟩ := hv
        refine wz_callV (vs := [.int x1, .int x2]) (st := []) dX11_drift_47 (k13 hK) rfl k11_275_9 hE rfl (Nat.le_of_ble_eq_true rfl) (Nat.le_of_ble_eq_true rfl) ?_
        change wp _ _ _ _ _ [.int v4] _ _ _
        obtain ⟨rfl, rfl⟩ := hv
        exact wp_ireturn dX11_drift_50 rfl rfl rfl hq
      · replace hv := hv.2 q
        refine wp_bipush (v := -3) dX11_drift_36 (by decide) ?_
        refine wp_goto 50 dX11_drift_38 (by decide) ?_
        obtain ⟨rfl, rfl⟩ := hv
        exact wp_ireturn dX11_drift_50 rfl rfl rfl hq
    · replace hv := hv.2 q
      refine wp_iconst (v := -1) dX11_drift_22 (by decide) ?_
      obtain ⟨rfl, rfl⟩ := hv
      exact wp_ireturn dX11_drift_23 rfl rfl rfl hq
theorem wX11_drifted_0 {x1 : Int32} {x2 : Int32} (hK : StK K)  (hv : (∃ (v1 : Int32), Ev G d mX11_isWithin 0 [(0, .int x1), (1, .int (0 : Int32)), (2, .int (999 : Int32))] (K, n, V, J, O) (some (.int v1)) (K, n, V, J, O) ∧ ((v1 = 0 → r = some (.int (-1 : Int32))) ∧ (¬ v1 = 0 → (((V 13 0) ≠ 0 → ((x2 = (0 : Int32) → (∃ (v2 : Int32), Ev G d mX9_leastDrift 0 [(0, .ref 13), (1, .int x1)] (K, n, V, J, O) (some (.int v2)) (K, n, V, J, O) ∧ r = some (.int v2))) ∧ (x2 = (1 : Int32) → (∃ (v3 : Int32), Ev G d mX9_ruledDrift 0 [(0, .ref 13), (1, .int x1), (2, .int (0 : Int32))] (K, n, V, J, O) (some (.int v3)) (K, n, V, J, O) ∧ r = some (.int v3))) ∧ (x2 = (2 : Int32) → (∃ (v4 : Int32), Ev G d mX9_ruledDrift 0 [(0, .ref 13), (1, .int x1), (2, .int (1 : Int32))] (K, n, V, J, O) (some (.int v4)) (K, n, V, J, O) ∧ r = some (.int v4))) ∧ ((¬ x2 = (0 : Int32) ∧ ¬ x2 = (1 : Int32) ∧ ¬ x2 = (2 : Int32)) → r = some (.int (-1 : Int32))))) ∧ ((V 13 0) = 0 → r = some (.int (-1 : Int32)))))))) : Ev G (d + 1) mX11_drifted 0 [(0, .ref 0), (1, .int x1), (2, .int x2)] (K, n, V, J, O) r (K, n, V, J, O) := by
  refine Ev.mk fun Q hq => ?_
  refine wp_iload_n (i := 1) dX11_drifted_0 rfl rfl ?_
  refine wp_iconst (v := 0) dX11_drifted_1 (by decide) ?_
  refine wp_sipush (v := 999) dX11_drifted_2 (by decide) ?_
  obtain ⟨v1, hE, hv⟩ := hv
  refine wz_callS (vs := [.int x1, .int (0 : Int32), .int (999 : Int32)]) (st := []) dX11_drifted_5 k11_110 hE rfl (Nat.le_of_ble_eq_true rfl) (Nat.le_of_ble_eq_true rfl) ?_
  change wp _ _ _ _ _ [.int v1] _ _ _
  refine wp_if_eq 21 dX11_drifted_8 (by decide) (fun q => ?_) (fun q => ?_)
  · replace hv := hv.1 q
    refine wp_iconst (v := -1) dX11_drifted_21 (by decide) ?_
    obtain rfl := hv
    exact wp_ireturn dX11_drifted_22 rfl rfl rfl hq
  · replace hv := hv.2 q
    refine wp_aload_n (i := 0) dX11_drifted_11 rfl rfl ?_
    refine wz_getR (b := 13) dX11_drifted_12 (k0 hK) (f11_19 _ (by decide)) rfl ?_
    refine wz_getI dX11_drifted_15 (k13 hK) (f11_272 _ (by decide)) rfl ?_
    refine wp_if_ne 23 dX11_drifted_18 (by decide) (fun q => ?_) (fun q => ?_)
    · replace hv := hv.1 q
      refine wp_iload_n (i := 2) dX11_drifted_23 rfl rfl ?_
      by_cases q0 : x2 = (0 : Int32)
      · refine wx_tableIn (off := 28) (0 : Int32) q0 52 dX11_drifted_24 (by decide) (by decide) (by decide +kernel) (by decide) ?_
        replace hv := hv.1 q0
        refine wp_aload_n (i := 0) dX11_drifted_52 rfl rfl ?_
        refine wz_getR (b := 13) dX11_drifted_53 (k0 hK) (f11_19 _ (by decide)) rfl ?_
        refine wp_iload_n (i := 1) dX11_drifted_56 rfl rfl ?_
        obtain ⟨v2, hE, hv⟩ := hv
        refine wz_callV (vs := [.int x1]) (st := []) dX11_drifted_57 (k13 hK) rfl k11_278_9 hE rfl (Nat.le_of_ble_eq_true rfl) (Nat.le_of_ble_eq_true rfl) ?_
        change wp _ _ _ _ _ [.int v2] _ _ _
        obtain rfl := hv
        exact wp_ireturn dX11_drifted_60 rfl rfl rfl hq
      by_cases q1 : x2 = (1 : Int32)
      · refine wx_tableIn (off := 37) (1 : Int32) q1 61 dX11_drifted_24 (by decide) (by decide) (by decide +kernel) (by decide) ?_
        replace hv := hv.2.1 q1
        refine wp_aload_n (i := 0) dX11_drifted_61 rfl rfl ?_
        refine wz_getR (b := 13) dX11_drifted_62 (k0 hK) (f11_19 _ (by decide)) rfl ?_
        refine wp_iload_n (i := 1) dX11_drifted_65 rfl rfl ?_
        refine wp_iconst (v := 0) dX11_drifted_66 (by decide) ?_
        obtain ⟨v3, hE, hv⟩ := hv
        refine wz_callV (vs := [.int x1, .int (0 : Int32)]) (st := []) dX11_drifted_67 (k13 hK) rfl k11_281_9 hE rfl (Nat.le_of_ble_eq_true rfl) (Nat.le_of_ble_eq_true rfl) ?_
        change wp _ _ _ _ _ [.int v3] _ _ _
        obtain rfl := hv
        exact wp_ireturn dX11_drifted_70 rfl rfl rfl hq
      by_cases q2 : x2 = (2 : Int32)
      · refine wx_tableIn (off := 47) (2 : Int32) q2 71 dX11_drifted_24 (by decide) (by decide) (by decide +kernel) (by decide) ?_
        replace hv := hv.2.2.1 q2
        refine wp_aload_n (i := 0) dX11_drifted_71 rfl rfl ?_
        refine wz_getR (b := 13) dX11_drifted_72 (k0 hK) (f11_19 _ (by decide)) rfl ?_
        refine wp_iload_n (i := 1) dX11_drifted_75 rfl rfl ?_
        refine wp_iconst (v := 1) dX11_drifted_76 (by decide) ?_
        obtain ⟨v4, hE, hv⟩ := hv
        refine wz_callV (vs := [.int x1, .int (1 : Int32)]) (st := []) dX11_drifted_77 (k13 hK) rfl k11_281_9 hE rfl (Nat.le_of_ble_eq_true rfl) (Nat.le_of_ble_eq_true rfl) ?_
        change wp _ _ _ _ _ [.int v4] _ _ _
        obtain rfl := hv
        exact wp_ireturn dX11_drifted_80 rfl rfl rfl hq
      refine wp_tableOut 81 dX11_drifted_24 (by have n0 := lv_neT q0 (show ((0 : Int32)).toInt = 0 by decide); have n1 := lv_neT q1 (show ((1 : Int32)).toInt = 1 by decide); have n2 := lv_neT q2 (show ((2 : Int32)).toInt = 2 by decide); omega) (by decide) ?_
      replace hv := hv.2.2.2 ⟨q0, q1, q2⟩
      refine wp_iconst (v := -1) dX11_drifted_81 (by decide) ?_
      obtain rfl := hv
      exact wp_ireturn dX11_drifted_82 rfl rfl rfl hq
    · replace hv := hv.2 q
      refine wp_iconst (v := -1) dX11_drifted_21 (by decide) ?_
      obtain rfl := hv
      exact wp_ireturn dX11_drifted_22 rfl rfl rfl hq
theorem wX11_undrift_0  (hK : StK K)  (hv : (r = some (.int (V 13 0)) ∧ V' = (up2 V 13 0 (0 : Int32)))) : Ev G d mX11_undrift 0 [(0, .ref 0)] (K, n, V, J, O) r (K, n, V', J, O) := by
  refine Ev.mk fun Q hq => ?_
  refine wp_aload_n (i := 0) dX11_undrift_0 rfl rfl ?_
  refine wz_getR (b := 13) dX11_undrift_1 (k0 hK) (f11_19 _ (by decide)) rfl ?_
  refine wz_getI dX11_undrift_4 (k13 hK) (f11_272 _ (by decide)) rfl ?_
  refine wx_istore_n (ls' := [(0, .ref 0), (1, .int (V 13 0))]) (i := 1) dX11_undrift_7 rfl (by decide) rfl ?_
  refine wp_aload_n (i := 0) dX11_undrift_8 rfl rfl ?_
  refine wz_getR (b := 13) dX11_undrift_9 (k0 hK) (f11_19 _ (by decide)) rfl ?_
  refine wp_iconst (v := 0) dX11_undrift_12 (by decide) ?_
  refine wz_putI dX11_undrift_13 (k13 hK) (w11_272 _ (by decide)) rfl ?_
  refine wp_iload_n (i := 1) dX11_undrift_16 rfl rfl ?_
  obtain ⟨rfl, rfl⟩ := hv
  exact wp_ireturn dX11_undrift_17 rfl rfl rfl hq
theorem wX11_cell_0 {x1 : Int32} (hK : StK K)  (hv : (∃ (v1 : Int32), Ev G d mX11_isValue 0 [(0, .int x1)] (K, n, V, J, O) (some (.int v1)) (K, n, V, J, O) ∧ ((v1 ≠ 0 → (((V 13 1) < (60 : Int32) → (∃ (v3 : Int32) (V2 : SV), Ev G d mX9_addCell 0 [(0, .ref 13), (1, .int x1)] (K, n, V, J, O) (some (.int v3)) (K, n, V2, J, O) ∧ (r = some (.int v3) ∧ V' = V2))) ∧ (¬ (V 13 1) < (60 : Int32) → (r = some (.int (-3 : Int32)) ∧ V' = V)))) ∧ (v1 = 0 → (r = some (.int (-1 : Int32)) ∧ V' = V))))) : Ev G (d + 1) mX11_cell 0 [(0, .ref 0), (1, .int x1)] (K, n, V, J, O) r (K, n, V', J, O) := by
  refine Ev.mk fun Q hq => ?_
  refine wp_iload_n (i := 1) dX11_cell_0 rfl rfl ?_
  obtain ⟨v1, hE, hv⟩ := hv
  refine wz_callS (vs := [.int x1]) (st := []) dX11_cell_1 k11_75 hE rfl (Nat.le_of_ble_eq_true rfl) (Nat.le_of_ble_eq_true rfl) ?_
  change wp _ _ _ _ _ [.int v1] _ _ _
  refine wp_if_ne 9 dX11_cell_4 (by decide) (fun q => ?_) (fun q => ?_)
  · replace hv := hv.1 q
    refine wp_aload_n (i := 0) dX11_cell_9 rfl rfl ?_
    refine wz_getR (b := 13) dX11_cell_10 (k0 hK) (f11_19 _ (by decide)) rfl ?_
    refine wz_getI dX11_cell_13 (k13 hK) (f11_285 _ (by decide)) rfl ?_
    refine wp_bipush (v := 60) dX11_cell_16 (by decide) ?_
    refine wp_icmp_lt 26 dX11_cell_18 (by decide) (fun q => ?_) (fun q => ?_)
    · replace hv := hv.1 q
      refine wp_aload_n (i := 0) dX11_cell_26 rfl rfl ?_
      refine wz_getR (b := 13) dX11_cell_27 (k0 hK) (f11_19 _ (by decide)) rfl ?_
      refine wp_iload_n (i := 1) dX11_cell_30 rfl rfl ?_
      obtain ⟨v3, V2, hE, hv⟩ := hv
      refine wz_callV (vs := [.int x1]) (st := []) dX11_cell_31 (k13 hK) rfl k11_288_9 hE rfl (Nat.le_of_ble_eq_true rfl) (Nat.le_of_ble_eq_true rfl) ?_
      change wp _ _ _ _ _ [.int v3] _ _ _
      obtain ⟨rfl, rfl⟩ := hv
      exact wp_ireturn dX11_cell_34 rfl rfl rfl hq
    · replace hv := hv.2 q
      refine wp_bipush (v := -3) dX11_cell_21 (by decide) ?_
      refine wp_goto 34 dX11_cell_23 (by decide) ?_
      obtain ⟨rfl, rfl⟩ := hv
      exact wp_ireturn dX11_cell_34 rfl rfl rfl hq
  · replace hv := hv.2 q
    refine wp_iconst (v := -1) dX11_cell_7 (by decide) ?_
    obtain ⟨rfl, rfl⟩ := hv
    exact wp_ireturn dX11_cell_8 rfl rfl rfl hq
theorem wX11_misses_0 {x1 : Int32} {x2 : Int32} {x3 : Int32} (hK : StK K)  (hv : (∃ (v1 : Int32), Ev G d mX11_isWithin 0 [(0, .int x1), (1, .int (1 : Int32)), (2, .int (8 : Int32))] (K, n, V, J, O) (some (.int v1)) (K, n, V, J, O) ∧ ((v1 = 0 → (r = some (.int (-1 : Int32)) ∧ V' = V)) ∧ (¬ v1 = 0 → (∃ (v2 : Int32), Ev G d mX11_isWithin 0 [(0, .int x2), (1, .int (1 : Int32)), (2, .int (8 : Int32))] (K, n, V, J, O) (some (.int v2)) (K, n, V, J, O) ∧ ((v2 = 0 → (r = some (.int (-1 : Int32)) ∧ V' = V)) ∧ (¬ v2 = 0 → (((V 13 1) ≠ 0 → ((x3 = (0 : Int32) → (∃ (v4 : Int32) (V3 : SV), Ev G d mX9_missesByUsed 0 [(0, .ref 13), (1, .int x1), (2, .int x2)] (K, n, V, J, O) (some (.int v4)) (K, n, V3, J, O) ∧ (r = some (.int v4) ∧ V' = V3))) ∧ (x3 = (1 : Int32) → (∃ (v6 : Int32) (V5 : SV), Ev G d mX9_missesByComing 0 [(0, .ref 13), (1, .int x1), (2, .int x2)] (K, n, V, J, O) (some (.int v6)) (K, n, V5, J, O) ∧ (r = some (.int v6) ∧ V' = V5))) ∧ ((¬ x3 = (0 : Int32) ∧ ¬ x3 = (1 : Int32)) → (r = some (.int (-1 : Int32)) ∧ V' = V)))) ∧ ((V 13 1) = 0 → (r = some (.int (-1 : Int32)) ∧ V' = V)))))))))) : Ev G (d + 1) mX11_misses 0 [(0, .ref 0), (1, .int x1), (2, .int x2), (3, .int x3)] (K, n, V, J, O) r (K, n, V', J, O) := by
  refine Ev.mk fun Q hq => ?_
  refine wp_iload_n (i := 1) dX11_misses_0 rfl rfl ?_
  refine wp_iconst (v := 1) dX11_misses_1 (by decide) ?_
  refine wp_bipush (v := 8) dX11_misses_2 (by decide) ?_
  obtain ⟨v1, hE, hv⟩ := hv
  refine wz_callS (vs := [.int x1, .int (1 : Int32), .int (8 : Int32)]) (st := []) dX11_misses_4 k11_110 hE rfl (Nat.le_of_ble_eq_true rfl) (Nat.le_of_ble_eq_true rfl) ?_
  change wp _ _ _ _ _ [.int v1] _ _ _
  refine wp_if_eq 30 dX11_misses_7 (by decide) (fun q => ?_) (fun q => ?_)
  · replace hv := hv.1 q
    refine wp_iconst (v := -1) dX11_misses_30 (by decide) ?_
    obtain ⟨rfl, rfl⟩ := hv
    exact wp_ireturn dX11_misses_31 rfl rfl rfl hq
  · replace hv := hv.2 q
    refine wp_iload_n (i := 2) dX11_misses_10 rfl rfl ?_
    refine wp_iconst (v := 1) dX11_misses_11 (by decide) ?_
    refine wp_bipush (v := 8) dX11_misses_12 (by decide) ?_
    obtain ⟨v2, hE, hv⟩ := hv
    refine wz_callS (vs := [.int x2, .int (1 : Int32), .int (8 : Int32)]) (st := []) dX11_misses_14 k11_110 hE rfl (Nat.le_of_ble_eq_true rfl) (Nat.le_of_ble_eq_true rfl) ?_
    change wp _ _ _ _ _ [.int v2] _ _ _
    refine wp_if_eq 30 dX11_misses_17 (by decide) (fun q => ?_) (fun q => ?_)
    · replace hv := hv.1 q
      refine wp_iconst (v := -1) dX11_misses_30 (by decide) ?_
      obtain ⟨rfl, rfl⟩ := hv
      exact wp_ireturn dX11_misses_31 rfl rfl rfl hq
    · replace hv := hv.2 q
      refine wp_aload_n (i := 0) dX11_misses_20 rfl rfl ?_
      refine wz_getR (b := 13) dX11_misses_21 (k0 hK) (f11_19 _ (by decide)) rfl ?_
      refine wz_getI dX11_misses_24 (k13 hK) (f11_285 _ (by decide)) rfl ?_
      refine wp_if_ne 32 dX11_misses_27 (by decide) (fun q => ?_) (fun q => ?_)
      · replace hv := hv.1 q
        refine wp_iload_n (i := 3) dX11_misses_32 rfl rfl ?_
        by_cases q0 : x3 = (0 : Int32)
        · refine wx_lookup (off := 27) (0 : Int32) q0 60 dX11_misses_33 (by decide +kernel) (by decide +kernel) (by decide) ?_
          replace hv := hv.1 q0
          refine wp_aload_n (i := 0) dX11_misses_60 rfl rfl ?_
          refine wz_getR (b := 13) dX11_misses_61 (k0 hK) (f11_19 _ (by decide)) rfl ?_
          refine wp_iload_n (i := 1) dX11_misses_64 rfl rfl ?_
          refine wp_iload_n (i := 2) dX11_misses_65 rfl rfl ?_
          obtain ⟨v4, V3, hE, hv⟩ := hv
          refine wz_callV (vs := [.int x1, .int x2]) (st := []) dX11_misses_66 (k13 hK) rfl k11_291_9 hE rfl (Nat.le_of_ble_eq_true rfl) (Nat.le_of_ble_eq_true rfl) ?_
          change wp _ _ _ _ _ [.int v4] _ _ _
          obtain ⟨rfl, rfl⟩ := hv
          exact wp_ireturn dX11_misses_69 rfl rfl rfl hq
        by_cases q1 : x3 = (1 : Int32)
        · refine wx_lookup (off := 37) (1 : Int32) q1 70 dX11_misses_33 (by decide +kernel) (by decide +kernel) (by decide) ?_
          replace hv := hv.2.1 q1
          refine wp_aload_n (i := 0) dX11_misses_70 rfl rfl ?_
          refine wz_getR (b := 13) dX11_misses_71 (k0 hK) (f11_19 _ (by decide)) rfl ?_
          refine wp_iload_n (i := 1) dX11_misses_74 rfl rfl ?_
          refine wp_iload_n (i := 2) dX11_misses_75 rfl rfl ?_
          obtain ⟨v6, V5, hE, hv⟩ := hv
          refine wz_callV (vs := [.int x1, .int x2]) (st := []) dX11_misses_76 (k13 hK) rfl k11_294_9 hE rfl (Nat.le_of_ble_eq_true rfl) (Nat.le_of_ble_eq_true rfl) ?_
          change wp _ _ _ _ _ [.int v6] _ _ _
          obtain ⟨rfl, rfl⟩ := hv
          exact wp_ireturn dX11_misses_79 rfl rfl rfl hq
        refine wp_lookup (off := 47) 80 dX11_misses_33 (by decide +kernel) (by show Op.lookupswitch.offset [(0, 27), (1, 37)] 47 _ = _; rw [lv_osw q0 (show ((0 : Int32)).toInt = 0 by decide), lv_osw q1 (show ((1 : Int32)).toInt = 1 by decide)]; try rfl) (by decide) ?_
        replace hv := hv.2.2 ⟨q0, q1⟩
        refine wp_iconst (v := -1) dX11_misses_80 (by decide) ?_
        obtain ⟨rfl, rfl⟩ := hv
        exact wp_ireturn dX11_misses_81 rfl rfl rfl hq
      · replace hv := hv.2 q
        refine wp_iconst (v := -1) dX11_misses_30 (by decide) ?_
        obtain ⟨rfl, rfl⟩ := hv
        exact wp_ireturn dX11_misses_31 rfl rfl rfl hq
theorem wX11_uncell_0  (hK : StK K)  (hv : (r = some (.int (V 13 1)) ∧ V' = (up2 V 13 1 (0 : Int32)))) : Ev G d mX11_uncell 0 [(0, .ref 0)] (K, n, V, J, O) r (K, n, V', J, O) := by
  refine Ev.mk fun Q hq => ?_
  refine wp_aload_n (i := 0) dX11_uncell_0 rfl rfl ?_
  refine wz_getR (b := 13) dX11_uncell_1 (k0 hK) (f11_19 _ (by decide)) rfl ?_
  refine wz_getI dX11_uncell_4 (k13 hK) (f11_285 _ (by decide)) rfl ?_
  refine wx_istore_n (ls' := [(0, .ref 0), (1, .int (V 13 1))]) (i := 1) dX11_uncell_7 rfl (by decide) rfl ?_
  refine wp_aload_n (i := 0) dX11_uncell_8 rfl rfl ?_
  refine wz_getR (b := 13) dX11_uncell_9 (k0 hK) (f11_19 _ (by decide)) rfl ?_
  refine wp_iconst (v := 0) dX11_uncell_12 (by decide) ?_
  refine wz_putI dX11_uncell_13 (k13 hK) (w11_285 _ (by decide)) rfl ?_
  refine wp_iload_n (i := 1) dX11_uncell_16 rfl rfl ?_
  obtain ⟨rfl, rfl⟩ := hv
  exact wp_ireturn dX11_uncell_17 rfl rfl rfl hq
theorem wX11_key_0 {x1 : Int32} {x2 : Int32} (hK : StK K)  (hv : (∃ (v1 : Int32), Ev G d mX11_isWithin 0 [(0, .int x1), (1, .int (0 : Int32)), (2, .int (99 : Int32))] (K, n, V, J, O) (some (.int v1)) (K, n, V, J, O) ∧ ((v1 = 0 → (r = some (.int (-1 : Int32)) ∧ V' = V)) ∧ (¬ v1 = 0 → (∃ (v2 : Int32), Ev G d mX11_isWithin 0 [(0, .int x2), (1, .int (0 : Int32)), (2, .int (99 : Int32))] (K, n, V, J, O) (some (.int v2)) (K, n, V, J, O) ∧ ((v2 ≠ 0 → (((V 13 2) < (9 : Int32) → (∃ (v4 : Int32) (V3 : SV), Ev G d mX9_addKey 0 [(0, .ref 13), (1, .int x1), (2, .int x2)] (K, n, V, J, O) (some (.int v4)) (K, n, V3, J, O) ∧ (r = some (.int v4) ∧ V' = V3))) ∧ (¬ (V 13 2) < (9 : Int32) → (r = some (.int (-3 : Int32)) ∧ V' = V)))) ∧ (v2 = 0 → (r = some (.int (-1 : Int32)) ∧ V' = V)))))))) : Ev G (d + 1) mX11_key 0 [(0, .ref 0), (1, .int x1), (2, .int x2)] (K, n, V, J, O) r (K, n, V', J, O) := by
  refine Ev.mk fun Q hq => ?_
  refine wp_iload_n (i := 1) dX11_key_0 rfl rfl ?_
  refine wp_iconst (v := 0) dX11_key_1 (by decide) ?_
  refine wp_bipush (v := 99) dX11_key_2 (by decide) ?_
  obtain ⟨v1, hE, hv⟩ := hv
  refine wz_callS (vs := [.int x1, .int (0 : Int32), .int (99 : Int32)]) (st := []) dX11_key_4 k11_110 hE rfl (Nat.le_of_ble_eq_true rfl) (Nat.le_of_ble_eq_true rfl) ?_
  change wp _ _ _ _ _ [.int v1] _ _ _
  refine wp_if_eq 20 dX11_key_7 (by decide) (fun q => ?_) (fun q => ?_)
  · replace hv := hv.1 q
    refine wp_iconst (v := -1) dX11_key_20 (by decide) ?_
    obtain ⟨rfl, rfl⟩ := hv
    exact wp_ireturn dX11_key_21 rfl rfl rfl hq
  · replace hv := hv.2 q
    refine wp_iload_n (i := 2) dX11_key_10 rfl rfl ?_
    refine wp_iconst (v := 0) dX11_key_11 (by decide) ?_
    refine wp_bipush (v := 99) dX11_key_12 (by decide) ?_
    obtain ⟨v2, hE, hv⟩ := hv
    refine wz_callS (vs := [.int x2, .int (0 : Int32), .int (99 : Int32)]) (st := []) dX11_key_14 k11_110 hE rfl (Nat.le_of_ble_eq_true rfl) (Nat.le_of_ble_eq_true rfl) ?_
    change wp _ _ _ _ _ [.int v2] _ _ _
    refine wp_if_ne 22 dX11_key_17 (by decide) (fun q => ?_) (fun q => ?_)
    · replace hv := hv.1 q
      refine wp_aload_n (i := 0) dX11_key_22 rfl rfl ?_
      refine wz_getR (b := 13) dX11_key_23 (k0 hK) (f11_19 _ (by decide)) rfl ?_
      refine wz_getI dX11_key_26 (k13 hK) (f11_297 _ (by decide)) rfl ?_
      refine wp_bipush (v := 9) dX11_key_29 (by decide) ?_
      refine wp_icmp_lt 39 dX11_key_31 (by decide) (fun q => ?_) (fun q => ?_)
      · replace hv := hv.1 q
        refine wp_aload_n (i := 0) dX11_key_39 rfl rfl ?_
        refine wz_getR (b := 13) dX11_key_40 (k0 hK) (f11_19 _ (by decide)) rfl ?_
        refine wp_iload_n (i := 1) dX11_key_43 rfl rfl ?_
        refine wp_iload_n (i := 2) dX11_key_44 rfl rfl ?_
        obtain ⟨v4, V3, hE, hv⟩ := hv
        refine wz_callV (vs := [.int x1, .int x2]) (st := []) dX11_key_45 (k13 hK) rfl k11_300_9 hE rfl (Nat.le_of_ble_eq_true rfl) (Nat.le_of_ble_eq_true rfl) ?_
        change wp _ _ _ _ _ [.int v4] _ _ _
        obtain ⟨rfl, rfl⟩ := hv
        exact wp_ireturn dX11_key_48 rfl rfl rfl hq
      · replace hv := hv.2 q
        refine wp_bipush (v := -3) dX11_key_34 (by decide) ?_
        refine wp_goto 48 dX11_key_36 (by decide) ?_
        obtain ⟨rfl, rfl⟩ := hv
        exact wp_ireturn dX11_key_48 rfl rfl rfl hq
    · replace hv := hv.2 q
      refine wp_iconst (v := -1) dX11_key_20 (by decide) ?_
      obtain ⟨rfl, rfl⟩ := hv
      exact wp_ireturn dX11_key_21 rfl rfl rfl hq
theorem wX11_leastLooks_0 {x1 : Int32} (hK : StK K)  (hv : (∃ (v1 : Int32), Ev G d mX11_isWithin 0 [(0, .int x1), (1, .int (0 : Int32)), (2, .int (99 : Int32))] (K, n, V, J, O) (some (.int v1)) (K, n, V, J, O) ∧ ((v1 = 0 → (r = some (.int (-1 : Int32)) ∧ V' = V)) ∧ (¬ v1 = 0 → (((V 13 2) ≠ 0 → (∃ (v3 : Int32) (V2 : SV), Ev G d mX9_fewestLooks 0 [(0, .ref 13), (1, .int x1)] (K, n, V, J, O) (some (.int v3)) (K, n, V2, J, O) ∧ (r = some (.int v3) ∧ V' = V2))) ∧ ((V 13 2) = 0 → (r = some (.int (-1 : Int32)) ∧ V' = V))))))) : Ev G (d + 1) mX11_leastLooks 0 [(0, .ref 0), (1, .int x1)] (K, n, V, J, O) r (K, n, V', J, O) := by
  refine Ev.mk fun Q hq => ?_
  refine wp_iload_n (i := 1) dX11_leastLooks_0 rfl rfl ?_
  refine wp_iconst (v := 0) dX11_leastLooks_1 (by decide) ?_
  refine wp_bipush (v := 99) dX11_leastLooks_2 (by decide) ?_
  obtain ⟨v1, hE, hv⟩ := hv
  refine wz_callS (vs := [.int x1, .int (0 : Int32), .int (99 : Int32)]) (st := []) dX11_leastLooks_4 k11_110 hE rfl (Nat.le_of_ble_eq_true rfl) (Nat.le_of_ble_eq_true rfl) ?_
  change wp _ _ _ _ _ [.int v1] _ _ _
  refine wp_if_eq 20 dX11_leastLooks_7 (by decide) (fun q => ?_) (fun q => ?_)
  · replace hv := hv.1 q
    refine wp_iconst (v := -1) dX11_leastLooks_20 (by decide) ?_
    obtain ⟨rfl, rfl⟩ := hv
    exact wp_ireturn dX11_leastLooks_21 rfl rfl rfl hq
  · replace hv := hv.2 q
    refine wp_aload_n (i := 0) dX11_leastLooks_10 rfl rfl ?_
    refine wz_getR (b := 13) dX11_leastLooks_11 (k0 hK) (f11_19 _ (by decide)) rfl ?_
    refine wz_getI dX11_leastLooks_14 (k13 hK) (f11_297 _ (by decide)) rfl ?_
    refine wp_if_ne 22 dX11_leastLooks_17 (by decide) (fun q => ?_) (fun q => ?_)
    · replace hv := hv.1 q
      refine wp_aload_n (i := 0) dX11_leastLooks_22 rfl rfl ?_
      refine wz_getR (b := 13) dX11_leastLooks_23 (k0 hK) (f11_19 _ (by decide)) rfl ?_
      refine wp_iload_n (i := 1) dX11_leastLooks_26 rfl rfl ?_
      obtain ⟨v3, V2, hE, hv⟩ := hv
      refine wz_callV (vs := [.int x1]) (st := []) dX11_leastLooks_27 (k13 hK) rfl k11_303_9 hE rfl (Nat.le_of_ble_eq_true rfl) (Nat.le_of_ble_eq_true rfl) ?_
      change wp _ _ _ _ _ [.int v3] _ _ _
      obtain ⟨rfl, rfl⟩ := hv
      exact wp_ireturn dX11_leastLooks_30 rfl rfl rfl hq
    · replace hv := hv.2 q
      refine wp_iconst (v := -1) dX11_leastLooks_20 (by decide) ?_
      obtain ⟨rfl, rfl⟩ := hv
      exact wp_ireturn dX11_leastLooks_21 rfl rfl rfl hq
theorem wX11_root_0  (hK : StK K)  (hv : r = some (.int (V 13 3))) : Ev G d mX11_root 0 [(0, .ref 0)] (K, n, V, J, O) r (K, n, V, J, O) := by
  refine Ev.mk fun Q hq => ?_
  refine wp_aload_n (i := 0) dX11_root_0 rfl rfl ?_
  refine wz_getR (b := 13) dX11_root_1 (k0 hK) (f11_19 _ (by decide)) rfl ?_
  refine wz_getI dX11_root_4 (k13 hK) (f11_306 _ (by decide)) rfl ?_
  obtain rfl := hv
  exact wp_ireturn dX11_root_7 rfl rfl rfl hq
theorem wX11_walk_0 {x1 : Int32} (hK : StK K)  (hv : (∃ (v1 : Int32), Ev G d mX11_isWithin 0 [(0, .int x1), (1, .int (0 : Int32)), (2, .int (1 : Int32))] (K, n, V, J, O) (some (.int v1)) (K, n, V, J, O) ∧ ((v1 ≠ 0 → (((V 1 3) < (4 : Int32) → ((x1 ≠ (1 : Int32) → (∃ (v3 : Int32) (V2 : SV), Ev G d mX8_addWalk 0 [(0, .ref 1), (1, .int (0 : Int32))] (K, n, V, J, O) (some (.int v3)) (K, n, V2, J, O) ∧ (r = some (.int v3) ∧ V' = V2))) ∧ (x1 = (1 : Int32) → (∃ (v5 : Int32) (V4 : SV), Ev G d mX8_addWalk 0 [(0, .ref 1), (1, .int (1 : Int32))] (K, n, V, J, O) (some (.int v5)) (K, n, V4, J, O) ∧ (r = some (.int v5) ∧ V' = V4))))) ∧ (¬ (V 1 3) < (4 : Int32) → (r = some (.int (-3 : Int32)) ∧ V' = V)))) ∧ (v1 = 0 → (r = some (.int (-1 : Int32)) ∧ V' = V))))) : Ev G (d + 1) mX11_walk 0 [(0, .ref 0), (1, .int x1)] (K, n, V, J, O) r (K, n, V', J, O) := by
  refine Ev.mk fun Q hq => ?_
  refine wp_iload_n (i := 1) dX11_walk_0 rfl rfl ?_
  refine wp_iconst (v := 0) dX11_walk_1 (by decide) ?_
  refine wp_iconst (v := 1) dX11_walk_2 (by decide) ?_
  obtain ⟨v1, hE, hv⟩ := hv
  refine wz_callS (vs := [.int x1, .int (0 : Int32), .int (1 : Int32)]) (st := []) dX11_walk_3 k11_110 hE rfl (Nat.le_of_ble_eq_true rfl) (Nat.le_of_ble_eq_true rfl) ?_
  change wp _ _ _ _ _ [.int v1] _ _ _
  refine wp_if_ne 11 dX11_walk_6 (by decide) (fun q => ?_) (fun q => ?_)
  · replace hv := hv.1 q
    refine wp_aload_n (i := 0) dX11_walk_11 rfl rfl ?_
    refine wz_getR (b := 1) dX11_walk_12 (k0 hK) (f11_10 _ (by decide)) rfl ?_
    refine wz_getI dX11_walk_15 (k1 hK) (f11_309 _ (by decide)) rfl ?_
    refine wp_iconst (v := 4) dX11_walk_18 (by decide) ?_
    refine wp_icmp_lt 27 dX11_walk_19 (by decide) (fun q => ?_) (fun q => ?_)
    · replace hv := hv.1 q
      refine wp_aload_n (i := 0) dX11_walk_27 rfl rfl ?_
      refine wz_getR (b := 1) dX11_walk_28 (k0 hK) (f11_10 _ (by decide)) rfl ?_
      refine wp_iload_n (i := 1) dX11_walk_31 rfl rfl ?_
      refine wp_iconst (v := 1) dX11_walk_32 (by decide) ?_
      refine wp_icmp_ne 40 dX11_walk_33 (by decide) (fun q => ?_) (fun q => ?_)
      · replace hv := hv.1 q
        refine wp_iconst (v := 0) dX11_walk_40 (by decide) ?_
        obtain ⟨v3, V2, hE, hv⟩ := hv
        refine wz_callV (vs := [.int (0 : Int32)]) (st := []) dX11_walk_41 (k1 hK) rfl k11_312_8 hE rfl (Nat.le_of_ble_eq_true rfl) (Nat.le_of_ble_eq_true rfl) ?_
        change wp _ _ _ _ _ [.int v3] _ _ _
        obtain ⟨rfl, rfl⟩ := hv
        exact wp_ireturn dX11_walk_44 rfl rfl rfl hq
      · replace hv := hv.2 q
        refine wp_iconst (v := 1) dX11_walk_36 (by decide) ?_
        refine wp_goto 41 dX11_walk_37 (by decide) ?_
        obtain ⟨v5, V4, hE, hv⟩ := hv
        refine wz_callV (vs := [.int (1 : Int32)]) (st := []) dX11_walk_41 (k1 hK) rfl k11_312_8 hE rfl (Nat.le_of_ble_eq_true rfl) (Nat.le_of_ble_eq_true rfl) ?_
        change wp _ _ _ _ _ [.int v5] _ _ _
        obtain ⟨rfl, rfl⟩ := hv
        exact wp_ireturn dX11_walk_44 rfl rfl rfl hq
    · replace hv := hv.2 q
      refine wp_bipush (v := -3) dX11_walk_22 (by decide) ?_
      refine wp_goto 44 dX11_walk_24 (by decide) ?_
      obtain ⟨rfl, rfl⟩ := hv
      exact wp_ireturn dX11_walk_44 rfl rfl rfl hq
  · replace hv := hv.2 q
    refine wp_iconst (v := -1) dX11_walk_9 (by decide) ?_
    obtain ⟨rfl, rfl⟩ := hv
    exact wp_ireturn dX11_walk_10 rfl rfl rfl hq
theorem wX11_next_0 {x1 : Int32} (hK : StK K)  (hv : (∃ (v1 : Int32), Ev G d mX11_isWithin 0 [(0, .int x1), (1, .int (0 : Int32)), (2, .int ((V 1 3) - (1 : Int32)))] (K, n, V, J, O) (some (.int v1)) (K, n, V, J, O) ∧ ((v1 = 0 → (r = some (.int (-1 : Int32)) ∧ V' = V)) ∧ (¬ v1 = 0 → (∃ (v3 : Int32) (V2 : SV), Ev G d mX8_walkOn 0 [(0, .ref 1), (1, .int x1)] (K, n, V, J, O) (some (.int v3)) (K, n, V2, J, O) ∧ (r = some (.int v3) ∧ V' = V2)))))) : Ev G (d + 1) mX11_next 0 [(0, .ref 0), (1, .int x1)] (K, n, V, J, O) r (K, n, V', J, O) := by
  refine Ev.mk fun Q hq => ?_
  refine wp_iload_n (i := 1) dX11_next_0 rfl rfl ?_
  refine wp_iconst (v := 0) dX11_next_1 (by decide) ?_
  refine wp_aload_n (i := 0) dX11_next_2 rfl rfl ?_
  refine wz_getR (b := 1) dX11_next_3 (k0 hK) (f11_10 _ (by decide)) rfl ?_
  refine wz_getI dX11_next_6 (k1 hK) (f11_309 _ (by decide)) rfl ?_
  refine wp_iconst (v := 1) dX11_next_9 (by decide) ?_
  refine wp_isub dX11_next_10 ?_
  obtain ⟨v1, hE, hv⟩ := hv
  refine wz_callS (vs := [.int x1, .int (0 : Int32), .int ((V 1 3) - (1 : Int32))]) (st := []) dX11_next_11 k11_110 hE rfl (Nat.le_of_ble_eq_true rfl) (Nat.le_of_ble_eq_true rfl) ?_
  change wp _ _ _ _ _ [.int v1] _ _ _
  refine wp_if_eq 28 dX11_next_14 (by decide) (fun q => ?_) (fun q => ?_)
  · replace hv := hv.1 q
    refine wp_iconst (v := -1) dX11_next_28 (by decide) ?_
    obtain ⟨rfl, rfl⟩ := hv
    exact wp_ireturn dX11_next_29 rfl rfl rfl hq
  · replace hv := hv.2 q
    refine wp_aload_n (i := 0) dX11_next_17 rfl rfl ?_
    refine wz_getR (b := 1) dX11_next_18 (k0 hK) (f11_10 _ (by decide)) rfl ?_
    refine wp_iload_n (i := 1) dX11_next_21 rfl rfl ?_
    obtain ⟨v3, V2, hE, hv⟩ := hv
    refine wz_callV (vs := [.int x1]) (st := []) dX11_next_22 (k1 hK) rfl k11_316_8 hE rfl (Nat.le_of_ble_eq_true rfl) (Nat.le_of_ble_eq_true rfl) ?_
    change wp _ _ _ _ _ [.int v3] _ _ _
    refine wp_goto 29 dX11_next_25 (by decide) ?_
    obtain ⟨rfl, rfl⟩ := hv
    exact wp_ireturn dX11_next_29 rfl rfl rfl hq
theorem wX11_act_0 {x1 : Int32} {x2 : Int32} {x3 : Int32} (hK : StK K)  (hv : (∃ (v1 : Int32), Ev G d mX11_isWithin 0 [(0, .int x2), (1, .int (0 : Int32)), (2, .int (3 : Int32))] (K, n, V, J, O) (some (.int v1)) (K, n, V, J, O) ∧ ((v1 = 0 → (((up2 O 0 9 none) 0 9 = none ∧ (r = some (.int (0 : Int32)) ∧ V' = V ∧ O' = (up2 O 0 9 none))) ∨ ∃ (b2 c3 y4 : Nat), (up2 O 0 9 none) 0 9 = some b2 ∧ IsSt K b2 c3 y4 ∧ c3 ∈ [1, 2, 3, 4, 5, 6, 7, 10] ∧ (((up2 O 0 9 none) 0 9 = none ∧ False) ∨ ∃ (b7 c8 y9 : Nat), (up2 O 0 9 none) 0 9 = some b7 ∧ IsSt K b7 c8 y9 ∧ c8 ∈ [1, 2, 3, 4, 5, 6, 7, 10] ∧ ((x2 = (0 : Int32) → (((up2 O 0 9 none) 0 9 = none ∧ False) ∨ ∃ (b12 c13 y14 : Nat), (up2 O 0 9 none) 0 9 = some b12 ∧ IsSt K b12 c13 y14 ∧ c13 ∈ [1, 2, 3, 4, 5, 6, 7, 10] ∧ (∃ M' : AM, vt11_326 c13 = some M' ∧ (∃ (v18 : Int32) (V17 : SV), Ev G d M' 0 [(0, .ref b12), (1, .int x3)] (K, n, (up2 V b7 5 (0 : Int32)), J, (up2 O 0 9 none)) (some (.int v18)) (K, n, V17, J, (up2 O 0 9 none)) ∧ (r = some (.int v18) ∧ V' = V17 ∧ O' = (up2 O 0 9 none)))))) ∧ (x2 = (1 : Int32) → (((up2 O 0 9 none) 0 9 = none ∧ False) ∨ ∃ (b19 c20 y21 : Nat), (up2 O 0 9 none) 0 9 = some b19 ∧ IsSt K b19 c20 y21 ∧ c20 ∈ [1, 2, 3, 4, 5, 6, 7, 10] ∧ (∃ M' : AM, vt11_329 c20 = some M' ∧ (∃ (v25 : Int32) (V24 : SV), Ev G d M' 0 [(0, .ref b19), (1, .int x3)] (K, n, (up2 V b7 5 (0 : Int32)), J, (up2 O 0 9 none)) (some (.int v25)) (K, n, V24, J, (up2 O 0 9 none)) ∧ (r = some (.int v25) ∧ V' = V24 ∧ O' = (up2 O 0 9 none)))))) ∧ (x2 = (2 : Int32) → (((up2 O 0 9 none) 0 9 = none ∧ False) ∨ ∃ (b26 c27 y28 : Nat), (up2 O 0 9 none) 0 9 = some b26 ∧ IsSt K b26 c27 y28 ∧ c27 ∈ [1, 2, 3, 4, 5, 6, 7, 10] ∧ (∃ M' : AM, vt11_332 c27 = some M' ∧ (∃ (v32 : Int32) (V31 : SV), Ev G d M' 0 [(0, .ref b26), (1, .int x3)] (K, n, (up2 V b7 5 (0 : Int32)), J, (up2 O 0 9 none)) (some (.int v32)) (K, n, V31, J, (up2 O 0 9 none)) ∧ (r = some (.int v32) ∧ V' = V31 ∧ O' = (up2 O 0 9 none)))))) ∧ ((¬ x2 = (0 : Int32) ∧ ¬ x2 = (1 : Int32) ∧ ¬ x2 = (2 : Int32)) → (((up2 O 0 9 none) 0 9 = none ∧ False) ∨ ∃ (b33 c34 y35 : Nat), (up2 O 0 9 none) 0 9 = some b33 ∧ IsSt K b33 c34 y35 ∧ c34 ∈ [1, 2, 3, 4, 5, 6, 7, 10] ∧ (∃ M' : AM, vt11_335 c34 = some M' ∧ (∃ (v39 : Int32) (V38 : SV), Ev G d M' 0 [(0, .ref b33), (1, .int x3)] (K, n, (up2 V b7 5 (0 : Int32)), J, (up2 O 0 9 none)) (some (.int v39)) (K, n, V38, J, (up2 O 0 9 none)) ∧ (r = some (.int v39) ∧ V' = V38 ∧ O' = (up2 O 0 9 none)))))))))) ∧ (¬ v1 = 0 → (∃ r41 : Option Value, Ev G d mX11_stoneAt 0 [(0, .ref 0), (1, .int x1)] (K, n, V, J, O) r41 (K, n, V, J, O) ∧ ((r41 = some .null ∧ (((up2 O 0 9 none) 0 9 = none ∧ (r = some (.int (0 : Int32)) ∧ V' = V ∧ O' = (up2 O 0 9 none))) ∨ ∃ (b42 c43 y44 : Nat), (up2 O 0 9 none) 0 9 = some b42 ∧ IsSt K b42 c43 y44 ∧ c43 ∈ [1, 2, 3, 4, 5, 6, 7, 10] ∧ (((up2 O 0 9 none) 0 9 = none ∧ False) ∨ ∃ (b47 c48 y49 : Nat), (up2 O 0 9 none) 0 9 = some b47 ∧ IsSt K b47 c48 y49 ∧ c48 ∈ [1, 2, 3, 4, 5, 6, 7, 10] ∧ ((x2 = (0 : Int32) → (((up2 O 0 9 none) 0 9 = none ∧ False) ∨ ∃ (b52 c53 y54 : Nat), (up2 O 0 9 none) 0 9 = some b52 ∧ IsSt K b52 c53 y54 ∧ c53 ∈ [1, 2, 3, 4, 5, 6, 7, 10] ∧ (∃ M' : AM, vt11_326 c53 = some M' ∧ (∃ (v58 : Int32) (V57 : SV), Ev G d M' 0 [(0, .ref b52), (1, .int x3)] (K, n, (up2 V b47 5 (0 : Int32)), J, (up2 O 0 9 none)) (some (.int v58)) (K, n, V57, J, (up2 O 0 9 none)) ∧ (r = some (.int v58) ∧ V' = V57 ∧ O' = (up2 O 0 9 none)))))) ∧ (x2 = (1 : Int32) → (((up2 O 0 9 none) 0 9 = none ∧ False) ∨ ∃ (b59 c60 y61 : Nat), (up2 O 0 9 none) 0 9 = some b59 ∧ IsSt K b59 c60 y61 ∧ c60 ∈ [1, 2, 3, 4, 5, 6, 7, 10] ∧ (∃ M' : AM, vt11_329 c60 = some M' ∧ (∃ (v65 : Int32) (V64 : SV), Ev G d M' 0 [(0, .ref b59), (1, .int x3)] (K, n, (up2 V b47 5 (0 : Int32)), J, (up2 O 0 9 none)) (some (.int v65)) (K, n, V64, J, (up2 O 0 9 none)) ∧ (r = some (.int v65) ∧ V' = V64 ∧ O' = (up2 O 0 9 none)))))) ∧ (x2 = (2 : Int32) → (((up2 O 0 9 none) 0 9 = none ∧ False) ∨ ∃ (b66 c67 y68 : Nat), (up2 O 0 9 none) 0 9 = some b66 ∧ IsSt K b66 c67 y68 ∧ c67 ∈ [1, 2, 3, 4, 5, 6, 7, 10] ∧ (∃ M' : AM, vt11_332 c67 = some M' ∧ (∃ (v72 : Int32) (V71 : SV), Ev G d M' 0 [(0, .ref b66), (1, .int x3)] (K, n, (up2 V b47 5 (0 : Int32)), J, (up2 O 0 9 none)) (some (.int v72)) (K, n, V71, J, (up2 O 0 9 none)) ∧ (r = some (.int v72) ∧ V' = V71 ∧ O' = (up2 O 0 9 none)))))) ∧ ((¬ x2 = (0 : Int32) ∧ ¬ x2 = (1 : Int32) ∧ ¬ x2 = (2 : Int32)) → (((up2 O 0 9 none) 0 9 = none ∧ False) ∨ ∃ (b73 c74 y75 : Nat), (up2 O 0 9 none) 0 9 = some b73 ∧ IsSt K b73 c74 y75 ∧ c74 ∈ [1, 2, 3, 4, 5, 6, 7, 10] ∧ (∃ M' : AM, vt11_335 c74 = some M' ∧ (∃ (v79 : Int32) (V78 : SV), Ev G d M' 0 [(0, .ref b73), (1, .int x3)] (K, n, (up2 V b47 5 (0 : Int32)), J, (up2 O 0 9 none)) (some (.int v79)) (K, n, V78, J, (up2 O 0 9 none)) ∧ (r = some (.int v79) ∧ V' = V78 ∧ O' = (up2 O 0 9 none)))))))))) ∨ ∃ (b40 c80 y81 : Nat), r41 = some (.ref b40) ∧ IsSt K b40 c80 y81 ∧ c80 ∈ [1, 2, 3, 4, 5, 6, 7, 10] ∧ (((up2 O 0 9 (some b40)) 0 9 = none ∧ (r = some (.int (0 : Int32)) ∧ V' = V ∧ O' = (up2 O 0 9 (some b40)))) ∨ ∃ (b84 c85 y86 : Nat), (up2 O 0 9 (some b40)) 0 9 = some b84 ∧ IsSt K b84 c85 y86 ∧ c85 ∈ [1, 2, 3, 4, 5, 6, 7, 10] ∧ (((up2 O 0 9 (some b40)) 0 9 = none ∧ False) ∨ ∃ (b89 c90 y91 : Nat), (up2 O 0 9 (some b40)) 0 9 = some b89 ∧ IsSt K b89 c90 y91 ∧ c90 ∈ [1, 2, 3, 4, 5, 6, 7, 10] ∧ ((x2 = (0 : Int32) → (((up2 O 0 9 (some b40)) 0 9 = none ∧ False) ∨ ∃ (b94 c95 y96 : Nat), (up2 O 0 9 (some b40)) 0 9 = some b94 ∧ IsSt K b94 c95 y96 ∧ c95 ∈ [1, 2, 3, 4, 5, 6, 7, 10] ∧ (∃ M' : AM, vt11_326 c95 = some M' ∧ (∃ (v100 : Int32) (V99 : SV), Ev G d M' 0 [(0, .ref b94), (1, .int x3)] (K, n, (up2 V b89 5 (0 : Int32)), J, (up2 O 0 9 (some b40))) (some (.int v100)) (K, n, V99, J, (up2 O 0 9 (some b40))) ∧ (r = some (.int v100) ∧ V' = V99 ∧ O' = (up2 O 0 9 (some b40))))))) ∧ (x2 = (1 : Int32) → (((up2 O 0 9 (some b40)) 0 9 = none ∧ False) ∨ ∃ (b101 c102 y103 : Nat), (up2 O 0 9 (some b40)) 0 9 = some b101 ∧ IsSt K b101 c102 y103 ∧ c102 ∈ [1, 2, 3, 4, 5, 6, 7, 10] ∧ (∃ M' : AM, vt11_329 c102 = some M' ∧ (∃ (v107 : Int32) (V106 : SV), Ev G d M' 0 [(0, .ref b101), (1, .int x3)] (K, n, (up2 V b89 5 (0 : Int32)), J, (up2 O 0 9 (some b40))) (some (.int v107)) (K, n, V106, J, (up2 O 0 9 (some b40))) ∧ (r = some (.int v107) ∧ V' = V106 ∧ O' = (up2 O 0 9 (some b40))))))) ∧ (x2 = (2 : Int32) → (((up2 O 0 9 (some b40)) 0 9 = none ∧ False) ∨ ∃ (b108 c109 y110 : Nat), (up2 O 0 9 (some b40)) 0 9 = some b108 ∧ IsSt K b108 c109 y110 ∧ c109 ∈ [1, 2, 3, 4, 5, 6, 7, 10] ∧ (∃ M' : AM, vt11_332 c109 = some M' ∧ (∃ (v114 : Int32) (V113 : SV), Ev G d M' 0 [(0, .ref b108), (1, .int x3)] (K, n, (up2 V b89 5 (0 : Int32)), J, (up2 O 0 9 (some b40))) (some (.int v114)) (K, n, V113, J, (up2 O 0 9 (some b40))) ∧ (r = some (.int v114) ∧ V' = V113 ∧ O' = (up2 O 0 9 (some b40))))))) ∧ ((¬ x2 = (0 : Int32) ∧ ¬ x2 = (1 : Int32) ∧ ¬ x2 = (2 : Int32)) → (((up2 O 0 9 (some b40)) 0 9 = none ∧ False) ∨ ∃ (b115 c116 y117 : Nat), (up2 O 0 9 (some b40)) 0 9 = some b115 ∧ IsSt K b115 c116 y117 ∧ c116 ∈ [1, 2, 3, 4, 5, 6, 7, 10] ∧ (∃ M' : AM, vt11_335 c116 = some M' ∧ (∃ (v121 : Int32) (V120 : SV), Ev G d M' 0 [(0, .ref b115), (1, .int x3)] (K, n, (up2 V b89 5 (0 : Int32)), J, (up2 O 0 9 (some b40))) (some (.int v121)) (K, n, V120, J, (up2 O 0 9 (some b40))) ∧ (r = some (.int v121) ∧ V' = V120 ∧ O' = (up2 O 0 9 (some b40)))))))))))))))) : Ev G (d + 1) mX11_act 0 [(0, .ref 0), (1, .int x1), (2, .int x2), (3, .int x3)] (K, n, V, J, O) r (K, n, V', J, O') := by
  refine Ev.mk fun Q hq => ?_
  refine wp_aload_n (i := 0) dX11_act_0 rfl rfl ?_
  refine wp_iload_n (i := 2) dX11_act_1 rfl rfl ?_
  refine wp_iconst (v := 0) dX11_act_2 (by decide) ?_
  refine wp_iconst (v := 3) dX11_act_3 (by decide) ?_
  obtain ⟨v1, hE, hv⟩ := hv
  refine wz_callS (vs := [.int x2, .int (0 : Int32), .int (3 : Int32)]) (st := [.ref 0]) dX11_act_4 k11_110 hE rfl (Nat.le_of_ble_eq_true rfl) (Nat.le_of_ble_eq_true rfl) ?_
  change wp _ _ _ _ _ [.int v1, .ref 0] _ _ _
  refine wp_if_eq 18 dX11_act_7 (by decide) (fun q => ?_) (fun q => ?_)
  · replace hv := hv.1 q
    refine wp_null dX11_act_18 ?_
    refine wz_putN dX11_act_19 (k0 hK) (w11_319 _ (by decide)) (Or.inl ⟨_, rfl⟩) rfl ?_
    refine wp_aload_n (i := 0) dX11_act_22 rfl rfl ?_
    obtain ⟨o0, hv⟩ | ⟨b2, c3, y4, o0, h5, z6, hv⟩ := hv
    · refine wz_getN dX11_act_23 (k0 hK) (f11_319 _ (by decide)) rfl o0 ?_
      refine wp_ifnonnullN dX11_act_26 ?_
      refine wp_iconst (v := 0) dX11_act_29 (by decide) ?_
      obtain ⟨rfl, rfl, rfl⟩ := hv
      exact wp_ireturn dX11_act_30 rfl rfl rfl hq
    · refine wz_getS dX11_act_23 (k0 hK) (f11_319 _ (by decide)) rfl o0 ?_
      refine wp_ifnonnullR 31 dX11_act_26 (by decide) ?_
      refine wp_aload_n (i := 0) dX11_act_31 rfl rfl ?_
      obtain ⟨o0, hv⟩ | ⟨b7, c8, y9, o0, h10, z11, hv⟩ := hv
      · refine wz_getN dX11_act_32 (k0 hK) (f11_319 _ (by decide)) rfl o0 ?_
        refine wp_iconst (v := 0) dX11_act_35 (by decide) ?_
        exact hv.elim
      · refine wz_getS dX11_act_32 (k0 hK) (f11_319 _ (by decide)) rfl o0 ?_
        refine wp_iconst (v := 0) dX11_act_35 (by decide) ?_
        refine wz_putI dX11_act_36 (st_0 h10) (w11_323 _ z11) rfl ?_
        refine wp_iload_n (i := 2) dX11_act_39 rfl rfl ?_
        by_cases q0 : x2 = (0 : Int32)
        · refine wx_tableIn (off := 28) (0 : Int32) q0 68 dX11_act_40 (by decide) (by decide) (by decide +kernel) (by decide) ?_
          replace hv := hv.1 q0
          refine wp_aload_n (i := 0) dX11_act_68 rfl rfl ?_
          obtain ⟨o0, hv⟩ | ⟨b12, c13, y14, o0, h15, z16, hv⟩ := hv
          · refine wz_getN dX11_act_69 (k0 hK) (f11_319 _ (by decide)) rfl o0 ?_
            refine wp_iload_n (i := 3) dX11_act_72 rfl rfl ?_
            exact hv.elim
          · refine wz_getS dX11_act_69 (k0 hK) (f11_319 _ (by decide)) rfl o0 ?_
            refine wp_iload_n (i := 3) dX11_act_72 rfl rfl ?_
            obtain ⟨M', hM, hv⟩ := hv
            obtain ⟨v18, V17, hE, hv⟩ := hv
            refine wz_callX (vs := [.int x3]) (st := []) dX11_act_73 (st_0 h15) (kx11_326 hM).1 hE rfl (kx11_326 hM).2 (Nat.le_of_ble_eq_true rfl) ?_
            change wp _ _ _ _ _ [.int v18] _ _ _
            obtain ⟨rfl, rfl, rfl⟩ := hv
            exact wp_ireturn dX11_act_76 rfl rfl rfl hq
        by_cases q1 : x2 = (1 : Int32)
        · refine wx_tableIn (off := 37) (1 : Int32) q1 77 dX11_act_40 (by decide) (by decide) (by decide +kernel) (by decide) ?_
          replace hv := hv.2.1 q1
          refine wp_aload_n (i := 0) dX11_act_77 rfl rfl ?_
          obtain ⟨o0, hv⟩ | ⟨b19, c20, y21, o0, h22, z23, hv⟩ := hv
          · refine wz_getN dX11_act_78 (k0 hK) (f11_319 _ (by decide)) rfl o0 ?_
            refine wp_iload_n (i := 3) dX11_act_81 rfl rfl ?_
            exact hv.elim
          · refine wz_getS dX11_act_78 (k0 hK) (f11_319 _ (by decide)) rfl o0 ?_
            refine wp_iload_n (i := 3) dX11_act_81 rfl rfl ?_
            obtain ⟨M', hM, hv⟩ := hv
            obtain ⟨v25, V24, hE, hv⟩ := hv
            refine wz_callX (vs := [.int x3]) (st := []) dX11_act_82 (st_0 h22) (kx11_329 hM).1 hE rfl (kx11_329 hM).2 (Nat.le_of_ble_eq_true rfl) ?_
            change wp _ _ _ _ _ [.int v25] _ _ _
            obtain ⟨rfl, rfl, rfl⟩ := hv
            exact wp_ireturn dX11_act_85 rfl rfl rfl hq
        by_cases q2 : x2 = (2 : Int32)
        · refine wx_tableIn (off := 46) (2 : Int32) q2 86 dX11_act_40 (by decide) (by decide) (by decide +kernel) (by decide) ?_
          replace hv := hv.2.2.1 q2
          refine wp_aload_n (i := 0) dX11_act_86 rfl rfl ?_
          obtain ⟨o0, hv⟩ | ⟨b26, c27, y28, o0, h29, z30, hv⟩ := hv
          · refine wz_getN dX11_act_87 (k0 hK) (f11_319 _ (by decide)) rfl o0 ?_
            refine wp_iload_n (i := 3) dX11_act_90 rfl rfl ?_
            exact hv.elim
          · refine wz_getS dX11_act_87 (k0 hK) (f11_319 _ (by decide)) rfl o0 ?_
            refine wp_iload_n (i := 3) dX11_act_90 rfl rfl ?_
            obtain ⟨M', hM, hv⟩ := hv
            obtain ⟨v32, V31, hE, hv⟩ := hv
            refine wz_callX (vs := [.int x3]) (st := []) dX11_act_91 (st_0 h29) (kx11_332 hM).1 hE rfl (kx11_332 hM).2 (Nat.le_of_ble_eq_true rfl) ?_
            change wp _ _ _ _ _ [.int v32] _ _ _
            obtain ⟨rfl, rfl, rfl⟩ := hv
            exact wp_ireturn dX11_act_94 rfl rfl rfl hq
        refine wp_tableOut 95 dX11_act_40 (by have n0 := lv_neT q0 (show ((0 : Int32)).toInt = 0 by decide); have n1 := lv_neT q1 (show ((1 : Int32)).toInt = 1 by decide); have n2 := lv_neT q2 (show ((2 : Int32)).toInt = 2 by decide); omega) (by decide) ?_
        replace hv := hv.2.2.2 ⟨q0, q1, q2⟩
        refine wp_aload_n (i := 0) dX11_act_95 rfl rfl ?_
        obtain ⟨o0, hv⟩ | ⟨b33, c34, y35, o0, h36, z37, hv⟩ := hv
        · refine wz_getN dX11_act_96 (k0 hK) (f11_319 _ (by decide)) rfl o0 ?_
          refine wp_iload_n (i := 3) dX11_act_99 rfl rfl ?_
          exact hv.elim
        · refine wz_getS dX11_act_96 (k0 hK) (f11_319 _ (by decide)) rfl o0 ?_
          refine wp_iload_n (i := 3) dX11_act_99 rfl rfl ?_
          obtain ⟨M', hM, hv⟩ := hv
          obtain ⟨v39, V38, hE, hv⟩ := hv
          refine wz_callX (vs := [.int x3]) (st := []) dX11_act_100 (st_0 h36) (kx11_335 hM).1 hE rfl (kx11_335 hM).2 (Nat.le_of_ble_eq_true rfl) ?_
          change wp _ _ _ _ _ [.int v39] _ _ _
          obtain ⟨rfl, rfl, rfl⟩ := hv
          exact wp_ireturn dX11_act_103 rfl rfl rfl hq
  · replace hv := hv.2 q
    refine wp_aload_n (i := 0) dX11_act_10 rfl rfl ?_
    refine wp_iload_n (i := 1) dX11_act_11 rfl rfl ?_
    obtain ⟨r41, hE, hv⟩ := hv
    obtain ⟨rfl, hv⟩ | ⟨b40, c80, y81, rfl, h82, z83, hv⟩ := hv
    · refine wz_callV (vs := [.int x1]) (st := [.ref 0]) dX11_act_12 (k0 hK) rfl k11_198_11 hE rfl (Nat.le_of_ble_eq_true rfl) (Nat.le_of_ble_eq_true rfl) ?_
      change wp _ _ _ _ _ [.null, .ref 0] _ _ _
      refine wp_goto 19 dX11_act_15 (by decide) ?_
      refine wz_putN dX11_act_19 (k0 hK) (w11_319 _ (by decide)) (Or.inl ⟨_, rfl⟩) rfl ?_
      refine wp_aload_n (i := 0) dX11_act_22 rfl rfl ?_
      obtain ⟨o0, hv⟩ | ⟨b42, c43, y44, o0, h45, z46, hv⟩ := hv
      · refine wz_getN dX11_act_23 (k0 hK) (f11_319 _ (by decide)) rfl o0 ?_
        refine wp_ifnonnullN dX11_act_26 ?_
        refine wp_iconst (v := 0) dX11_act_29 (by decide) ?_
        obtain ⟨rfl, rfl, rfl⟩ := hv
        exact wp_ireturn dX11_act_30 rfl rfl rfl hq
      · refine wz_getS dX11_act_23 (k0 hK) (f11_319 _ (by decide)) rfl o0 ?_
        refine wp_ifnonnullR 31 dX11_act_26 (by decide) ?_
        refine wp_aload_n (i := 0) dX11_act_31 rfl rfl ?_
        obtain ⟨o0, hv⟩ | ⟨b47, c48, y49, o0, h50, z51, hv⟩ := hv
        · refine wz_getN dX11_act_32 (k0 hK) (f11_319 _ (by decide)) rfl o0 ?_
          refine wp_iconst (v := 0) dX11_act_35 (by decide) ?_
          exact hv.elim
        · refine wz_getS dX11_act_32 (k0 hK) (f11_319 _ (by decide)) rfl o0 ?_
          refine wp_iconst (v := 0) dX11_act_35 (by decide) ?_
          refine wz_putI dX11_act_36 (st_0 h50) (w11_323 _ z51) rfl ?_
          refine wp_iload_n (i := 2) dX11_act_39 rfl rfl ?_
          by_cases q0 : x2 = (0 : Int32)
          · refine wx_tableIn (off := 28) (0 : Int32) q0 68 dX11_act_40 (by decide) (by decide) (by decide +kernel) (by decide) ?_
            replace hv := hv.1 q0
            refine wp_aload_n (i := 0) dX11_act_68 rfl rfl ?_
            obtain ⟨o0, hv⟩ | ⟨b52, c53, y54, o0, h55, z56, hv⟩ := hv
            · refine wz_getN dX11_act_69 (k0 hK) (f11_319 _ (by decide)) rfl o0 ?_
              refine wp_iload_n (i := 3) dX11_act_72 rfl rfl ?_
              exact hv.elim
            · refine wz_getS dX11_act_69 (k0 hK) (f11_319 _ (by decide)) rfl o0 ?_
              refine wp_iload_n (i := 3) dX11_act_72 rfl rfl ?_
              obtain ⟨M', hM, hv⟩ := hv
              obtain ⟨v58, V57, hE, hv⟩ := hv
              refine wz_callX (vs := [.int x3]) (st := []) dX11_act_73 (st_0 h55) (kx11_326 hM).1 hE rfl (kx11_326 hM).2 (Nat.le_of_ble_eq_true rfl) ?_
              change wp _ _ _ _ _ [.int v58] _ _ _
              obtain ⟨rfl, rfl, rfl⟩ := hv
              exact wp_ireturn dX11_act_76 rfl rfl rfl hq
          by_cases q1 : x2 = (1 : Int32)
          · refine wx_tableIn (off := 37) (1 : Int32) q1 77 dX11_act_40 (by decide) (by decide) (by decide +kernel) (by decide) ?_
            replace hv := hv.2.1 q1
            refine wp_aload_n (i := 0) dX11_act_77 rfl rfl ?_
            obtain ⟨o0, hv⟩ | ⟨b59, c60, y61, o0, h62, z63, hv⟩ := hv
            · refine wz_getN dX11_act_78 (k0 hK) (f11_319 _ (by decide)) rfl o0 ?_
              refine wp_iload_n (i := 3) dX11_act_81 rfl rfl ?_
              exact hv.elim
            · refine wz_getS dX11_act_78 (k0 hK) (f11_319 _ (by decide)) rfl o0 ?_
              refine wp_iload_n (i := 3) dX11_act_81 rfl rfl ?_
              obtain ⟨M', hM, hv⟩ := hv
              obtain ⟨v65, V64, hE, hv⟩ := hv
              refine wz_callX (vs := [.int x3]) (st := []) dX11_act_82 (st_0 h62) (kx11_329 hM).1 hE rfl (kx11_329 hM).2 (Nat.le_of_ble_eq_true rfl) ?_
              change wp _ _ _ _ _ [.int v65] _ _ _
              obtain ⟨rfl, rfl, rfl⟩ := hv
              exact wp_ireturn dX11_act_85 rfl rfl rfl hq
          by_cases q2 : x2 = (2 : Int32)
          · refine wx_tableIn (off := 46) (2 : Int32) q2 86 dX11_act_40 (by decide) (by decide) (by decide +kernel) (by decide) ?_
            replace hv := hv.2.2.1 q2
            refine wp_aload_n (i := 0) dX11_act_86 rfl rfl ?_
            obtain ⟨o0, hv⟩ | ⟨b66, c67, y68, o0, h69, z70, hv⟩ := hv
            · refine wz_getN dX11_act_87 (k0 hK) (f11_319 _ (by decide)) rfl o0 ?_
              refine wp_iload_n (i := 3) dX11_act_90 rfl rfl ?_
              exact hv.elim
            · refine wz_getS dX11_act_87 (k0 hK) (f11_319 _ (by decide)) rfl o0 ?_
              refine wp_iload_n (i := 3) dX11_act_90 rfl rfl ?_
              obtain ⟨M', hM, hv⟩ := hv
              obtain ⟨v72, V71, hE, hv⟩ := hv
              refine wz_callX (vs := [.int x3]) (st := []) dX11_act_91 (st_0 h69) (kx11_332 hM).1 hE rfl (kx11_332 hM).2 (Nat.le_of_ble_eq_true rfl) ?_
              change wp _ _ _ _ _ [.int v72] _ _ _
              obtain ⟨rfl, rfl, rfl⟩ := hv
              exact wp_ireturn dX11_act_94 rfl rfl rfl hq
          refine wp_tableOut 95 dX11_act_40 (by have n0 := lv_neT q0 (show ((0 : Int32)).toInt = 0 by decide); have n1 := lv_neT q1 (show ((1 : Int32)).toInt = 1 by decide); have n2 := lv_neT q2 (show ((2 : Int32)).toInt = 2 by decide); omega) (by decide) ?_
          replace hv := hv.2.2.2 ⟨q0, q1, q2⟩
          refine wp_aload_n (i := 0) dX11_act_95 rfl rfl ?_
          obtain ⟨o0, hv⟩ | ⟨b73, c74, y75, o0, h76, z77, hv⟩ := hv
          · refine wz_getN dX11_act_96 (k0 hK) (f11_319 _ (by decide)) rfl o0 ?_
            refine wp_iload_n (i := 3) dX11_act_99 rfl rfl ?_
            exact hv.elim
          · refine wz_getS dX11_act_96 (k0 hK) (f11_319 _ (by decide)) rfl o0 ?_
            refine wp_iload_n (i := 3) dX11_act_99 rfl rfl ?_
            obtain ⟨M', hM, hv⟩ := hv
            obtain ⟨v79, V78, hE, hv⟩ := hv
            refine wz_callX (vs := [.int x3]) (st := []) dX11_act_100 (st_0 h76) (kx11_335 hM).1 hE rfl (kx11_335 hM).2 (Nat.le_of_ble_eq_true rfl) ?_
            change wp _ _ _ _ _ [.int v79] _ _ _
            obtain ⟨rfl, rfl, rfl⟩ := hv
            exact wp_ireturn dX11_act_103 rfl rfl rfl hq
    · refine wz_callV (vs := [.int x1]) (st := [.ref 0]) dX11_act_12 (k0 hK) rfl k11_198_11 hE rfl (Nat.le_of_ble_eq_true rfl) (Nat.le_of_ble_eq_true rfl) ?_
      change wp _ _ _ _ _ [.ref b40, .ref 0] _ _ _
      refine wp_goto 19 dX11_act_15 (by decide) ?_
      refine wz_putR dX11_act_19 (k0 hK) (w11_319 _ (by decide)) (Or.inl ⟨_, rfl⟩) rfl ?_
      refine wp_aload_n (i := 0) dX11_act_22 rfl rfl ?_
      obtain ⟨o0, hv⟩ | ⟨b84, c85, y86, o0, h87, z88, hv⟩ := hv
      · refine wz_getN dX11_act_23 (k0 hK) (f11_319 _ (by decide)) rfl o0 ?_
        refine wp_ifnonnullN dX11_act_26 ?_
        refine wp_iconst (v := 0) dX11_act_29 (by decide) ?_
        obtain ⟨rfl, rfl, rfl⟩ := hv
        exact wp_ireturn dX11_act_30 rfl rfl rfl hq
      · refine wz_getS dX11_act_23 (k0 hK) (f11_319 _ (by decide)) rfl o0 ?_
        refine wp_ifnonnullR 31 dX11_act_26 (by decide) ?_
        refine wp_aload_n (i := 0) dX11_act_31 rfl rfl ?_
        obtain ⟨o0, hv⟩ | ⟨b89, c90, y91, o0, h92, z93, hv⟩ := hv
        · refine wz_getN dX11_act_32 (k0 hK) (f11_319 _ (by decide)) rfl o0 ?_
          refine wp_iconst (v := 0) dX11_act_35 (by decide) ?_
          exact hv.elim
        · refine wz_getS dX11_act_32 (k0 hK) (f11_319 _ (by decide)) rfl o0 ?_
          refine wp_iconst (v := 0) dX11_act_35 (by decide) ?_
          refine wz_putI dX11_act_36 (st_0 h92) (w11_323 _ z93) rfl ?_
          refine wp_iload_n (i := 2) dX11_act_39 rfl rfl ?_
          by_cases q0 : x2 = (0 : Int32)
          · refine wx_tableIn (off := 28) (0 : Int32) q0 68 dX11_act_40 (by decide) (by decide) (by decide +kernel) (by decide) ?_
            replace hv := hv.1 q0
            refine wp_aload_n (i := 0) dX11_act_68 rfl rfl ?_
            obtain ⟨o0, hv⟩ | ⟨b94, c95, y96, o0, h97, z98, hv⟩ := hv
            · refine wz_getN dX11_act_69 (k0 hK) (f11_319 _ (by decide)) rfl o0 ?_
              refine wp_iload_n (i := 3) dX11_act_72 rfl rfl ?_
              exact hv.elim
            · refine wz_getS dX11_act_69 (k0 hK) (f11_319 _ (by decide)) rfl o0 ?_
              refine wp_iload_n (i := 3) dX11_act_72 rfl rfl ?_
              obtain ⟨M', hM, hv⟩ := hv
              obtain ⟨v100, V99, hE, hv⟩ := hv
              refine wz_callX (vs := [.int x3]) (st := []) dX11_act_73 (st_0 h97) (kx11_326 hM).1 hE rfl (kx11_326 hM).2 (Nat.le_of_ble_eq_true rfl) ?_
              change wp _ _ _ _ _ [.int v100] _ _ _
              obtain ⟨rfl, rfl, rfl⟩ := hv
              exact wp_ireturn dX11_act_76 rfl rfl rfl hq
          by_cases q1 : x2 = (1 : Int32)
          · refine wx_tableIn (off := 37) (1 : Int32) q1 77 dX11_act_40 (by decide) (by decide) (by decide +kernel) (by decide) ?_
            replace hv := hv.2.1 q1
            refine wp_aload_n (i := 0) dX11_act_77 rfl rfl ?_
            obtain ⟨o0, hv⟩ | ⟨b101, c102, y103, o0, h104, z105, hv⟩ := hv
            · refine wz_getN dX11_act_78 (k0 hK) (f11_319 _ (by decide)) rfl o0 ?_
              refine wp_iload_n (i := 3) dX11_act_81 rfl rfl ?_
              exact hv.elim
            · refine wz_getS dX11_act_78 (k0 hK) (f11_319 _ (by decide)) rfl o0 ?_
              refine wp_iload_n (i := 3) dX11_act_81 rfl rfl ?_
              obtain ⟨M', hM, hv⟩ := hv
              obtain ⟨v107, V106, hE, hv⟩ := hv
              refine wz_callX (vs := [.int x3]) (st := []) dX11_act_82 (st_0 h104) (kx11_329 hM).1 hE rfl (kx11_329 hM).2 (Nat.le_of_ble_eq_true rfl) ?_
              change wp _ _ _ _ _ [.int v107] _ _ _
              obtain ⟨rfl, rfl, rfl⟩ := hv
              exact wp_ireturn dX11_act_85 rfl rfl rfl hq
          by_cases q2 : x2 = (2 : Int32)
          · refine wx_tableIn (off := 46) (2 : Int32) q2 86 dX11_act_40 (by decide) (by decide) (by decide +kernel) (by decide) ?_
            replace hv := hv.2.2.1 q2
            refine wp_aload_n (i := 0) dX11_act_86 rfl rfl ?_
            obtain ⟨o0, hv⟩ | ⟨b108, c109, y110, o0, h111, z112, hv⟩ := hv
            · refine wz_getN dX11_act_87 (k0 hK) (f11_319 _ (by decide)) rfl o0 ?_
              refine wp_iload_n (i := 3) dX11_act_90 rfl rfl ?_
              exact hv.elim
            · refine wz_getS dX11_act_87 (k0 hK) (f11_319 _ (by decide)) rfl o0 ?_
              refine wp_iload_n (i := 3) dX11_act_90 rfl rfl ?_
              obtain ⟨M', hM, hv⟩ := hv
              obtain ⟨v114, V113, hE, hv⟩ := hv
              refine wz_callX (vs := [.int x3]) (st := []) dX11_act_91 (st_0 h111) (kx11_332 hM).1 hE rfl (kx11_332 hM).2 (Nat.le_of_ble_eq_true rfl) ?_
              change wp _ _ _ _ _ [.int v114] _ _ _
              obtain ⟨rfl, rfl, rfl⟩ := hv
              exact wp_ireturn dX11_act_94 rfl rfl rfl hq
          refine wp_tableOut 95 dX11_act_40 (by have n0 := lv_neT q0 (show ((0 : Int32)).toInt = 0 by decide); have n1 := lv_neT q1 (show ((1 : Int32)).toInt = 1 by decide); have n2 := lv_neT q2 (show ((2 : Int32)).toInt = 2 by decide); omega) (by decide) ?_
          replace hv := hv.2.2.2 ⟨q0, q1, q2⟩
          refine wp_aload_n (i := 0) dX11_act_95 rfl rfl ?_
          obtain ⟨o0, hv⟩ | ⟨b115, c116, y117, o0, h118, z119, hv⟩ := hv
          · refine wz_getN dX11_act_96 (k0 hK) (f11_319 _ (by decide)) rfl o0 ?_
            refine wp_iload_n (i := 3) dX11_act_99 rfl rfl ?_
            exact hv.elim
          · refine wz_getS dX11_act_96 (k0 hK) (f11_319 _ (by decide)) rfl o0 ?_
            refine wp_iload_n (i := 3) dX11_act_99 rfl rfl ?_
            obtain ⟨M', hM, hv⟩ := hv
            obtain ⟨v121, V120, hE, hv⟩ := hv
            refine wz_callX (vs := [.int x3]) (st := []) dX11_act_100 (st_0 h118) (kx11_335 hM).1 hE rfl (kx11_335 hM).2 (Nat.le_of_ble_eq_true rfl) ?_
            change wp _ _ _ _ _ [.int v121] _ _ _
            obtain ⟨rfl, rfl, rfl⟩ := hv
            exact wp_ireturn dX11_act_103 rfl rfl rfl hq
theorem wX11_trace_0 {x1 : Int32} (hK : StK K)  (hv : ((O 0 9 = none ∧ r = some (.int (-1 : Int32))) ∨ ∃ (b1 c2 y3 : Nat), O 0 9 = some b1 ∧ IsSt K b1 c2 y3 ∧ c2 ∈ [1, 2, 3, 4, 5, 6, 7, 10] ∧ ((O 0 9 = none ∧ False) ∨ ∃ (b6 c7 y8 : Nat), O 0 9 = some b6 ∧ IsSt K b6 c7 y8 ∧ c7 ∈ [1, 2, 3, 4, 5, 6, 7, 10] ∧ (∃ (v11 : Int32), Ev G d mX11_isWithin 0 [(0, .int x1), (1, .int (0 : Int32)), (2, .int ((if (24 : Int32) < (V b6 5) then (24 : Int32) else (V b6 5)) - (1 : Int32)))] (K, n, V, J, O) (some (.int v11)) (K, n, V, J, O) ∧ ((v11 = 0 → r = some (.int (-1 : Int32))) ∧ (¬ v11 = 0 → ((O 0 9 = none ∧ False) ∨ ∃ (b12 c13 y14 : Nat), O 0 9 = some b12 ∧ IsSt K b12 c13 y14 ∧ c13 ∈ [1, 2, 3, 4, 5, 6, 7, 10] ∧ (vp_in x1 24 ∧ r = some (.int (V (b12 + 1) (x1).toNatClampNeg)))))))))) : Ev G (d + 1) mX11_trace 0 [(0, .ref 0), (1, .int x1)] (K, n, V, J, O) r (K, n, V, J, O) := by
  refine Ev.mk fun Q hq => ?_
  refine wp_aload_n (i := 0) dX11_trace_0 rfl rfl ?_
  obtain ⟨o0, hv⟩ | ⟨b1, c2, y3, o0, h4, z5, hv⟩ := hv
  · refine wz_getN dX11_trace_1 (k0 hK) (f11_319 _ (by decide)) rfl o0 ?_
    refine wp_ifnonnullN dX11_trace_4 ?_
    refine wp_iconst (v := -1) dX11_trace_7 (by decide) ?_
    obtain rfl := hv
    exact wp_ireturn dX11_trace_8 rfl rfl rfl hq
  · refine wz_getS dX11_trace_1 (k0 hK) (f11_319 _ (by decide)) rfl o0 ?_
    refine wp_ifnonnullR 9 dX11_trace_4 (by decide) ?_
    refine wp_aload_n (i := 0) dX11_trace_9 rfl rfl ?_
    obtain ⟨o0, hv⟩ | ⟨b6, c7, y8, o0, h9, z10, hv⟩ := hv
    · refine wz_getN dX11_trace_10 (k0 hK) (f11_319 _ (by decide)) rfl o0 ?_
      exact hv.elim
    · refine wz_getS dX11_trace_10 (k0 hK) (f11_319 _ (by decide)) rfl o0 ?_
      refine wz_getI dX11_trace_13 (st_0 h9) (f11_323 _ z10) rfl ?_
      refine wp_bipush (v := 24) dX11_trace_16 (by decide) ?_
      refine wp_mmin dX11_trace_18 ma11_338 mmin1 mth2 mmin3 (Nat.le_of_ble_eq_true rfl) ⟨Nat.le_refl _, Nat.le_refl _⟩ ?_
      refine wx_istore_n (ls' := [(0, .ref 0), (1, .int x1), (2, .int (if (24 : Int32) < (V b6 5) then (24 : Int32) else (V b6 5)))]) (i := 2) dX11_trace_21 rfl (by decide) rfl ?_
      refine wp_iload_n (i := 1) dX11_trace_22 rfl rfl ?_
      refine wp_iconst (v := 0) dX11_trace_23 (by decide) ?_
      refine wp_iload_n (i := 2) dX11_trace_24 rfl rfl ?_
      refine wp_iconst (v := 1) dX11_trace_25 (by decide) ?_
      refine wp_isub dX11_trace_26 ?_
      obtain ⟨v11, hE, hv⟩ := hv
      refine wz_callS (vs := [.int x1, .int (0 : Int32), .int ((if (24 : Int32) < (V b6 5) then (24 : Int32) else (V b6 5)) - (1 : Int32))]) (st := []) dX11_trace_27 k11_110 hE rfl (Nat.le_of_ble_eq_true rfl) (Nat.le_of_ble_eq_true rfl) ?_
      change wp _ _ _ _ _ [.int v11] _ _ _
      refine wp_if_eq 45 dX11_trace_30 (by decide) (fun q => ?_) (fun q => ?_)
      · replace hv := hv.1 q
        refine wp_iconst (v := -1) dX11_trace_45 (by decide) ?_
        obtain rfl := hv
        exact wp_ireturn dX11_trace_46 rfl rfl rfl hq
      · replace hv := hv.2 q
        refine wp_aload_n (i := 0) dX11_trace_33 rfl rfl ?_
        obtain ⟨o0, hv⟩ | ⟨b12, c13, y14, o0, h15, z16, hv⟩ := hv
        · refine wz_getN dX11_trace_34 (k0 hK) (f11_319 _ (by decide)) rfl o0 ?_
          exact hv.elim
        · refine wz_getS dX11_trace_34 (k0 hK) (f11_319 _ (by decide)) rfl o0 ?_
          refine wz_getR (b := (b12 + 1)) dX11_trace_37 (st_0 h15) (f11_340 _ z16) rfl ?_
          refine wp_iload_n (i := 1) dX11_trace_40 rfl rfl ?_
          obtain ⟨z17, hv⟩ := hv
          refine wz_iaload dX11_trace_41 (st_b h15 z16) z17 ?_
          refine wp_goto 46 dX11_trace_42 (by decide) ?_
          obtain rfl := hv
          exact wp_ireturn dX11_trace_46 rfl rfl rfl hq
theorem wX11_bodiesRun_0  (hK : StK K)  (hv : ((O 0 9 = none ∧ r = some (.int (0 : Int32))) ∨ ∃ (b1 c2 y3 : Nat), O 0 9 = some b1 ∧ IsSt K b1 c2 y3 ∧ c2 ∈ [1, 2, 3, 4, 5, 6, 7, 10] ∧ ((O 0 9 = none ∧ False) ∨ ∃ (b6 c7 y8 : Nat), O 0 9 = some b6 ∧ IsSt K b6 c7 y8 ∧ c7 ∈ [1, 2, 3, 4, 5, 6, 7, 10] ∧ r = some (.int (V b6 5))))) : Ev G d mX11_bodiesRun 0 [(0, .ref 0)] (K, n, V, J, O) r (K, n, V, J, O) := by
  refine Ev.mk fun Q hq => ?_
  refine wp_aload_n (i := 0) dX11_bodiesRun_0 rfl rfl ?_
  obtain ⟨o0, hv⟩ | ⟨b1, c2, y3, o0, h4, z5, hv⟩ := hv
  · refine wz_getN dX11_bodiesRun_1 (k0 hK) (f11_319 _ (by decide)) rfl o0 ?_
    refine wp_ifnonnullN dX11_bodiesRun_4 ?_
    refine wp_iconst (v := 0) dX11_bodiesRun_7 (by decide) ?_
    refine wp_goto 18 dX11_bodiesRun_8 (by decide) ?_
    obtain rfl := hv
    exact wp_ireturn dX11_bodiesRun_18 rfl rfl rfl hq
  · refine wz_getS dX11_bodiesRun_1 (k0 hK) (f11_319 _ (by decide)) rfl o0 ?_
    refine wp_ifnonnullR 11 dX11_bodiesRun_4 (by decide) ?_
    refine wp_aload_n (i := 0) dX11_bodiesRun_11 rfl rfl ?_
    obtain ⟨o0, hv⟩ | ⟨b6, c7, y8, o0, h9, z10, hv⟩ := hv
    · refine wz_getN dX11_bodiesRun_12 (k0 hK) (f11_319 _ (by decide)) rfl o0 ?_
      exact hv.elim
    · refine wz_getS dX11_bodiesRun_12 (k0 hK) (f11_319 _ (by decide)) rfl o0 ?_
      refine wz_getI dX11_bodiesRun_15 (st_0 h9) (f11_323 _ z10) rfl ?_
      obtain rfl := hv
      exact wp_ireturn dX11_bodiesRun_18 rfl rfl rfl hq
theorem wX11_keep_0 {x1 : Int32} {x2 : Int32} (hK : StK K)  (hv : (∃ (v1 : Int32), Ev G d mX11_isShelf 0 [(0, .int x1)] (K, n, V, J, O) (some (.int v1)) (K, n, V, J, O) ∧ ((v1 = 0 → (r = some (.int (-1 : Int32)) ∧ V' = V ∧ O' = O)) ∧ (¬ v1 = 0 → ((x2 = (-1 : Int32) → (∃ r3 : Option Value, Ev G d mX11_stoneAt 0 [(0, .ref 0), (1, .int x2)] (K, n, V, J, O) r3 (K, n, V, J, O) ∧ ((r3 = some .null ∧ (vp_in x1 6 ∧ (vp_in x1 6 ∧ (r = some (.int (1 : Int32)) ∧ V' = (up2 V 48 (x1).toNatClampNeg (-1 : Int32)) ∧ O' = (up2 O 47 (x1).toNatClampNeg none))))) ∨ ∃ (b2 c6 y7 : Nat), r3 = some (.ref b2) ∧ IsSt K b2 c6 y7 ∧ c6 ∈ [1, 2, 3, 4, 5, 6, 7, 10] ∧ (vp_in x1 6 ∧ (vp_in x1 6 ∧ (r = some (.int (1 : Int32)) ∧ V' = (up2 V 48 (x1).toNatClampNeg (-1 : Int32)) ∧ O' = (up2 O 47 (x1).toNatClampNeg (some b2)))))))) ∧ (¬ x2 = (-1 : Int32) → (∃ r13 : Option Value, Ev G d mX11_stoneAt 0 [(0, .ref 0), (1, .int x2)] (K, n, V, J, O) r13 (K, n, V, J, O) ∧ ((r13 = some .null ∧ (r = some (.int (-1 : Int32)) ∧ V' = V ∧ O' = O)) ∨ ∃ (b12 c14 y15 : Nat), r13 = some (.ref b12) ∧ IsSt K b12 c14 y15 ∧ c14 ∈ [1, 2, 3, 4, 5, 6, 7, 10] ∧ (∃ r19 : Option Value, Ev G d mX11_stoneAt 0 [(0, .ref 0), (1, .int x2)] (K, n, V, J, O) r19 (K, n, V, J, O) ∧ ((r19 = some .null ∧ (vp_in x1 6 ∧ (vp_in x1 6 ∧ (r = some (.int (1 : Int32)) ∧ V' = (up2 V 48 (x1).toNatClampNeg (-1 : Int32)) ∧ O' = (up2 O 47 (x1).toNatClampNeg none))))) ∨ ∃ (b18 c22 y23 : Nat), r19 = some (.ref b18) ∧ IsSt K b18 c22 y23 ∧ c22 ∈ [1, 2, 3, 4, 5, 6, 7, 10] ∧ (vp_in x1 6 ∧ (vp_in x1 6 ∧ (r = some (.int (1 : Int32)) ∧ V' = (up2 V 48 (x1).toNatClampNeg (-1 : Int32)) ∧ O' = (up2 O 47 (x1).toNatClampNeg (some b18))))))))))))))) : Ev G (d + 1) mX11_keep 0 [(0, .ref 0), (1, .int x1), (2, .int x2)] (K, n, V, J, O) r (K, n, V', J, O') := by
  refine Ev.mk fun Q hq => ?_
  refine wp_iload_n (i := 1) dX11_keep_0 rfl rfl ?_
  obtain ⟨v1, hE, hv⟩ := hv
  refine wz_callS (vs := [.int x1]) (st := []) dX11_keep_1 k11_343 hE rfl (Nat.le_of_ble_eq_true rfl) (Nat.le_of_ble_eq_true rfl) ?_
  change wp _ _ _ _ _ [.int v1] _ _ _
  refine wp_if_eq 20 dX11_keep_4 (by decide) (fun q => ?_) (fun q => ?_)
  · replace hv := hv.1 q
    refine wp_iconst (v := -1) dX11_keep_20 (by decide) ?_
    obtain ⟨rfl, rfl, rfl⟩ := hv
    exact wp_ireturn dX11_keep_21 rfl rfl rfl hq
  · replace hv := hv.2 q
    refine wp_iload_n (i := 2) dX11_keep_7 rfl rfl ?_
    refine wp_iconst (v := -1) dX11_keep_8 (by decide) ?_
    refine wp_icmp_eq 22 dX11_keep_9 (by decide) (fun q => ?_) (fun q => ?_)
    · replace hv := hv.1 q
      refine wp_aload_n (i := 0) dX11_keep_22 rfl rfl ?_
      refine wz_getR (b := 47) dX11_keep_23 (k0 hK) (f11_55 _ (by decide)) rfl ?_
      refine wp_iload_n (i := 1) dX11_keep_26 rfl rfl ?_
      refine wp_aload_n (i := 0) dX11_keep_27 rfl rfl ?_
      refine wp_iload_n (i := 2) dX11_keep_28 rfl rfl ?_
      obtain ⟨r3, hE, hv⟩ := hv
      obtain ⟨rfl, hv⟩ | ⟨b2, c6, y7, rfl, h8, z9, hv⟩ := hv
      · refine wz_callV (vs := [.int x2]) (st := [.int x1, .ref 47]) dX11_keep_29 (k0 hK) rfl k11_198_11 hE rfl (Nat.le_of_ble_eq_true rfl) (Nat.le_of_ble_eq_true rfl) ?_
        change wp _ _ _ _ _ [.null, .int x1, .ref 47] _ _ _
        obtain ⟨z4, hv⟩ := hv
        refine wz_aastN dX11_keep_32 (k47 hK) (by decide) z4 ?_
        refine wp_aload_n (i := 0) dX11_keep_33 rfl rfl ?_
        refine wz_getR (b := 48) dX11_keep_34 (k0 hK) (f11_58 _ (by decide)) rfl ?_
        refine wp_iload_n (i := 1) dX11_keep_37 rfl rfl ?_
        refine wp_iconst (v := -1) dX11_keep_38 (by decide) ?_
        obtain ⟨z5, hv⟩ := hv
        refine wz_iastore dX11_keep_39 (k48 hK) z5 ?_
        refine wp_iconst (v := 1) dX11_keep_40 (by decide) ?_
        obtain ⟨rfl, rfl, rfl⟩ := hv
        exact wp_ireturn dX11_keep_41 rfl rfl rfl hq
      · refine wz_callV (vs := [.int x2]) (st := [.int x1, .ref 47]) dX11_keep_29 (k0 hK) rfl k11_198_11 hE rfl (Nat.le_of_ble_eq_true rfl) (Nat.le_of_ble_eq_true rfl) ?_
        change wp _ _ _ _ _ [.ref b2, .int x1, .ref 47] _ _ _
        obtain ⟨z10, hv⟩ := hv
        refine wz_aastR dX11_keep_32 (k47 hK) (st_0 h8) (Or.inr ⟨rfl, z9⟩) z10 ?_
        refine wp_aload_n (i := 0) dX11_keep_33 rfl rfl ?_
        refine wz_getR (b := 48) dX11_keep_34 (k0 hK) (f11_58 _ (by decide)) rfl ?_
        refine wp_iload_n (i := 1) dX11_keep_37 rfl rfl ?_
        refine wp_iconst (v := -1) dX11_keep_38 (by decide) ?_
        obtain ⟨z11, hv⟩ := hv
        refine wz_iastore dX11_keep_39 (k48 hK) z11 ?_
        refine wp_iconst (v := 1) dX11_keep_40 (by decide) ?_
        obtain ⟨rfl, rfl, rfl⟩ := hv
        exact wp_ireturn dX11_keep_41 rfl rfl rfl hq
    · replace hv := hv.2 q
      refine wp_aload_n (i := 0) dX11_keep_12 rfl rfl ?_
      refine wp_iload_n (i := 2) dX11_keep_13 rfl rfl ?_
      obtain ⟨r13, hE, hv⟩ := hv
      obtain ⟨rfl, hv⟩ | ⟨b12, c14, y15, rfl, h16, z17, hv⟩ := hv
      · refine wz_callV (vs := [.int x2]) (st := []) dX11_keep_14 (k0 hK) rfl k11_198_11 hE rfl (Nat.le_of_ble_eq_true rfl) (Nat.le_of_ble_eq_true rfl) ?_
        change wp _ _ _ _ _ [.null] _ _ _
        refine wp_ifnonnullN dX11_keep_17 ?_
        refine wp_iconst (v := -1) dX11_keep_20 (by decide) ?_
        obtain ⟨rfl, rfl, rfl⟩ := hv
        exact wp_ireturn dX11_keep_21 rfl rfl rfl hq
      · refine wz_callV (vs := [.int x2]) (st := []) dX11_keep_14 (k0 hK) rfl k11_198_11 hE rfl (Nat.le_of_ble_eq_true rfl) (Nat.le_of_ble_eq_true rfl) ?_
        change wp _ _ _ _ _ [.ref b12] _ _ _
        refine wp_ifnonnullR 22 dX11_keep_17 (by decide) ?_
        refine wp_aload_n (i := 0) dX11_keep_22 rfl rfl ?_
        refine wz_getR (b := 47) dX11_keep_23 (k0 hK) (f11_55 _ (by decide)) rfl ?_
        refine wp_iload_n (i := 1) dX11_keep_26 rfl rfl ?_
        refine wp_aload_n (i := 0) dX11_keep_27 rfl rfl ?_
        refine wp_iload_n (i := 2) dX11_keep_28 rfl rfl ?_
        obtain ⟨r19, hE, hv⟩ := hv
        obtain ⟨rfl, hv⟩ | ⟨b18, c22, y23, rfl, h24, z25, hv⟩ := hv
        · refine wz_callV (vs := [.int x2]) (st := [.int x1, .ref 47]) dX11_keep_29 (k0 hK) rfl k11_198_11 hE rfl (Nat.le_of_ble_eq_true rfl) (Nat.le_of_ble_eq_true rfl) ?_
          change wp _ _ _ _ _ [.null, .int x1, .ref 47] _ _ _
          obtain ⟨z20, hv⟩ := hv
          refine wz_aastN dX11_keep_32 (k47 hK) (by decide) z20 ?_
          refine wp_aload_n (i := 0) dX11_keep_33 rfl rfl ?_
          refine wz_getR (b := 48) dX11_keep_34 (k0 hK) (f11_58 _ (by decide)) rfl ?_
          refine wp_iload_n (i := 1) dX11_keep_37 rfl rfl ?_
          refine wp_iconst (v := -1) dX11_keep_38 (by decide) ?_
          obtain ⟨z21, hv⟩ := hv
          refine wz_iastore dX11_keep_39 (k48 hK) z21 ?_
          refine wp_iconst (v := 1) dX11_keep_40 (by decide) ?_
          obtain ⟨rfl, rfl, rfl⟩ := hv
          exact wp_ireturn dX11_keep_41 rfl rfl rfl hq
        · refine wz_callV (vs := [.int x2]) (st := [.int x1, .ref 47]) dX11_keep_29 (k0 hK) rfl k11_198_11 hE rfl (Nat.le_of_ble_eq_true rfl) (Nat.le_of_ble_eq_true rfl) ?_
          change wp _ _ _ _ _ [.ref b18, .int x1, .ref 47] _ _ _
          obtain ⟨z26, hv⟩ := hv
          refine wz_aastR dX11_keep_32 (k47 hK) (st_0 h24) (Or.inr ⟨rfl, z25⟩) z26 ?_
          refine wp_aload_n (i := 0) dX11_keep_33 rfl rfl ?_
          refine wz_getR (b := 48) dX11_keep_34 (k0 hK) (f11_58 _ (by decide)) rfl ?_
          refine wp_iload_n (i := 1) dX11_keep_37 rfl rfl ?_
          refine wp_iconst (v := -1) dX11_keep_38 (by decide) ?_
          obtain ⟨z27, hv⟩ := hv
          refine wz_iastore dX11_keep_39 (k48 hK) z27 ?_
          refine wp_iconst (v := 1) dX11_keep_40 (by decide) ?_
          obtain ⟨rfl, rfl, rfl⟩ := hv
          exact wp_ireturn dX11_keep_41 rfl rfl rfl hq
theorem wX11_row_0 {x1 : Int32} {x2 : Int32} {x3 : Int32} (hK : StK K)  (hv : (∃ (v1 : Int32), Ev G d mX11_isShelf 0 [(0, .int x1)] (K, n, V, J, O) (some (.int v1)) (K, n, V, J, O) ∧ ((v1 = 0 → (r = some (.int (-1 : Int32)) ∧ V' = V ∧ J' = J ∧ O' = O)) ∧ (¬ v1 = 0 → (∃ (v2 : Int32), Ev G d mX11_isWithin 0 [(0, .int x2), (1, .int (0 : Int32)), (2, .int (4 : Int32))] (K, n, V, J, O) (some (.int v2)) (K, n, V, J, O) ∧ ((v2 = 0 → (r = some (.int (-1 : Int32)) ∧ V' = V ∧ J' = J ∧ O' = O)) ∧ (¬ v2 = 0 → ((x3 ≤ (60 : Int32) → ((0 ≤ x3 → (vp_in x1 6 ∧ (vp_in x1 6 ∧ (vp_in x1 6 ∧ (vp_in x1 6 ∧ (∃ (J7 : SJV), Ev G d mJ7_fill_d0a16 0 [(0, .ref (50 + 1 + (x1).toNatClampNeg)), (1, .long (0 : Int64))] (K, n, (up2 (up2 V 48 (x1).toNatClampNeg x2) 49 (x1).toNatClampNeg x3), J, (up2 O 47 (x1).toNatClampNeg none)) none (K, n, (up2 (up2 V 48 (x1).toNatClampNeg x2) 49 (x1).toNatClampNeg x3), J7, (up2 O 47 (x1).toNatClampNeg none)) ∧ (r = some (.int (1 : Int32)) ∧ V' = (up2 (up2 V 48 (x1).toNatClampNeg x2) 49 (x1).toNatClampNeg x3) ∧ J' = J7 ∧ O' = (up2 O 47 (x1).toNatClampNeg none)))))))) ∧ (¬ 0 ≤ x3 → (r = some (.int (-14 : Int32)) ∧ V' = V ∧ J' = J ∧ O' = O)))) ∧ (¬ x3 ≤ (60 : Int32) → (r = some (.int (-1 : Int32)) ∧ V' = V ∧ J' = J ∧ O' = O)))))))))) : Ev G (d + 1) mX11_row 0 [(0, .ref 0), (1, .int x1), (2, .int x2), (3, .int x3)] (K, n, V, J, O) r (K, n, V', J', O') := by
  refine Ev.mk fun Q hq => ?_
  refine wp_iload_n (i := 1) dX11_row_0 rfl rfl ?_
  obtain ⟨v1, hE, hv⟩ := hv
  refine wz_callS (vs := [.int x1]) (st := []) dX11_row_1 k11_343 hE rfl (Nat.le_of_ble_eq_true rfl) (Nat.le_of_ble_eq_true rfl) ?_
  change wp _ _ _ _ _ [.int v1] _ _ _
  refine wp_if_eq 22 dX11_row_4 (by decide) (fun q => ?_) (fun q => ?_)
  · replace hv := hv.1 q
    refine wp_iconst (v := -1) dX11_row_22 (by decide) ?_
    obtain ⟨rfl, rfl, rfl, rfl⟩ := hv
    exact wp_ireturn dX11_row_23 rfl rfl rfl hq
  · replace hv := hv.2 q
    refine wp_iload_n (i := 2) dX11_row_7 rfl rfl ?_
    refine wp_iconst (v := 0) dX11_row_8 (by decide) ?_
    refine wp_iconst (v := 4) dX11_row_9 (by decide) ?_
    obtain ⟨v2, hE, hv⟩ := hv
    refine wz_callS (vs := [.int x2, .int (0 : Int32), .int (4 : Int32)]) (st := []) dX11_row_10 k11_110 hE rfl (Nat.le_of_ble_eq_true rfl) (Nat.le_of_ble_eq_true rfl) ?_
    change wp _ _ _ _ _ [.int v2] _ _ _
    refine wp_if_eq 22 dX11_row_13 (by decide) (fun q => ?_) (fun q => ?_)
    · replace hv := hv.1 q
      refine wp_iconst (v := -1) dX11_row_22 (by decide) ?_
      obtain ⟨rfl, rfl, rfl, rfl⟩ := hv
      exact wp_ireturn dX11_row_23 rfl rfl rfl hq
    · replace hv := hv.2 q
      refine wp_iload_n (i := 3) dX11_row_16 rfl rfl ?_
      refine wp_bipush (v := 60) dX11_row_17 (by decide) ?_
      refine wp_icmp_le 24 dX11_row_19 (by decide) (fun q => ?_) (fun q => ?_)
      · replace hv := hv.1 q
        refine wp_iload_n (i := 3) dX11_row_24 rfl rfl ?_
        refine wp_if_ge 31 dX11_row_25 (by decide) (fun q => ?_) (fun q => ?_)
        · replace hv := hv.1 q
          refine wp_aload_n (i := 0) dX11_row_31 rfl rfl ?_
          refine wz_getR (b := 47) dX11_row_32 (k0 hK) (f11_55 _ (by decide)) rfl ?_
          refine wp_iload_n (i := 1) dX11_row_35 rfl rfl ?_
          refine wp_null dX11_row_36 ?_
          obtain ⟨z3, hv⟩ := hv
          refine wz_aastN dX11_row_37 (k47 hK) (by decide) z3 ?_
          refine wp_aload_n (i := 0) dX11_row_38 rfl rfl ?_
          refine wz_getR (b := 48) dX11_row_39 (k0 hK) (f11_58 _ (by decide)) rfl ?_
          refine wp_iload_n (i := 1) dX11_row_42 rfl rfl ?_
          refine wp_iload_n (i := 2) dX11_row_43 rfl rfl ?_
          obtain ⟨z4, hv⟩ := hv
          refine wz_iastore dX11_row_44 (k48 hK) z4 ?_
          refine wp_aload_n (i := 0) dX11_row_45 rfl rfl ?_
          refine wz_getR (b := 49) dX11_row_46 (k0 hK) (f11_61 _ (by decide)) rfl ?_
          refine wp_iload_n (i := 1) dX11_row_49 rfl rfl ?_
          refine wp_iload_n (i := 3) dX11_row_50 rfl rfl ?_
          obtain ⟨z5, hv⟩ := hv
          refine wz_iastore dX11_row_51 (k49 hK) z5 ?_
          refine wp_aload_n (i := 0) dX11_row_52 rfl rfl ?_
          refine wz_getR (b := 50) dX11_row_53 (k0 hK) (f11_66 _ (by decide)) rfl ?_
          refine wp_iload_n (i := 1) dX11_row_56 rfl rfl ?_
          obtain ⟨z6, hv⟩ := hv
          refine wz_aaload (b := 50) dX11_row_57 (k50 hK) (by decide) z6 ?_
          refine wp_lconst (v := 0) dX11_row_58 (by decide) ?_
          obtain ⟨J7, hE, hv⟩ := hv
          refine wz_callS (vs := [.ref (50 + 1 + (x1).toNatClampNeg), .long (0 : Int64)]) (st := []) dX11_row_59 k11_346 hE rfl (Nat.le_of_ble_eq_true rfl) (Nat.le_of_ble_eq_true rfl) ?_
          change wp _ _ _ _ _ [] _ _ _
          refine wp_iconst (v := 1) dX11_row_62 (by decide) ?_
          obtain ⟨rfl, rfl, rfl, rfl⟩ := hv
          exact wp_ireturn dX11_row_63 rfl rfl rfl hq
        · replace hv := hv.2 q
          refine wp_bipush (v := -14) dX11_row_28 (by decide) ?_
          obtain ⟨rfl, rfl, rfl, rfl⟩ := hv
          exact wp_ireturn dX11_row_30 rfl rfl rfl hq
      · replace hv := hv.2 q
        refine wp_iconst (v := -1) dX11_row_22 (by decide) ?_
        obtain ⟨rfl, rfl, rfl, rfl⟩ := hv
        exact wp_ireturn dX11_row_23 rfl rfl rfl hq
theorem wX11_set_0 {x1 : Int32} {x2 : Int32} {l3 : Int64} (hK : StK K)  (hv : (∃ (v1 : Int32), Ev G d mX11_refusalAt 0 [(0, .ref 0), (1, .int x1), (2, .int x2)] (K, n, V, J, O) (some (.int v1)) (K, n, V, J, O) ∧ ((v1 = 0 → (vp_in x1 6 ∧ (vp_in x1 6 ∧ (∃ (w4 : Int64), Ev G d mX11_cut 0 [(0, .int (V 48 (x1).toNatClampNeg)), (1, .long l3)] (K, n, V, J, O) (some (.long w4)) (K, n, V, J, O) ∧ (vp_in x2 60 ∧ (r = some (.int (1 : Int32)) ∧ J' = (up2 J (50 + 1 + (x1).toNatClampNeg) (x2).toNatClampNeg w4))))))) ∧ (¬ v1 = 0 → (r = some (.int v1) ∧ J' = J))))) : Ev G (d + 1) mX11_set 0 [(0, .ref 0), (1, .int x1), (2, .int x2), (3, .long l3)] (K, n, V, J, O) r (K, n, V, J', O) := by
  refine Ev.mk fun Q hq => ?_
  refine wp_aload_n (i := 0) dX11_set_0 rfl rfl ?_
  refine wp_iload_n (i := 1) dX11_set_1 rfl rfl ?_
  refine wp_iload_n (i := 2) dX11_set_2 rfl rfl ?_
  obtain ⟨v1, hE, hv⟩ := hv
  refine wz_callV (vs := [.int x1, .int x2]) (st := []) dX11_set_3 (k0 hK) rfl k11_349_11 hE rfl (Nat.le_of_ble_eq_true rfl) (Nat.le_of_ble_eq_true rfl) ?_
  change wp _ _ _ _ _ [.int v1] _ _ _
  refine wx_istore (ls' := [(0, .ref 0), (1, .int x1), (2, .int x2), (3, .long l3), (5, .int v1)]) dX11_set_6 (by decide) rfl ?_
  refine wp_iload dX11_set_8 rfl ?_
  refine wp_if_eq 16 dX11_set_10 (by decide) (fun q => ?_) (fun q => ?_)
  · replace hv := hv.1 q
    refine wp_aload_n (i := 0) dX11_set_16 rfl rfl ?_
    refine wz_getR (b := 50) dX11_set_17 (k0 hK) (f11_66 _ (by decide)) rfl ?_
    refine wp_iload_n (i := 1) dX11_set_20 rfl rfl ?_
    obtain ⟨z2, hv⟩ := hv
    refine wz_aaload (b := 50) dX11_set_21 (k50 hK) (by decide) z2 ?_
    refine wp_iload_n (i := 2) dX11_set_22 rfl rfl ?_
    refine wp_aload_n (i := 0) dX11_set_23 rfl rfl ?_
    refine wz_getR (b := 48) dX11_set_24 (k0 hK) (f11_58 _ (by decide)) rfl ?_
    refine wp_iload_n (i := 1) dX11_set_27 rfl rfl ?_
    obtain ⟨z3, hv⟩ := hv
    refine wz_iaload dX11_set_28 (k48 hK) z3 ?_
    refine wp_lload_n (i := 3) dX11_set_29 rfl rfl ?_
    obtain ⟨w4, hE, hv⟩ := hv
    refine wz_callS (vs := [.int (V 48 (x1).toNatClampNeg), .long l3]) (st := [.int x2, .ref (50 + 1 + (x1).toNatClampNeg)]) dX11_set_30 k11_352 hE rfl (Nat.le_of_ble_eq_true rfl) (Nat.le_of_ble_eq_true rfl) ?_
    change wp _ _ _ _ _ [.long w4, .int x2, .ref (50 + 1 + (x1).toNatClampNeg)] _ _ _
    obtain ⟨z5, hv⟩ := hv
    refine wz_lastore dX11_set_33 (kr50 hK (in_lt z2)) z5 ?_
    refine wp_iconst (v := 1) dX11_set_34 (by decide) ?_
    obtain ⟨rfl, rfl⟩ := hv
    exact wp_ireturn dX11_set_35 rfl rfl rfl hq
  · replace hv := hv.2 q
    refine wp_iload dX11_set_13 rfl ?_
    obtain ⟨rfl, rfl⟩ := hv
    exact wp_ireturn dX11_set_15 rfl rfl rfl hq
theorem wX11_element_0 {x1 : Int32} {x2 : Int32} (hK : StK K)  (hv : (∃ (v1 : Int32), Ev G d mX11_refusalAt 0 [(0, .ref 0), (1, .int x1), (2, .int x2)] (K, n, V, J, O) (some (.int v1)) (K, n, V, J, O) ∧ ((v1 = 0 → (vp_in x1 6 ∧ (vp_in x2 60 ∧ r = some (.long (J (50 + 1 + (x1).toNatClampNeg) (x2).toNatClampNeg))))) ∧ (¬ v1 = 0 → r = some (.long (-9223372036854775808 : Int64)))))) : Ev G (d + 1) mX11_element 0 [(0, .ref 0), (1, .int x1), (2, .int x2)] (K, n, V, J, O) r (K, n, V, J, O) := by
  refine Ev.mk fun Q hq => ?_
  refine wp_aload_n (i := 0) dX11_element_0 rfl rfl ?_
  refine wp_iload_n (i := 1) dX11_element_1 rfl rfl ?_
  refine wp_iload_n (i := 2) dX11_element_2 rfl rfl ?_
  obtain ⟨v1, hE, hv⟩ := hv
  refine wz_callV (vs := [.int x1, .int x2]) (st := []) dX11_element_3 (k0 hK) rfl k11_349_11 hE rfl (Nat.le_of_ble_eq_true rfl) (Nat.le_of_ble_eq_true rfl) ?_
  change wp _ _ _ _ _ [.int v1] _ _ _
  refine wp_if_eq 15 dX11_element_6 (by decide) (fun q => ?_) (fun q => ?_)
  · replace hv := hv.1 q
    refine wp_aload_n (i := 0) dX11_element_15 rfl rfl ?_
    refine wz_getR (b := 50) dX11_element_16 (k0 hK) (f11_66 _ (by decide)) rfl ?_
    refine wp_iload_n (i := 1) dX11_element_19 rfl rfl ?_
    obtain ⟨z2, hv⟩ := hv
    refine wz_aaload (b := 50) dX11_element_20 (k50 hK) (by decide) z2 ?_
    refine wp_iload_n (i := 2) dX11_element_21 rfl rfl ?_
    obtain ⟨z3, hv⟩ := hv
    refine wz_laload dX11_element_22 (kr50 hK (in_lt z2)) z3 ?_
    obtain rfl := hv
    exact wp_lreturn dX11_element_23 rfl rfl hq
  · replace hv := hv.2 q
    refine wp_ldc2 (v := -9223372036854775808) dX11_element_9 q11_356 ?_
    refine wp_goto 23 dX11_element_12 (by decide) ?_
    obtain rfl := hv
    exact wp_lreturn dX11_element_23 rfl rfl hq
theorem wX11_shift_0 {x1 : Int32} {x2 : Int32} {x3 : Int32} {x4 : Int32} {x5 : Int32} (hK : StK K)  (hv : (∃ (v1 : Int32), Ev G d mX11_isShelf 0 [(0, .int x1)] (K, n, V, J, O) (some (.int v1)) (K, n, V, J, O) ∧ ((v1 = 0 → (r = some (.int (-1 : Int32)) ∧ J' = J)) ∧ (¬ v1 = 0 → (∃ (v2 : Int32), Ev G d mX11_isShelf 0 [(0, .int x3)] (K, n, V, J, O) (some (.int v2)) (K, n, V, J, O) ∧ ((v2 ≠ 0 → (∃ (v3 : Int32), Ev G d mX11_holdsNothing 0 [(0, .ref 0), (1, .int x1)] (K, n, V, J, O) (some (.int v3)) (K, n, V, J, O) ∧ ((v3 ≠ 0 → (r = some (.int (-11 : Int32)) ∧ J' = J)) ∧ (v3 = 0 → (∃ (v4 : Int32), Ev G d mX11_holdsNothing 0 [(0, .ref 0), (1, .int x3)] (K, n, V, J, O) (some (.int v4)) (K, n, V, J, O) ∧ ((v4 = 0 → (vp_in x1 6 ∧ (((V 48 (x1).toNatClampNeg) = (-1 : Int32) → (r = some (.int (-12 : Int32)) ∧ J' = J)) ∧ (¬ (V 48 (x1).toNatClampNeg) = (-1 : Int32) → (vp_in x1 6 ∧ (vp_in x3 6 ∧ (((V 48 (x1).toNatClampNeg) = (V 48 (x3).toNatClampNeg) → (∃ (v8 : Int32), Ev G d mX11_hasPlaces 0 [(0, .ref 0), (1, .int x1), (2, .int x2), (3, .int x5)] (K, n, V, J, O) (some (.int v8)) (K, n, V, J, O) ∧ ((v8 = 0 → (r = some (.int (-13 : Int32)) ∧ J' = J)) ∧ (¬ v8 = 0 → (∃ (v9 : Int32), Ev G d mX11_hasPlaces 0 [(0, .ref 0), (1, .int x3), (2, .int x4), (3, .int x5)] (K, n, V, J, O) (some (.int v9)) (K, n, V, J, O) ∧ ((v9 ≠ 0 → (vp_in x1 6 ∧ (vp_in x3 6 ∧ ((¬ x2 < 0 ∧ ¬ x4 < 0 ∧ ¬ x5 < 0 ∧ (x2).toNatClampNeg + (x5).toNatClampNeg ≤ 60 ∧ (x4).toNatClampNeg + (x5).toNatClampNeg ≤ 60) ∧ (r = some (.int x5) ∧ J' = (upA J (50 + 1 + (x3).toNatClampNeg) (va_cpy (J (50 + 1 + (x1).toNatClampNeg)) (J (50 + 1 + (x3).toNatClampNeg)) (x2).toNatClampNeg (x4).toNatClampNeg (x5).toNatClampNeg))))))) ∧ (v9 = 0 → (r = some (.int (-13 : Int32)) ∧ J' = J)))))))) ∧ (¬ (V 48 (x1).toNatClampNeg) = (V 48 (x3).toNatClampNeg) → (r = some (.int (-12 : Int32)) ∧ J' = J))))))))) ∧ (¬ v4 = 0 → (r = some (.int (-11 : Int32)) ∧ J' = J)))))))) ∧ (v2 = 0 → (r = some (.int (-1 : Int32)) ∧ J' = J)))))))) : Ev G (d + 1) mX11_shift 0 [(0, .ref 0), (1, .int x1), (2, .int x2), (3, .int x3), (4, .int x4), (5, .int x5)] (K, n, V, J, O) r (K, n, V, J', O) := by
  refine Ev.mk fun Q hq => ?_
  refine wp_iload_n (i := 1) dX11_shift_0 rfl rfl ?_
  obtain ⟨v1, hE, hv⟩ := hv
  refine wz_callS (vs := [.int x1]) (st := []) dX11_shift_1 k11_343 hE rfl (Nat.le_of_ble_eq_true rfl) (Nat.le_of_ble_eq_true rfl) ?_
  change wp _ _ _ _ _ [.int v1] _ _ _
  refine wp_if_eq 14 dX11_shift_4 (by decide) (fun q => ?_) (fun q => ?_)
  · replace hv := hv.1 q
    refine wp_iconst (v := -1) dX11_shift_14 (by decide) ?_
    obtain ⟨rfl, rfl⟩ := hv
    exact wp_ireturn dX11_shift_15 rfl rfl rfl hq
  · replace hv := hv.2 q
    refine wp_iload_n (i := 3) dX11_shift_7 rfl rfl ?_
    obtain ⟨v2, hE, hv⟩ := hv
    refine wz_callS (vs := [.int x3]) (st := []) dX11_shift_8 k11_343 hE rfl (Nat.le_of_ble_eq_true rfl) (Nat.le_of_ble_eq_true rfl) ?_
    change wp _ _ _ _ _ [.int v2] _ _ _
    refine wp_if_ne 16 dX11_shift_11 (by decide) (fun q => ?_) (fun q => ?_)
    · replace hv := hv.1 q
      refine wp_aload_n (i := 0) dX11_shift_16 rfl rfl ?_
      refine wp_iload_n (i := 1) dX11_shift_17 rfl rfl ?_
      obtain ⟨v3, hE, hv⟩ := hv
      refine wz_callV (vs := [.int x1]) (st := []) dX11_shift_18 (k0 hK) rfl k11_358_11 hE rfl (Nat.le_of_ble_eq_true rfl) (Nat.le_of_ble_eq_true rfl) ?_
      change wp _ _ _ _ _ [.int v3] _ _ _
      refine wp_if_ne 32 dX11_shift_21 (by decide) (fun q => ?_) (fun q => ?_)
      · replace hv := hv.1 q
        refine wp_bipush (v := -11) dX11_shift_32 (by decide) ?_
        obtain ⟨rfl, rfl⟩ := hv
        exact wp_ireturn dX11_shift_34 rfl rfl rfl hq
      · replace hv := hv.2 q
        refine wp_aload_n (i := 0) dX11_shift_24 rfl rfl ?_
        refine wp_iload_n (i := 3) dX11_shift_25 rfl rfl ?_
        obtain ⟨v4, hE, hv⟩ := hv
        refine wz_callV (vs := [.int x3]) (st := []) dX11_shift_26 (k0 hK) rfl k11_358_11 hE rfl (Nat.le_of_ble_eq_true rfl) (Nat.le_of_ble_eq_true rfl) ?_
        change wp _ _ _ _ _ [.int v4] _ _ _
        refine wp_if_eq 35 dX11_shift_29 (by decide) (fun q => ?_) (fun q => ?_)
        · replace hv := hv.1 q
          refine wp_aload_n (i := 0) dX11_shift_35 rfl rfl ?_
          refine wz_getR (b := 48) dX11_shift_36 (k0 hK) (f11_58 _ (by decide)) rfl ?_
          refine wp_iload_n (i := 1) dX11_shift_39 rfl rfl ?_
          obtain ⟨z5, hv⟩ := hv
          refine wz_iaload dX11_shift_40 (k48 hK) z5 ?_
          refine wp_iconst (v := -1) dX11_shift_41 (by decide) ?_
          refine wp_icmp_eq 60 dX11_shift_42 (by decide) (fun q => ?_) (fun q => ?_)
          · replace hv := hv.1 q
            refine wp_bipush (v := -12) dX11_shift_60 (by decide) ?_
            obtain ⟨rfl, rfl⟩ := hv
            exact wp_ireturn dX11_shift_62 rfl rfl rfl hq
          · replace hv := hv.2 q
            refine wp_aload_n (i := 0) dX11_shift_45 rfl rfl ?_
            refine wz_getR (b := 48) dX11_shift_46 (k0 hK) (f11_58 _ (by decide)) rfl ?_
            refine wp_iload_n (i := 1) dX11_shift_49 rfl rfl ?_
            obtain ⟨z6, hv⟩ := hv
            refine wz_iaload dX11_shift_50 (k48 hK) z6 ?_
            refine wp_aload_n (i := 0) dX11_shift_51 rfl rfl ?_
            refine wz_getR (b := 48) dX11_shift_52 (k0 hK) (f11_58 _ (by decide)) rfl ?_
            refine wp_iload_n (i := 3) dX11_shift_55 rfl rfl ?_
            obtain ⟨z7, hv⟩ := hv
            refine wz_iaload dX11_shift_56 (k48 hK) z7 ?_
            refine wp_icmp_eq 63 dX11_shift_57 (by decide) (fun q => ?_) (fun q => ?_)
            · replace hv := hv.1 q
              refine wp_aload_n (i := 0) dX11_shift_63 rfl rfl ?_
              refine wp_iload_n (i := 1) dX11_shift_64 rfl rfl ?_
              refine wp_iload_n (i := 2) dX11_shift_65 rfl rfl ?_
              refine wp_iload dX11_shift_66 rfl ?_
              obtain ⟨v8, hE, hv⟩ := hv
              refine wz_callV (vs := [.int x1, .int x2, .int x5]) (st := []) dX11_shift_68 (k0 hK) rfl k11_361_11 hE rfl (Nat.le_of_ble_eq_true rfl) (Nat.le_of_ble_eq_true rfl) ?_
              change wp _ _ _ _ _ [.int v8] _ _ _
              refine wp_if_eq 86 dX11_shift_71 (by decide) (fun q => ?_) (fun q => ?_)
              · replace hv := hv.1 q
                refine wp_bipush (v := -13) dX11_shift_86 (by decide) ?_
                obtain ⟨rfl, rfl⟩ := hv
                exact wp_ireturn dX11_shift_88 rfl rfl rfl hq
              · replace hv := hv.2 q
                refine wp_aload_n (i := 0) dX11_shift_74 rfl rfl ?_
                refine wp_iload_n (i := 3) dX11_shift_75 rfl rfl ?_
                refine wp_iload dX11_shift_76 rfl ?_
                refine wp_iload dX11_shift_78 rfl ?_
                obtain ⟨v9, hE, hv⟩ := hv
                refine wz_callV (vs := [.int x3, .int x4, .int x5]) (st := []) dX11_shift_80 (k0 hK) rfl k11_361_11 hE rfl (Nat.le_of_ble_eq_true rfl) (Nat.le_of_ble_eq_true rfl) ?_
                change wp _ _ _ _ _ [.int v9] _ _ _
                refine wp_if_ne 89 dX11_shift_83 (by decide) (fun q => ?_) (fun q => ?_)
                · replace hv := hv.1 q
                  refine wp_aload_n (i := 0) dX11_shift_89 rfl rfl ?_
                  refine wz_getR (b := 50) dX11_shift_90 (k0 hK) (f11_66 _ (by decide)) rfl ?_
                  refine wp_iload_n (i := 1) dX11_shift_93 rfl rfl ?_
                  obtain ⟨z10, hv⟩ := hv
                  refine wz_aaload (b := 50) dX11_shift_94 (k50 hK) (by decide) z10 ?_
                  refine wp_iload_n (i := 2) dX11_shift_95 rfl rfl ?_
                  refine wp_aload_n (i := 0) dX11_shift_96 rfl rfl ?_
                  refine wz_getR (b := 50) dX11_shift_97 (k0 hK) (f11_66 _ (by decide)) rfl ?_
                  refine wp_iload_n (i := 3) dX11_shift_100 rfl rfl ?_
                  obtain ⟨z11, hv⟩ := hv
                  refine wz_aaload (b := 50) dX11_shift_101 (k50 hK) (by decide) z11 ?_
                  refine wp_iload dX11_shift_102 rfl ?_
                  refine wp_iload dX11_shift_104 rfl ?_
                  obtain ⟨⟨z1, z2, z3, z4, z5⟩, hv⟩ := hv
                  refine wz_copyL dX11_shift_106 cp11_364 (kr50 hK (in_lt z10)) (kr50 hK (in_lt z11)) z1 z2 z3 z4 z5 (by decide) ?_
                  refine wp_iload dX11_shift_109 rfl ?_
                  obtain ⟨rfl, rfl⟩ := hv
                  exact wp_ireturn dX11_shift_111 rfl rfl rfl hq
                · replace hv := hv.2 q
                  refine wp_bipush (v := -13) dX11_shift_86 (by decide) ?_
                  obtain ⟨rfl, rfl⟩ := hv
                  exact wp_ireturn dX11_shift_88 rfl rfl rfl hq
            · replace hv := hv.2 q
              refine wp_bipush (v := -12) dX11_shift_60 (by decide) ?_
              obtain ⟨rfl, rfl⟩ := hv
              exact wp_ireturn dX11_shift_62 rfl rfl rfl hq
        · replace hv := hv.2 q
          refine wp_bipush (v := -11) dX11_shift_32 (by decide) ?_
          obtain ⟨rfl, rfl⟩ := hv
          exact wp_ireturn dX11_shift_34 rfl rfl rfl hq
    · replace hv := hv.2 q
      refine wp_iconst (v := -1) dX11_shift_14 (by decide) ?_
      obtain ⟨rfl, rfl⟩ := hv
      exact wp_ireturn dX11_shift_15 rfl rfl rfl hq
theorem wX11_taken_0 {x1 : Int32} {x2 : Int32} (hK : StK K)  (hv : (∃ (v1 : Int32), Ev G d mX11_isShelf 0 [(0, .int x1)] (K, n, V, J, O) (some (.int v1)) (K, n, V, J, O) ∧ ((v1 = 0 → r = some (.int (-1 : Int32))) ∧ (¬ v1 = 0 → (∃ (v2 : Int32), Ev G d mX11_isWithin 0 [(0, .int x2), (1, .int (0 : Int32)), (2, .int (7 : Int32))] (K, n, V, J, O) (some (.int v2)) (K, n, V, J, O) ∧ ((v2 ≠ 0 → (∃ (v3 : Int32), Ev G d mX11_holdsNothing 0 [(0, .ref 0), (1, .int x1)] (K, n, V, J, O) (some (.int v3)) (K, n, V, J, O) ∧ ((v3 = 0 → (vp_in x1 6 ∧ ((O 47 (x1).toNatClampNeg = none ∧ r = some (.int (-12 : Int32))) ∨ ∃ (b5 c6 y7 : Nat), O 47 (x1).toNatClampNeg = some b5 ∧ IsSt K b5 c6 y7 ∧ c6 ∈ [1, 2, 3, 4, 5, 6, 7, 10] ∧ (∃ (v10 : Int32), Ev G d mX11_isOfKind 0 [(0, .ref b5), (1, .int x2)] (K, n, V, J, O) (some (.int v10)) (K, n, V, J, O) ∧ ((v10 ≠ 0 → (∃ M' : AM, vt11_202 c6 = some M' ∧ (∃ (v11 : Int32), Ev G d M' 0 [(0, .ref b5)] (K, n, V, J, O) (some (.int v11)) (K, n, V, J, O) ∧ r = some (.int v11)))) ∧ (v10 = 0 → r = some (.int (-12 : Int32)))))))) ∧ (¬ v3 = 0 → r = some (.int (-11 : Int32)))))) ∧ (v2 = 0 → r = some (.int (-1 : Int32))))))))) : Ev G (d + 1) mX11_taken 0 [(0, .ref 0), (1, .int x1), (2, .int x2)] (K, n, V, J, O) r (K, n, V, J, O) := by
  refine Ev.mk fun Q hq => ?_
  refine wp_iload_n (i := 1) dX11_taken_0 rfl rfl ?_
  obtain ⟨v1, hE, hv⟩ := hv
  refine wz_callS (vs := [.int x1]) (st := []) dX11_taken_1 k11_343 hE rfl (Nat.le_of_ble_eq_true rfl) (Nat.le_of_ble_eq_true rfl) ?_
  change wp _ _ _ _ _ [.int v1] _ _ _
  refine wp_if_eq 17 dX11_taken_4 (by decide) (fun q => ?_) (fun q => ?_)
  · replace hv := hv.1 q
    refine wp_iconst (v := -1) dX11_taken_17 (by decide) ?_
    obtain rfl := hv
    exact wp_ireturn dX11_taken_18 rfl rfl rfl hq
  · replace hv := hv.2 q
    refine wp_iload_n (i := 2) dX11_taken_7 rfl rfl ?_
    refine wp_iconst (v := 0) dX11_taken_8 (by decide) ?_
    refine wp_bipush (v := 7) dX11_taken_9 (by decide) ?_
    obtain ⟨v2, hE, hv⟩ := hv
    refine wz_callS (vs := [.int x2, .int (0 : Int32), .int (7 : Int32)]) (st := []) dX11_taken_11 k11_110 hE rfl (Nat.le_of_ble_eq_true rfl) (Nat.le_of_ble_eq_true rfl) ?_
    change wp _ _ _ _ _ [.int v2] _ _ _
    refine wp_if_ne 19 dX11_taken_14 (by decide) (fun q => ?_) (fun q => ?_)
    · replace hv := hv.1 q
      refine wp_aload_n (i := 0) dX11_taken_19 rfl rfl ?_
      refine wp_iload_n (i := 1) dX11_taken_20 rfl rfl ?_
      obtain ⟨v3, hE, hv⟩ := hv
      refine wz_callV (vs := [.int x1]) (st := []) dX11_taken_21 (k0 hK) rfl k11_358_11 hE rfl (Nat.le_of_ble_eq_true rfl) (Nat.le_of_ble_eq_true rfl) ?_
      change wp _ _ _ _ _ [.int v3] _ _ _
      refine wp_if_eq 30 dX11_taken_24 (by decide) (fun q => ?_) (fun q => ?_)
      · replace hv := hv.1 q
        refine wp_aload_n (i := 0) dX11_taken_30 rfl rfl ?_
        refine wz_getR (b := 47) dX11_taken_31 (k0 hK) (f11_55 _ (by decide)) rfl ?_
        refine wp_iload_n (i := 1) dX11_taken_34 rfl rfl ?_
        obtain ⟨z4, ⟨o0, hv⟩ | ⟨b5, c6, y7, o0, h8, z9, hv⟩⟩ := hv
        · refine wz_aaloadN dX11_taken_35 (k47 hK) (by decide) z4 o0 ?_
          refine wx_astore_nN (ls' := [(0, .ref 0), (1, .int x1), (2, .int x2), (3, .null)]) (i := 3) dX11_taken_36 rfl (by decide) rfl ?_
          refine wp_aload_nN (i := 3) dX11_taken_37 rfl rfl ?_
          refine wp_ifnullN 49 dX11_taken_38 (by decide) ?_
          refine wp_bipush (v := -12) dX11_taken_49 (by decide) ?_
          refine wp_goto 58 dX11_taken_51 (by decide) ?_
          obtain rfl := hv
          exact wp_ireturn dX11_taken_58 rfl rfl rfl hq
        · refine wz_aaloadR dX11_taken_35 (k47 hK) (by decide) z4 o0 ?_
          refine wx_astore_n (ls' := [(0, .ref 0), (1, .int x1), (2, .int x2), (3, .ref b5)]) (i := 3) dX11_taken_36 rfl (by decide) rfl ?_
          refine wp_aload_n (i := 3) dX11_taken_37 rfl rfl ?_
          refine wp_ifnullR dX11_taken_38 ?_
          refine wp_aload_n (i := 3) dX11_taken_41 rfl rfl ?_
          refine wp_iload_n (i := 2) dX11_taken_42 rfl rfl ?_
          obtain ⟨v10, hE, hv⟩ := hv
          refine wz_callS (vs := [.ref b5, .int x2]) (st := []) dX11_taken_43 k11_370 hE rfl (Nat.le_of_ble_eq_true rfl) (Nat.le_of_ble_eq_true rfl) ?_
          change wp _ _ _ _ _ [.int v10] _ _ _
          refine wp_if_ne 54 dX11_taken_46 (by decide) (fun q => ?_) (fun q => ?_)
          · replace hv := hv.1 q
            refine wp_aload_n (i := 3) dX11_taken_54 rfl rfl ?_
            obtain ⟨M', hM, hv⟩ := hv
            obtain ⟨v11, hE, hv⟩ := hv
            refine wz_callX (vs := []) (st := []) dX11_taken_55 (st_0 h8) (kx11_202 hM).1 hE rfl (kx11_202 hM).2 (Nat.le_of_ble_eq_true rfl) ?_
            change wp _ _ _ _ _ [.int v11] _ _ _
            obtain rfl := hv
            exact wp_ireturn dX11_taken_58 rfl rfl rfl hq
          · replace hv := hv.2 q
            refine wp_bipush (v := -12) dX11_taken_49 (by decide) ?_
            refine wp_goto 58 dX11_taken_51 (by decide) ?_
            obtain rfl := hv
            exact wp_ireturn dX11_taken_58 rfl rfl rfl hq
      · replace hv := hv.2 q
        refine wp_bipush (v := -11) dX11_taken_27 (by decide) ?_
        obtain rfl := hv
        exact wp_ireturn dX11_taken_29 rfl rfl rfl hq
    · replace hv := hv.2 q
      refine wp_iconst (v := -1) dX11_taken_17 (by decide) ?_
      obtain rfl := hv
      exact wp_ireturn dX11_taken_18 rfl rfl rfl hq
theorem wX11_things_0 {x1 : Int32} {x2 : Int32} {x3 : Int32} (hK : StK K)  (hv : (∃ (v1 : Int32), Ev G d mX11_isShelf 0 [(0, .int x1)] (K, n, V, J, O) (some (.int v1)) (K, n, V, J, O) ∧ ((v1 = 0 → (r = some (.int (-1 : Int32)) ∧ V' = V)) ∧ (¬ v1 = 0 → (∃ (v2 : Int32), Ev G d mX11_isWithin 0 [(0, .int x3), (1, .int (1 : Int32)), (2, .int (15 : Int32))] (K, n, V, J, O) (some (.int v2)) (K, n, V, J, O) ∧ ((v2 ≠ 0 → (∃ (v3 : Int32), Ev G d mX11_holdsNothing 0 [(0, .ref 0), (1, .int x1)] (K, n, V, J, O) (some (.int v3)) (K, n, V, J, O) ∧ ((v3 = 0 → (vp_in x1 6 ∧ (((V 48 (x1).toNatClampNeg) = 0 → (vp_in x1 6 ∧ Ev G (d + 1) mX11_things 52 [(0, .ref 0), (1, .int x1), (2, .int x2), (3, .int x3), (4, .ref (50 + 1 + (x1).toNatClampNeg)), (5, .int (0 : Int32))] (K, n, V, J, O) r (K, n, V', J, O))) ∧ (¬ (V 48 (x1).toNatClampNeg) = 0 → (r = some (.int (-12 : Int32)) ∧ V' = V))))) ∧ (¬ v3 = 0 → (r = some (.int (0 : Int32)) ∧ V' = V))))) ∧ (v2 = 0 → (r = some (.int (-1 : Int32)) ∧ V' = V)))))))) : Ev G (d + 1) mX11_things 0 [(0, .ref 0), (1, .int x1), (2, .int x2), (3, .int x3)] (K, n, V, J, O) r (K, n, V', J, O) := by
  refine Ev.mk fun Q hq => ?_
  refine wp_iload_n (i := 1) dX11_things_0 rfl rfl ?_
  obtain ⟨v1, hE, hv⟩ := hv
  refine wz_callS (vs := [.int x1]) (st := []) dX11_things_1 k11_343 hE rfl (Nat.le_of_ble_eq_true rfl) (Nat.le_of_ble_eq_true rfl) ?_
  change wp _ _ _ _ _ [.int v1] _ _ _
  refine wp_if_eq 17 dX11_things_4 (by decide) (fun q => ?_) (fun q => ?_)
  · replace hv := hv.1 q
    refine wp_iconst (v := -1) dX11_things_17 (by decide) ?_
    obtain ⟨rfl, rfl⟩ := hv
    exact wp_ireturn dX11_things_18 rfl rfl rfl hq
  · replace hv := hv.2 q
    refine wp_iload_n (i := 3) dX11_things_7 rfl rfl ?_
    refine wp_iconst (v := 1) dX11_things_8 (by decide) ?_
    refine wp_bipush (v := 15) dX11_things_9 (by decide) ?_
    obtain ⟨v2, hE, hv⟩ := hv
    refine wz_callS (vs := [.int x3, .int (1 : Int32), .int (15 : Int32)]) (st := []) dX11_things_11 k11_110 hE rfl (Nat.le_of_ble_eq_true rfl) (Nat.le_of_ble_eq_true rfl) ?_
    change wp _ _ _ _ _ [.int v2] _ _ _
    refine wp_if_ne 19 dX11_things_14 (by decide) (fun q => ?_) (fun q => ?_)
    · replace hv := hv.1 q
      refine wp_aload_n (i := 0) dX11_things_19 rfl rfl ?_
      refine wp_iload_n (i := 1) dX11_things_20 rfl rfl ?_
      obtain ⟨v3, hE, hv⟩ := hv
      refine wz_callV (vs := [.int x1]) (st := []) dX11_things_21 (k0 hK) rfl k11_358_11 hE rfl (Nat.le_of_ble_eq_true rfl) (Nat.le_of_ble_eq_true rfl) ?_
      change wp _ _ _ _ _ [.int v3] _ _ _
      refine wp_if_eq 29 dX11_things_24 (by decide) (fun q => ?_) (fun q => ?_)
      · replace hv := hv.1 q
        refine wp_aload_n (i := 0) dX11_things_29 rfl rfl ?_
        refine wz_getR (b := 48) dX11_things_30 (k0 hK) (f11_58 _ (by decide)) rfl ?_
        refine wp_iload_n (i := 1) dX11_things_33 rfl rfl ?_
        obtain ⟨z4, hv⟩ := hv
        refine wz_iaload dX11_things_34 (k48 hK) z4 ?_
        refine wp_if_eq 41 dX11_things_35 (by decide) (fun q => ?_) (fun q => ?_)
        · replace hv := hv.1 q
          refine wp_aload_n (i := 0) dX11_things_41 rfl rfl ?_
          refine wz_getR (b := 50) dX11_things_42 (k0 hK) (f11_66 _ (by decide)) rfl ?_
          refine wp_iload_n (i := 1) dX11_things_45 rfl rfl ?_
          obtain ⟨z5, hv⟩ := hv
          refine wz_aaload (b := 50) dX11_things_46 (k50 hK) (by decide) z5 ?_
          refine wx_astore (ls' := [(0, .ref 0), (1, .int x1), (2, .int x2), (3, .int x3), (4, .ref (50 + 1 + (x1).toNatClampNeg))]) dX11_things_47 (by decide) rfl ?_
          refine wp_iconst (v := 0) dX11_things_49 (by decide) ?_
          refine wx_istore (ls' := [(0, .ref 0), (1, .int x1), (2, .int x2), (3, .int x3), (4, .ref (50 + 1 + (x1).toNatClampNeg)), (5, .int (0 : Int32))]) dX11_things_50 (by decide) rfl ?_
          exact hv Q hq
        · replace hv := hv.2 q
          refine wp_bipush (v := -12) dX11_things_38 (by decide) ?_
          obtain ⟨rfl, rfl⟩ := hv
          exact wp_ireturn dX11_things_40 rfl rfl rfl hq
      · replace hv := hv.2 q
        refine wp_iconst (v := 0) dX11_things_27 (by decide) ?_
        obtain ⟨rfl, rfl⟩ := hv
        exact wp_ireturn dX11_things_28 rfl rfl rfl hq
    · replace hv := hv.2 q
      refine wp_iconst (v := -1) dX11_things_17 (by decide) ?_
      obtain ⟨rfl, rfl⟩ := hv
      exact wp_ireturn dX11_things_18 rfl rfl rfl hq
theorem wX11_things_52 {x1 : Int32} {x2 : Int32} {x3 : Int32} {a4 : Nat} {N4 : Nat} {x5 : Int32} (hK : StK K) (hn4 : K a4 = some (arJ N4)) (hv : ((x3 ≤ x5 → (r = some (.int x5) ∧ V' = V)) ∧ (¬ x3 ≤ x5 → (∃ (v1 : Int32), Ev G d mX11_hasPlaces 0 [(0, .ref 0), (1, .int x1), (2, .int x2), (3, .int ((4 : Int32) * (x5 + (1 : Int32))))] (K, n, V, J, O) (some (.int v1)) (K, n, V, J, O) ∧ ((v1 = 0 → (r = some (.int x5) ∧ V' = V)) ∧ (¬ v1 = 0 → (vp_in (x2 + ((4 : Int32) * x5)) N4 ∧ (vp_in ((x2 + ((4 : Int32) * x5)) + (1 : Int32)) N4 ∧ (vp_in ((x2 + ((4 : Int32) * x5)) + (2 : Int32)) N4 ∧ (vp_in ((x2 + ((4 : Int32) * x5)) + (3 : Int32)) N4 ∧ (∃ (v7 : Int32) (V6 : SV), Ev G d mX11_put 0 [(0, .ref 0), (1, .int (J a4 ((x2 + ((4 : Int32) * x5))).toNatClampNeg).toInt32), (2, .int (J a4 (((x2 + ((4 : Int32) * x5)) + (1 : Int32))).toNatClampNeg).toInt32), (3, .int (J a4 (((x2 + ((4 : Int32) * x5)) + (2 : Int32))).toNatClampNeg).toInt32), (4, .int (J a4 (((x2 + ((4 : Int32) * x5)) + (3 : Int32))).toNatClampNeg).toInt32)] (K, n, V, J, O) (some (.int v7)) (K, n, V6, J, O) ∧ ((0 ≤ v7 → Ev G (d + 1) mX11_things 52 [(0, .ref 0), (1, .int x1), (2, .int x2), (3, .int x3), (4, .ref a4), (5, .int (x5 + 1))] (K, n, V6, J, O) r (K, n, V', J, O)) ∧ (¬ 0 ≤ v7 → (r = some (.int x5) ∧ V' = V6)))))))))))))) : Ev G (d + 1) mX11_things 52 [(0, .ref 0), (1, .int x1), (2, .int x2), (3, .int x3), (4, .ref a4), (5, .int x5)] (K, n, V, J, O) r (K, n, V', J, O) := by
  refine Ev.mk fun Q hq => ?_
  refine wp_iload dX11_things_52 rfl ?_
  refine wp_iload_n (i := 3) dX11_things_54 rfl rfl ?_
  refine wp_icmp_ge 127 dX11_things_55 (by decide) (fun q => ?_) (fun q => ?_)
  · replace hv := hv.1 q
    refine wp_iload dX11_things_127 rfl ?_
    obtain ⟨rfl, rfl⟩ := hv
    exact wp_ireturn dX11_things_129 rfl rfl rfl hq
  · replace hv := hv.2 q
    refine wp_aload_n (i := 0) dX11_things_58 rfl rfl ?_
    refine wp_iload_n (i := 1) dX11_things_59 rfl rfl ?_
    refine wp_iload_n (i := 2) dX11_things_60 rfl rfl ?_
    refine wp_iconst (v := 4) dX11_things_61 (by decide) ?_
    refine wp_iload dX11_things_62 rfl ?_
    refine wp_iconst (v := 1) dX11_things_64 (by decide) ?_
    refine wp_iadd dX11_things_65 ?_
    refine wp_imul dX11_things_66 ?_
    obtain ⟨v1, hE, hv⟩ := hv
    refine wz_callV (vs := [.int x1, .int x2, .int ((4 : Int32) * (x5 + (1 : Int32)))]) (st := []) dX11_things_67 (k0 hK) rfl k11_361_11 hE rfl (Nat.le_of_ble_eq_true rfl) (Nat.le_of_ble_eq_true rfl) ?_
    change wp _ _ _ _ _ [.int v1] _ _ _
    refine wp_if_eq 127 dX11_things_70 (by decide) (fun q => ?_) (fun q => ?_)
    · replace hv := hv.1 q
      refine wp_iload dX11_things_127 rfl ?_
      obtain ⟨rfl, rfl⟩ := hv
      exact wp_ireturn dX11_things_129 rfl rfl rfl hq
    · replace hv := hv.2 q
      refine wp_iload_n (i := 2) dX11_things_73 rfl rfl ?_
      refine wp_iconst (v := 4) dX11_things_74 (by decide) ?_
      refine wp_iload dX11_things_75 rfl ?_
      refine wp_imul dX11_things_77 ?_
      refine wp_iadd dX11_things_78 ?_
      refine wx_istore (ls' := [(0, .ref 0), (1, .int x1), (2, .int x2), (3, .int x3), (4, .ref a4), (5, .int x5), (6, .int (x2 + ((4 : Int32) * x5)))]) dX11_things_79 (by decide) rfl ?_
      refine wp_aload_n (i := 0) dX11_things_81 rfl rfl ?_
      refine wp_aload dX11_things_82 rfl ?_
      refine wp_iload dX11_things_84 rfl ?_
      obtain ⟨z2, hv⟩ := hv
      refine wz_laload dX11_things_86 hn4 z2 ?_
      refine wp_l2i dX11_things_87 ?_
      refine wp_aload dX11_things_88 rfl ?_
      refine wp_iload dX11_things_90 rfl ?_
      refine wp_iconst (v := 1) dX11_things_92 (by decide) ?_
      refine wp_iadd dX11_things_93 ?_
      obtain ⟨z3, hv⟩ := hv
      refine wz_laload dX11_things_94 hn4 z3 ?_
      refine wp_l2i dX11_things_95 ?_
      refine wp_aload dX11_things_96 rfl ?_
      refine wp_iload dX11_things_98 rfl ?_
      refine wp_iconst (v := 2) dX11_things_100 (by decide) ?_
      refine wp_iadd dX11_things_101 ?_
      obtain ⟨z4, hv⟩ := hv
      refine wz_laload dX11_things_102 hn4 z4 ?_
      refine wp_l2i dX11_things_103 ?_
      refine wp_aload dX11_things_104 rfl ?_
      refine wp_iload dX11_things_106 rfl ?_
      refine wp_iconst (v := 3) dX11_things_108 (by decide) ?_
      refine wp_iadd dX11_things_109 ?_
      obtain ⟨z5, hv⟩ := hv
      refine wz_laload dX11_things_110 hn4 z5 ?_
      refine wp_l2i dX11_things_111 ?_
      obtain ⟨v7, V6, hE, hv⟩ := hv
      refine wz_callV (vs := [.int (J a4 ((x2 + ((4 : Int32) * x5))).toNatClampNeg).toInt32, .int (J a4 (((x2 + ((4 : Int32) * x5)) + (1 : Int32))).toNatClampNeg).toInt32, .int (J a4 (((x2 + ((4 : Int32) * x5)) + (2 : Int32))).toNatClampNeg).toInt32, .int (J a4 (((x2 + ((4 : Int32) * x5)) + (3 : Int32))).toNatClampNeg).toInt32]) (st := []) dX11_things_112 (k0 hK) rfl k11_374_11 hE rfl (Nat.le_of_ble_eq_true rfl) (Nat.le_of_ble_eq_true rfl) ?_
      change wp _ _ _ _ _ [.int v7] _ _ _
      refine wp_if_ge 121 dX11_things_115 (by decide) (fun q => ?_) (fun q => ?_)
      · replace hv := hv.1 q
        refine wx_iinc (v := 1) (ls' := [(0, .ref 0), (1, .int x1), (2, .int x2), (3, .int x3), (4, .ref a4), (5, .int (x5 + 1)), (6, .int (x2 + ((4 : Int32) * x5)))]) dX11_things_121 rfl (by decide) (by decide) rfl ?_
        refine wp_goto 52 dX11_things_124 (by decide) ?_
        refine wx_sub (ls' := [(0, .ref 0), (1, .int x1), (2, .int x2), (3, .int x3), (4, .ref a4), (5, .int (x5 + 1))]) [0, 1, 2, 3, 4, 5] rfl ?_
        exact hv Q hq
      · replace hv := hv.2 q
        refine wp_goto 127 dX11_things_118 (by decide) ?_
        refine wp_iload dX11_things_127 rfl ?_
        obtain ⟨rfl, rfl⟩ := hv
        exact wp_ireturn dX11_things_129 rfl rfl rfl hq
theorem wX11_count_0 {x1 : Int32} (hK : StK K)  (hv : ((x1 = (0 : Int32) → r = some (.int (V 1 2))) ∧ (x1 = (1 : Int32) → (∃ (v1 : Int32), Ev G d mX8_countIn 0 [(0, .ref 1)] (K, n, V, J, O) (some (.int v1)) (K, n, V, J, O) ∧ r = some (.int v1))) ∧ (x1 = (2 : Int32) → r = some (.int (V 0 5))) ∧ (x1 = (3 : Int32) → r = some (.int (V 0 7))) ∧ (x1 = (4 : Int32) → r = some (.int (V 0 3))) ∧ (x1 = (5 : Int32) → r = some (.int (V 1 3))) ∧ (x1 = (6 : Int32) → (∃ (v2 : Int32), Ev G d mX11_bodiesRun 0 [(0, .ref 0)] (K, n, V, J, O) (some (.int v2)) (K, n, V, J, O) ∧ r = some (.int v2))) ∧ ((¬ x1 = (0 : Int32) ∧ ¬ x1 = (1 : Int32) ∧ ¬ x1 = (2 : Int32) ∧ ¬ x1 = (3 : Int32) ∧ ¬ x1 = (4 : Int32) ∧ ¬ x1 = (5 : Int32) ∧ ¬ x1 = (6 : Int32)) → r = some (.int (-1 : Int32))))) : Ev G (d + 1) mX11_count 0 [(0, .ref 0), (1, .int x1)] (K, n, V, J, O) r (K, n, V, J, O) := by
  refine Ev.mk fun Q hq => ?_
  refine wp_iload_n (i := 1) dX11_count_0 rfl rfl ?_
  by_cases q0 : x1 = (0 : Int32)
  · refine wx_tableIn (off := 43) (0 : Int32) q0 44 dX11_count_1 (by decide) (by decide) (by decide +kernel) (by decide) ?_
    replace hv := hv.1 q0
    refine wp_aload_n (i := 0) dX11_count_44 rfl rfl ?_
    refine wz_getR (b := 1) dX11_count_45 (k0 hK) (f11_10 _ (by decide)) rfl ?_
    refine wz_getI dX11_count_48 (k1 hK) (f11_83 _ (by decide)) rfl ?_
    obtain rfl := hv
    exact wp_ireturn dX11_count_51 rfl rfl rfl hq
  by_cases q1 : x1 = (1 : Int32)
  · refine wx_tableIn (off := 51) (1 : Int32) q1 52 dX11_count_1 (by decide) (by decide) (by decide +kernel) (by decide) ?_
    replace hv := hv.2.1 q1
    refine wp_aload_n (i := 0) dX11_count_52 rfl rfl ?_
    refine wz_getR (b := 1) dX11_count_53 (k0 hK) (f11_10 _ (by decide)) rfl ?_
    obtain ⟨v1, hE, hv⟩ := hv
    refine wz_callV (vs := []) (st := []) dX11_count_56 (k1 hK) rfl k11_377_8 hE rfl (Nat.le_of_ble_eq_true rfl) (Nat.le_of_ble_eq_true rfl) ?_
    change wp _ _ _ _ _ [.int v1] _ _ _
    obtain rfl := hv
    exact wp_ireturn dX11_count_59 rfl rfl rfl hq
  by_cases q2 : x1 = (2 : Int32)
  · refine wx_tableIn (off := 59) (2 : Int32) q2 60 dX11_count_1 (by decide) (by decide) (by decide +kernel) (by decide) ?_
    replace hv := hv.2.2.1 q2
    refine wp_aload_n (i := 0) dX11_count_60 rfl rfl ?_
    refine wz_getI dX11_count_61 (k0 hK) (f11_138 _ (by decide)) rfl ?_
    obtain rfl := hv
    exact wp_ireturn dX11_count_64 rfl rfl rfl hq
  by_cases q3 : x1 = (3 : Int32)
  · refine wx_tableIn (off := 64) (3 : Int32) q3 65 dX11_count_1 (by decide) (by decide) (by decide +kernel) (by decide) ?_
    replace hv := hv.2.2.2.1 q3
    refine wp_aload_n (i := 0) dX11_count_65 rfl rfl ?_
    refine wz_getI dX11_count_66 (k0 hK) (f11_91 _ (by decide)) rfl ?_
    obtain rfl := hv
    exact wp_ireturn dX11_count_69 rfl rfl rfl hq
  by_cases q4 : x1 = (4 : Int32)
  · refine wx_tableIn (off := 69) (4 : Int32) q4 70 dX11_count_1 (by decide) (by decide) (by decide +kernel) (by decide) ?_
    replace hv := hv.2.2.2.2.1 q4
    refine wp_aload_n (i := 0) dX11_count_70 rfl rfl ?_
    refine wz_getI dX11_count_71 (k0 hK) (f11_135 _ (by decide)) rfl ?_
    obtain rfl := hv
    exact wp_ireturn dX11_count_74 rfl rfl rfl hq
  by_cases q5 : x1 = (5 : Int32)
  · refine wx_tableIn (off := 74) (5 : Int32) q5 75 dX11_count_1 (by decide) (by decide) (by decide +kernel) (by decide) ?_
    replace hv := hv.2.2.2.2.2.1 q5
    refine wp_aload_n (i := 0) dX11_count_75 rfl rfl ?_
    refine wz_getR (b := 1) dX11_count_76 (k0 hK) (f11_10 _ (by decide)) rfl ?_
    refine wz_getI dX11_count_79 (k1 hK) (f11_309 _ (by decide)) rfl ?_
    obtain rfl := hv
    exact wp_ireturn dX11_count_82 rfl rfl rfl hq
  by_cases q6 : x1 = (6 : Int32)
  · refine wx_tableIn (off := 82) (6 : Int32) q6 83 dX11_count_1 (by decide) (by decide) (by decide +kernel) (by decide) ?_
    replace hv := hv.2.2.2.2.2.2.1 q6
    refine wp_aload_n (i := 0) dX11_count_83 rfl rfl ?_
    obtain ⟨v2, hE, hv⟩ := hv
    refine wz_callV (vs := []) (st := []) dX11_count_84 (k0 hK) rfl k11_380_11 hE rfl (Nat.le_of_ble_eq_true rfl) (Nat.le_of_ble_eq_true rfl) ?_
    change wp _ _ _ _ _ [.int v2] _ _ _
    obtain rfl := hv
    exact wp_ireturn dX11_count_87 rfl rfl rfl hq
  refine wp_tableOut 88 dX11_count_1 (by have n0 := lv_neT q0 (show ((0 : Int32)).toInt = 0 by decide); have n1 := lv_neT q1 (show ((1 : Int32)).toInt = 1 by decide); have n2 := lv_neT q2 (show ((2 : Int32)).toInt = 2 by decide); have n3 := lv_neT q3 (show ((3 : Int32)).toInt = 3 by decide); have n4 := lv_neT q4 (show ((4 : Int32)).toInt = 4 by decide); have n5 := lv_neT q5 (show ((5 : Int32)).toInt = 5 by decide); have n6 := lv_neT q6 (show ((6 : Int32)).toInt = 6 by decide); omega) (by decide) ?_
  replace hv := hv.2.2.2.2.2.2.2 ⟨q0, q1, q2, q3, q4, q5, q6⟩
  refine wp_iconst (v := -1) dX11_count_88 (by decide) ?_
  obtain rfl := hv
  exact wp_ireturn dX11_count_89 rfl rfl rfl hq
theorem wX11_refusalAt_0 {x1 : Int32} {x2 : Int32} (hK : StK K)  (hv : (∃ (v1 : Int32), Ev G d mX11_isShelf 0 [(0, .int x1)] (K, n, V, J, O) (some (.int v1)) (K, n, V, J, O) ∧ ((v1 ≠ 0 → (∃ (v2 : Int32), Ev G d mX11_holdsNothing 0 [(0, .ref 0), (1, .int x1)] (K, n, V, J, O) (some (.int v2)) (K, n, V, J, O) ∧ ((v2 = 0 → (vp_in x1 6 ∧ (((V 48 (x1).toNatClampNeg) ≠ (-1 : Int32) → (∃ (v4 : Int32), Ev G d mX11_hasPlaces 0 [(0, .ref 0), (1, .int x1), (2, .int x2), (3, .int (1 : Int32))] (K, n, V, J, O) (some (.int v4)) (K, n, V, J, O) ∧ ((v4 = 0 → r = some (.int (-13 : Int32))) ∧ (¬ v4 = 0 → r = some (.int (0 : Int32)))))) ∧ ((V 48 (x1).toNatClampNeg) = (-1 : Int32) → r = some (.int (-12 : Int32)))))) ∧ (¬ v2 = 0 → r = some (.int (-11 : Int32)))))) ∧ (v1 = 0 → r = some (.int (-1 : Int32)))))) : Ev G (d + 1) mX11_refusalAt 0 [(0, .ref 0), (1, .int x1), (2, .int x2)] (K, n, V, J, O) r (K, n, V, J, O) := by
  refine Ev.mk fun Q hq => ?_
  refine wp_iload_n (i := 1) dX11_refusalAt_0 rfl rfl ?_
  obtain ⟨v1, hE, hv⟩ := hv
  refine wz_callS (vs := [.int x1]) (st := []) dX11_refusalAt_1 k11_343 hE rfl (Nat.le_of_ble_eq_true rfl) (Nat.le_of_ble_eq_true rfl) ?_
  change wp _ _ _ _ _ [.int v1] _ _ _
  refine wp_if_ne 9 dX11_refusalAt_4 (by decide) (fun q => ?_) (fun q => ?_)
  · replace hv := hv.1 q
    refine wp_aload_n (i := 0) dX11_refusalAt_9 rfl rfl ?_
    refine wp_iload_n (i := 1) dX11_refusalAt_10 rfl rfl ?_
    obtain ⟨v2, hE, hv⟩ := hv
    refine wz_callV (vs := [.int x1]) (st := []) dX11_refusalAt_11 (k0 hK) rfl k11_358_11 hE rfl (Nat.le_of_ble_eq_true rfl) (Nat.le_of_ble_eq_true rfl) ?_
    change wp _ _ _ _ _ [.int v2] _ _ _
    refine wp_if_eq 20 dX11_refusalAt_14 (by decide) (fun q => ?_) (fun q => ?_)
    · replace hv := hv.1 q
      refine wp_aload_n (i := 0) dX11_refusalAt_20 rfl rfl ?_
      refine wz_getR (b := 48) dX11_refusalAt_21 (k0 hK) (f11_58 _ (by decide)) rfl ?_
      refine wp_iload_n (i := 1) dX11_refusalAt_24 rfl rfl ?_
      obtain ⟨z3, hv⟩ := hv
      refine wz_iaload dX11_refusalAt_25 (k48 hK) z3 ?_
      refine wp_iconst (v := -1) dX11_refusalAt_26 (by decide) ?_
      refine wp_icmp_ne 33 dX11_refusalAt_27 (by decide) (fun q => ?_) (fun q => ?_)
      · replace hv := hv.1 q
        refine wp_aload_n (i := 0) dX11_refusalAt_33 rfl rfl ?_
        refine wp_iload_n (i := 1) dX11_refusalAt_34 rfl rfl ?_
        refine wp_iload_n (i := 2) dX11_refusalAt_35 rfl rfl ?_
        refine wp_iconst (v := 1) dX11_refusalAt_36 (by decide) ?_
        obtain ⟨v4, hE, hv⟩ := hv
        refine wz_callV (vs := [.int x1, .int x2, .int (1 : Int32)]) (st := []) dX11_refusalAt_37 (k0 hK) rfl k11_361_11 hE rfl (Nat.le_of_ble_eq_true rfl) (Nat.le_of_ble_eq_true rfl) ?_
        change wp _ _ _ _ _ [.int v4] _ _ _
        refine wp_if_eq 47 dX11_refusalAt_40 (by decide) (fun q => ?_) (fun q => ?_)
        · replace hv := hv.1 q
          refine wp_bipush (v := -13) dX11_refusalAt_47 (by decide) ?_
          obtain rfl := hv
          exact wp_ireturn dX11_refusalAt_49 rfl rfl rfl hq
        · replace hv := hv.2 q
          refine wp_iconst (v := 0) dX11_refusalAt_43 (by decide) ?_
          refine wp_goto 49 dX11_refusalAt_44 (by decide) ?_
          obtain rfl := hv
          exact wp_ireturn dX11_refusalAt_49 rfl rfl rfl hq
      · replace hv := hv.2 q
        refine wp_bipush (v := -12) dX11_refusalAt_30 (by decide) ?_
        obtain rfl := hv
        exact wp_ireturn dX11_refusalAt_32 rfl rfl rfl hq
    · replace hv := hv.2 q
      refine wp_bipush (v := -11) dX11_refusalAt_17 (by decide) ?_
      obtain rfl := hv
      exact wp_ireturn dX11_refusalAt_19 rfl rfl rfl hq
  · replace hv := hv.2 q
    refine wp_iconst (v := -1) dX11_refusalAt_7 (by decide) ?_
    obtain rfl := hv
    exact wp_ireturn dX11_refusalAt_8 rfl rfl rfl hq
theorem wX11_holdsNothing_0 {x1 : Int32} (hK : StK K)  (hv : (vp_in x1 6 ∧ ((O 47 (x1).toNatClampNeg = none ∧ (vp_in x1 6 ∧ (((V 48 (x1).toNatClampNeg) ≠ (-1 : Int32) → r = some (.int (0 : Int32))) ∧ ((V 48 (x1).toNatClampNeg) = (-1 : Int32) → r = some (.int (1 : Int32)))))) ∨ ∃ (b2 c3 y4 : Nat), O 47 (x1).toNatClampNeg = some b2 ∧ IsSt K b2 c3 y4 ∧ c3 ∈ [1, 2, 3, 4, 5, 6, 7, 10] ∧ r = some (.int (0 : Int32))))) : Ev G d mX11_holdsNothing 0 [(0, .ref 0), (1, .int x1)] (K, n, V, J, O) r (K, n, V, J, O) := by
  refine Ev.mk fun Q hq => ?_
  refine wp_aload_n (i := 0) dX11_holdsNothing_0 rfl rfl ?_
  refine wz_getR (b := 47) dX11_holdsNothing_1 (k0 hK) (f11_55 _ (by decide)) rfl ?_
  refine wp_iload_n (i := 1) dX11_holdsNothing_4 rfl rfl ?_
  obtain ⟨z1, ⟨o0, hv⟩ | ⟨b2, c3, y4, o0, h5, z6, hv⟩⟩ := hv
  · refine wz_aaloadN dX11_holdsNothing_5 (k47 hK) (by decide) z1 o0 ?_
    refine wp_ifnonnullN dX11_holdsNothing_6 ?_
    refine wp_aload_n (i := 0) dX11_holdsNothing_9 rfl rfl ?_
    refine wz_getR (b := 48) dX11_holdsNothing_10 (k0 hK) (f11_58 _ (by decide)) rfl ?_
    refine wp_iload_n (i := 1) dX11_holdsNothing_13 rfl rfl ?_
    obtain ⟨z7, hv⟩ := hv
    refine wz_iaload dX11_holdsNothing_14 (k48 hK) z7 ?_
    refine wp_iconst (v := -1) dX11_holdsNothing_15 (by decide) ?_
    refine wp_icmp_ne 23 dX11_holdsNothing_16 (by decide) (fun q => ?_) (fun q => ?_)
    · replace hv := hv.1 q
      refine wp_iconst (v := 0) dX11_holdsNothing_23 (by decide) ?_
      obtain rfl := hv
      exact wp_ireturn dX11_holdsNothing_24 rfl (by decide) rfl hq
    · replace hv := hv.2 q
      refine wp_iconst (v := 1) dX11_holdsNothing_19 (by decide) ?_
      refine wp_goto 24 dX11_holdsNothing_20 (by decide) ?_
      obtain rfl := hv
      exact wp_ireturn dX11_holdsNothing_24 rfl (by decide) rfl hq
  · refine wz_aaloadR dX11_holdsNothing_5 (k47 hK) (by decide) z1 o0 ?_
    refine wp_ifnonnullR 23 dX11_holdsNothing_6 (by decide) ?_
    refine wp_iconst (v := 0) dX11_holdsNothing_23 (by decide) ?_
    obtain rfl := hv
    exact wp_ireturn dX11_holdsNothing_24 rfl (by decide) rfl hq
theorem wX11_hasPlaces_0 {x1 : Int32} {x2 : Int32} {x3 : Int32} (hK : StK K)  (hv : ((x2 < 0 → r = some (.int (0 : Int32))) ∧ (¬ x2 < 0 → ((x3 < 0 → r = some (.int (0 : Int32))) ∧ (¬ x3 < 0 → (vp_in x1 6 ∧ (((V 49 (x1).toNatClampNeg) < x3 → r = some (.int (0 : Int32))) ∧ (¬ (V 49 (x1).toNatClampNeg) < x3 → (vp_in x1 6 ∧ ((((V 49 (x1).toNatClampNeg) - x3) < x2 → r = some (.int (0 : Int32))) ∧ (¬ ((V 49 (x1).toNatClampNeg) - x3) < x2 → r = some (.int (1 : Int32))))))))))))) : Ev G d mX11_hasPlaces 0 [(0, .ref 0), (1, .int x1), (2, .int x2), (3, .int x3)] (K, n, V, J, O) r (K, n, V, J, O) := by
  refine Ev.mk fun Q hq => ?_
  refine wp_iload_n (i := 2) dX11_hasPlaces_0 rfl rfl ?_
  refine wp_if_lt 34 dX11_hasPlaces_1 (by decide) (fun q => ?_) (fun q => ?_)
  · replace hv := hv.1 q
    refine wp_iconst (v := 0) dX11_hasPlaces_34 (by decide) ?_
    obtain rfl := hv
    exact wp_ireturn dX11_hasPlaces_35 rfl (by decide) rfl hq
  · replace hv := hv.2 q
    refine wp_iload_n (i := 3) dX11_hasPlaces_4 rfl rfl ?_
    refine wp_if_lt 34 dX11_hasPlaces_5 (by decide) (fun q => ?_) (fun q => ?_)
    · replace hv := hv.1 q
      refine wp_iconst (v := 0) dX11_hasPlaces_34 (by decide) ?_
      obtain rfl := hv
      exact wp_ireturn dX11_hasPlaces_35 rfl (by decide) rfl hq
    · replace hv := hv.2 q
      refine wp_iload_n (i := 3) dX11_hasPlaces_8 rfl rfl ?_
      refine wp_aload_n (i := 0) dX11_hasPlaces_9 rfl rfl ?_
      refine wz_getR (b := 49) dX11_hasPlaces_10 (k0 hK) (f11_61 _ (by decide)) rfl ?_
      refine wp_iload_n (i := 1) dX11_hasPlaces_13 rfl rfl ?_
      obtain ⟨z1, hv⟩ := hv
      refine wz_iaload dX11_hasPlaces_14 (k49 hK) z1 ?_
      refine wp_icmp_gt 34 dX11_hasPlaces_15 (by decide) (fun q => ?_) (fun q => ?_)
      · replace hv := hv.1 q
        refine wp_iconst (v := 0) dX11_hasPlaces_34 (by decide) ?_
        obtain rfl := hv
        exact wp_ireturn dX11_hasPlaces_35 rfl (by decide) rfl hq
      · replace hv := hv.2 q
        refine wp_iload_n (i := 2) dX11_hasPlaces_18 rfl rfl ?_
        refine wp_aload_n (i := 0) dX11_hasPlaces_19 rfl rfl ?_
        refine wz_getR (b := 49) dX11_hasPlaces_20 (k0 hK) (f11_61 _ (by decide)) rfl ?_
        refine wp_iload_n (i := 1) dX11_hasPlaces_23 rfl rfl ?_
        obtain ⟨z2, hv⟩ := hv
        refine wz_iaload dX11_hasPlaces_24 (k49 hK) z2 ?_
        refine wp_iload_n (i := 3) dX11_hasPlaces_25 rfl rfl ?_
        refine wp_isub dX11_hasPlaces_26 ?_
        refine wp_icmp_gt 34 dX11_hasPlaces_27 (by decide) (fun q => ?_) (fun q => ?_)
        · replace hv := hv.1 q
          refine wp_iconst (v := 0) dX11_hasPlaces_34 (by decide) ?_
          obtain rfl := hv
          exact wp_ireturn dX11_hasPlaces_35 rfl (by decide) rfl hq
        · replace hv := hv.2 q
          refine wp_iconst (v := 1) dX11_hasPlaces_30 (by decide) ?_
          refine wp_goto 35 dX11_hasPlaces_31 (by decide) ?_
          obtain rfl := hv
          exact wp_ireturn dX11_hasPlaces_35 rfl (by decide) rfl hq
theorem wX11_cut_0 {x0 : Int32} {l1 : Int64} (hK : StK K)  (hv : ((x0 = (0 : Int32) → r = some (.long ((l1.toInt32).toInt8.toInt32).toInt64)) ∧ (x0 = (1 : Int32) → r = some (.long ((l1.toInt32).toInt16.toInt32).toInt64)) ∧ (x0 = (2 : Int32) → r = some (.long (l1.toInt32).toInt64)) ∧ (x0 = (3 : Int32) → r = some (.long l1)) ∧ ((¬ x0 = (0 : Int32) ∧ ¬ x0 = (1 : Int32) ∧ ¬ x0 = (2 : Int32) ∧ ¬ x0 = (3 : Int32)) → (((lg_cmp l1 (0 : Int64)) = 0 → r = some (.long (0 : Int64))) ∧ (¬ (lg_cmp l1 (0 : Int64)) = 0 → r = some (.long (1 : Int64))))))) : Ev G d mX11_cut 0 [(0, .int x0), (1, .long l1)] (K, n, V, J, O) r (K, n, V, J, O) := by
  refine Ev.mk fun Q hq => ?_
  refine wp_iload_n (i := 0) dX11_cut_0 rfl rfl ?_
  by_cases q0 : x0 = (0 : Int32)
  · refine wx_tableIn (off := 31) (0 : Int32) q0 32 dX11_cut_1 (by decide) (by decide) (by decide +kernel) (by decide) ?_
    replace hv := hv.1 q0
    refine wp_lload_n (i := 1) dX11_cut_32 rfl rfl ?_
    refine wp_l2i dX11_cut_33 ?_
    refine wp_i2b dX11_cut_34 ?_
    refine wp_i2l dX11_cut_35 ?_
    obtain rfl := hv
    exact wp_lreturn dX11_cut_36 rfl rfl hq
  by_cases q1 : x0 = (1 : Int32)
  · refine wx_tableIn (off := 36) (1 : Int32) q1 37 dX11_cut_1 (by decide) (by decide) (by decide +kernel) (by decide) ?_
    replace hv := hv.2.1 q1
    refine wp_lload_n (i := 1) dX11_cut_37 rfl rfl ?_
    refine wp_l2i dX11_cut_38 ?_
    refine wp_i2s dX11_cut_39 ?_
    refine wp_i2l dX11_cut_40 ?_
    obtain rfl := hv
    exact wp_lreturn dX11_cut_41 rfl rfl hq
  by_cases q2 : x0 = (2 : Int32)
  · refine wx_tableIn (off := 41) (2 : Int32) q2 42 dX11_cut_1 (by decide) (by decide) (by decide +kernel) (by decide) ?_
    replace hv := hv.2.2.1 q2
    refine wp_lload_n (i := 1) dX11_cut_42 rfl rfl ?_
    refine wp_l2i dX11_cut_43 ?_
    refine wp_i2l dX11_cut_44 ?_
    obtain rfl := hv
    exact wp_lreturn dX11_cut_45 rfl rfl hq
  by_cases q3 : x0 = (3 : Int32)
  · refine wx_tableIn (off := 45) (3 : Int32) q3 46 dX11_cut_1 (by decide) (by decide) (by decide +kernel) (by decide) ?_
    replace hv := hv.2.2.2.1 q3
    refine wp_lload_n (i := 1) dX11_cut_46 rfl rfl ?_
    obtain rfl := hv
    exact wp_lreturn dX11_cut_47 rfl rfl hq
  refine wp_tableOut 48 dX11_cut_1 (by have n0 := lv_neT q0 (show ((0 : Int32)).toInt = 0 by decide); have n1 := lv_neT q1 (show ((1 : Int32)).toInt = 1 by decide); have n2 := lv_neT q2 (show ((2 : Int32)).toInt = 2 by decide); have n3 := lv_neT q3 (show ((3 : Int32)).toInt = 3 by decide); omega) (by decide) ?_
  replace hv := hv.2.2.2.2 ⟨q0, q1, q2, q3⟩
  refine wp_lload_n (i := 1) dX11_cut_48 rfl rfl ?_
  refine wp_lconst (v := 0) dX11_cut_49 (by decide) ?_
  refine wp_lcmp dX11_cut_50 ?_
  refine wp_if_eq 58 dX11_cut_51 (by decide) (fun q => ?_) (fun q => ?_)
  · replace hv := hv.1 q
    refine wp_lconst (v := 0) dX11_cut_58 (by decide) ?_
    obtain rfl := hv
    exact wp_lreturn dX11_cut_59 rfl rfl hq
  · replace hv := hv.2 q
    refine wp_lconst (v := 1) dX11_cut_54 (by decide) ?_
    refine wp_goto 59 dX11_cut_55 (by decide) ?_
    obtain rfl := hv
    exact wp_lreturn dX11_cut_59 rfl rfl hq
theorem wX11_isOfKind_0 {a0 : Nat} {ci0 ky0 : Nat} {x1 : Int32} (hK : StK K) (ha0 : IsSt K a0 ci0 ky0) (hc0 : ci0 ∈ [1, 2, 3, 4, 5, 6, 7, 10]) (hv : ((x1 = (0 : Int32) → r = some (.int (1 : Int32))) ∧ (x1 = (1 : Int32) → ((ci0 ∈ [2, 3, 4, 6] ∧ r = some (.int (1 : Int32))) ∨ (ci0 ∈ [1, 5, 7, 10] ∧ r = some (.int (0 : Int32))))) ∧ (x1 = (2 : Int32) → ((ci0 ∈ [4, 6] ∧ r = some (.int (1 : Int32))) ∨ (ci0 ∈ [1, 2, 3, 5, 7, 10] ∧ r = some (.int (0 : Int32))))) ∧ (x1 = (3 : Int32) → ((ci0 ∈ [2] ∧ r = some (.int (1 : Int32))) ∨ (ci0 ∈ [1, 3, 4, 5, 6, 7, 10] ∧ r = some (.int (0 : Int32))))) ∧ (x1 = (4 : Int32) → ((ci0 ∈ [1, 7] ∧ r = some (.int (1 : Int32))) ∨ (ci0 ∈ [2, 3, 4, 5, 6, 10] ∧ r = some (.int (0 : Int32))))) ∧ (x1 = (5 : Int32) → ((ci0 ∈ [10] ∧ r = some (.int (1 : Int32))) ∨ (ci0 ∈ [1, 2, 3, 4, 5, 6, 7] ∧ r = some (.int (0 : Int32))))) ∧ (x1 = (6 : Int32) → ((ci0 ∈ [1] ∧ r = some (.int (1 : Int32))) ∨ (ci0 ∈ [2, 3, 4, 5, 6, 7, 10] ∧ r = some (.int (0 : Int32))))) ∧ ((¬ x1 = (0 : Int32) ∧ ¬ x1 = (1 : Int32) ∧ ¬ x1 = (2 : Int32) ∧ ¬ x1 = (3 : Int32) ∧ ¬ x1 = (4 : Int32) ∧ ¬ x1 = (5 : Int32) ∧ ¬ x1 = (6 : Int32)) → ((ci0 ∈ [6] ∧ r = some (.int (1 : Int32))) ∨ (ci0 ∈ [1, 2, 3, 4, 5, 7, 10] ∧ r = some (.int (0 : Int32))))))) : Ev G d mX11_isOfKind 0 [(0, .ref a0), (1, .int x1)] (K, n, V, J, O) r (K, n, V, J, O) := by
  refine Ev.mk fun Q hq => ?_
  refine wp_iload_n (i := 1) dX11_isOfKind_0 rfl rfl ?_
  by_cases q0 : x1 = (0 : Int32)
  · refine wx_tableIn (off := 43) (0 : Int32) q0 44 dX11_isOfKind_1 (by decide) (by decide) (by decide +kernel) (by decide) ?_
    replace hv := hv.1 q0
    refine wp_iconst (v := 1) dX11_isOfKind_44 (by decide) ?_
    obtain rfl := hv
    exact wp_ireturn dX11_isOfKind_45 rfl (by decide) rfl hq
  by_cases q1 : x1 = (1 : Int32)
  · refine wx_tableIn (off := 45) (1 : Int32) q1 46 dX11_isOfKind_1 (by decide) (by decide) (by decide +kernel) (by decide) ?_
    replace hv := hv.2.1 q1
    refine wp_aload_n (i := 0) dX11_isOfKind_46 rfl rfl ?_
    obtain ⟨z, hv⟩ | ⟨z, hv⟩ := hv
    · refine iy11_172 dX11_isOfKind_47 (cz_obj (st_0 ha0)) z ?_
      obtain rfl := hv
      exact wp_ireturn dX11_isOfKind_50 rfl (by decide) rfl hq
    · refine io11_172 dX11_isOfKind_47 (cz_obj (st_0 ha0)) z ?_
      obtain rfl := hv
      exact wp_ireturn dX11_isOfKind_50 rfl (by decide) rfl hq
  by_cases q2 : x1 = (2 : Int32)
  · refine wx_tableIn (off := 50) (2 : Int32) q2 51 dX11_isOfKind_1 (by decide) (by decide) (by decide +kernel) (by decide) ?_
    replace hv := hv.2.2.1 q2
    refine wp_aload_n (i := 0) dX11_isOfKind_51 rfl rfl ?_
    obtain ⟨z, hv⟩ | ⟨z, hv⟩ := hv
    · refine iy11_177 dX11_isOfKind_52 (cz_obj (st_0 ha0)) z ?_
      obtain rfl := hv
      exact wp_ireturn dX11_isOfKind_55 rfl (by decide) rfl hq
    · refine io11_177 dX11_isOfKind_52 (cz_obj (st_0 ha0)) z ?_
      obtain rfl := hv
      exact wp_ireturn dX11_isOfKind_55 rfl (by decide) rfl hq
  by_cases q3 : x1 = (3 : Int32)
  · refine wx_tableIn (off := 55) (3 : Int32) q3 56 dX11_isOfKind_1 (by decide) (by decide) (by decide +kernel) (by decide) ?_
    replace hv := hv.2.2.2.1 q3
    refine wp_aload_n (i := 0) dX11_isOfKind_56 rfl rfl ?_
    obtain ⟨z, hv⟩ | ⟨z, hv⟩ := hv
    · refine iy11_180 dX11_isOfKind_57 (cz_obj (st_0 ha0)) z ?_
      obtain rfl := hv
      exact wp_ireturn dX11_isOfKind_60 rfl (by decide) rfl hq
    · refine io11_180 dX11_isOfKind_57 (cz_obj (st_0 ha0)) z ?_
      obtain rfl := hv
      exact wp_ireturn dX11_isOfKind_60 rfl (by decide) rfl hq
  by_cases q4 : x1 = (4 : Int32)
  · refine wx_tableIn (off := 60) (4 : Int32) q4 61 dX11_isOfKind_1 (by decide) (by decide) (by decide +kernel) (by decide) ?_
    replace hv := hv.2.2.2.2.1 q4
    refine wp_aload_n (i := 0) dX11_isOfKind_61 rfl rfl ?_
    obtain ⟨z, hv⟩ | ⟨z, hv⟩ := hv
    · refine iy11_183 dX11_isOfKind_62 (cz_obj (st_0 ha0)) z ?_
      obtain rfl := hv
      exact wp_ireturn dX11_isOfKind_65 rfl (by decide) rfl hq
    · refine io11_183 dX11_isOfKind_62 (cz_obj (st_0 ha0)) z ?_
      obtain rfl := hv
      exact wp_ireturn dX11_isOfKind_65 rfl (by decide) rfl hq
  by_cases q5 : x1 = (5 : Int32)
  · refine wx_tableIn (off := 65) (5 : Int32) q5 66 dX11_isOfKind_1 (by decide) (by decide) (by decide +kernel) (by decide) ?_
    replace hv := hv.2.2.2.2.2.1 q5
    refine wp_aload_n (i := 0) dX11_isOfKind_66 rfl rfl ?_
    obtain ⟨z, hv⟩ | ⟨z, hv⟩ := hv
    · refine iy11_188 dX11_isOfKind_67 (cz_obj (st_0 ha0)) z ?_
      obtain rfl := hv
      exact wp_ireturn dX11_isOfKind_70 rfl (by decide) rfl hq
    · refine io11_188 dX11_isOfKind_67 (cz_obj (st_0 ha0)) z ?_
      obtain rfl := hv
      exact wp_ireturn dX11_isOfKind_70 rfl (by decide) rfl hq
  by_cases q6 : x1 = (6 : Int32)
  · refine wx_tableIn (off := 70) (6 : Int32) q6 71 dX11_isOfKind_1 (by decide) (by decide) (by decide +kernel) (by decide) ?_
    replace hv := hv.2.2.2.2.2.2.1 q6
    refine wp_aload_n (i := 0) dX11_isOfKind_71 rfl rfl ?_
    obtain ⟨z, hv⟩ | ⟨z, hv⟩ := hv
    · refine iy11_191 dX11_isOfKind_72 (cz_obj (st_0 ha0)) z ?_
      obtain rfl := hv
      exact wp_ireturn dX11_isOfKind_75 rfl (by decide) rfl hq
    · refine io11_191 dX11_isOfKind_72 (cz_obj (st_0 ha0)) z ?_
      obtain rfl := hv
      exact wp_ireturn dX11_isOfKind_75 rfl (by decide) rfl hq
  refine wp_tableOut 76 dX11_isOfKind_1 (by have n0 := lv_neT q0 (show ((0 : Int32)).toInt = 0 by decide); have n1 := lv_neT q1 (show ((1 : Int32)).toInt = 1 by decide); have n2 := lv_neT q2 (show ((2 : Int32)).toInt = 2 by decide); have n3 := lv_neT q3 (show ((3 : Int32)).toInt = 3 by decide); have n4 := lv_neT q4 (show ((4 : Int32)).toInt = 4 by decide); have n5 := lv_neT q5 (show ((5 : Int32)).toInt = 5 by decide); have n6 := lv_neT q6 (show ((6 : Int32)).toInt = 6 by decide); omega) (by decide) ?_
  replace hv := hv.2.2.2.2.2.2.2 ⟨q0, q1, q2, q3, q4, q5, q6⟩
  refine wp_aload_n (i := 0) dX11_isOfKind_76 rfl rfl ?_
  obtain ⟨z, hv⟩ | ⟨z, hv⟩ := hv
  · refine iy11_194 dX11_isOfKind_77 (cz_obj (st_0 ha0)) z ?_
    obtain rfl := hv
    exact wp_ireturn dX11_isOfKind_80 rfl (by decide) rfl hq
  · refine io11_194 dX11_isOfKind_77 (cz_obj (st_0 ha0)) z ?_
    obtain rfl := hv
    exact wp_ireturn dX11_isOfKind_80 rfl (by decide) rfl hq
theorem wX11_askAt_0 {x1 : Int32} (hK : StK K)  (hv : (∃ (v1 : Int32), Ev G d mX11_isWithin 0 [(0, .int x1), (1, .int (0 : Int32)), (2, .int ((V 0 5) - (1 : Int32)))] (K, n, V, J, O) (some (.int v1)) (K, n, V, J, O) ∧ ((v1 = 0 → r = some (.null)) ∧ (¬ v1 = 0 → (vp_in x1 10 ∧ ∃ b3 : Nat, O 32 (x1).toNatClampNeg = some b3 ∧ IsAk K b3 ∧ r = some (.ref b3)))))) : Ev G (d + 1) mX11_askAt 0 [(0, .ref 0), (1, .int x1)] (K, n, V, J, O) r (K, n, V, J, O) := by
  refine Ev.mk fun Q hq => ?_
  refine wp_iload_n (i := 1) dX11_askAt_0 rfl rfl ?_
  refine wp_iconst (v := 0) dX11_askAt_1 (by decide) ?_
  refine wp_aload_n (i := 0) dX11_askAt_2 rfl rfl ?_
  refine wz_getI dX11_askAt_3 (k0 hK) (f11_138 _ (by decide)) rfl ?_
  refine wp_iconst (v := 1) dX11_askAt_6 (by decide) ?_
  refine wp_isub dX11_askAt_7 ?_
  obtain ⟨v1, hE, hv⟩ := hv
  refine wz_callS (vs := [.int x1, .int (0 : Int32), .int ((V 0 5) - (1 : Int32))]) (st := []) dX11_askAt_8 k11_110 hE rfl (Nat.le_of_ble_eq_true rfl) (Nat.le_of_ble_eq_true rfl) ?_
  change wp _ _ _ _ _ [.int v1] _ _ _
  refine wp_if_eq 23 dX11_askAt_11 (by decide) (fun q => ?_) (fun q => ?_)
  · replace hv := hv.1 q
    refine wp_null dX11_askAt_23 ?_
    obtain rfl := hv
    exact wp_areturnN dX11_askAt_24 rfl (Or.inl ⟨_, rfl⟩) rfl hq
  · replace hv := hv.2 q
    refine wp_aload_n (i := 0) dX11_askAt_14 rfl rfl ?_
    refine wz_getR (b := 32) dX11_askAt_15 (k0 hK) (f11_29 _ (by decide)) rfl ?_
    refine wp_iload_n (i := 1) dX11_askAt_18 rfl rfl ?_
    obtain ⟨z2, b3, o0, q4, hv⟩ := hv
    refine wz_aaloadR dX11_askAt_19 (k32 hK) (by decide) z2 o0 ?_
    refine wp_goto 24 dX11_askAt_20 (by decide) ?_
    obtain rfl := hv
    exact wp_areturn dX11_askAt_24 rfl (Or.inl ⟨_, rfl⟩) rfl hq
theorem wX11_stoneAt_0 {x1 : Int32} (hK : StK K)  (hv : (∃ (v1 : Int32), Ev G d mX11_isWithin 0 [(0, .int x1), (1, .int (0 : Int32)), (2, .int ((V 0 7) - (1 : Int32)))] (K, n, V, J, O) (some (.int v1)) (K, n, V, J, O) ∧ ((v1 = 0 → r = some (.null)) ∧ (¬ v1 = 0 → (vp_in x1 10 ∧ ∃ (b3 c4 y5 : Nat), O 33 (x1).toNatClampNeg = some b3 ∧ IsSt K b3 c4 y5 ∧ c4 ∈ [1, 2, 3, 4, 5, 6, 7, 10] ∧ r = some (.ref b3)))))) : Ev G (d + 1) mX11_stoneAt 0 [(0, .ref 0), (1, .int x1)] (K, n, V, J, O) r (K, n, V, J, O) := by
  refine Ev.mk fun Q hq => ?_
  refine wp_iload_n (i := 1) dX11_stoneAt_0 rfl rfl ?_
  refine wp_iconst (v := 0) dX11_stoneAt_1 (by decide) ?_
  refine wp_aload_n (i := 0) dX11_stoneAt_2 rfl rfl ?_
  refine wz_getI dX11_stoneAt_3 (k0 hK) (f11_91 _ (by decide)) rfl ?_
  refine wp_iconst (v := 1) dX11_stoneAt_6 (by decide) ?_
  refine wp_isub dX11_stoneAt_7 ?_
  obtain ⟨v1, hE, hv⟩ := hv
  refine wz_callS (vs := [.int x1, .int (0 : Int32), .int ((V 0 7) - (1 : Int32))]) (st := []) dX11_stoneAt_8 k11_110 hE rfl (Nat.le_of_ble_eq_true rfl) (Nat.le_of_ble_eq_true rfl) ?_
  change wp _ _ _ _ _ [.int v1] _ _ _
  refine wp_if_eq 23 dX11_stoneAt_11 (by decide) (fun q => ?_) (fun q => ?_)
  · replace hv := hv.1 q
    refine wp_null dX11_stoneAt_23 ?_
    obtain rfl := hv
    exact wp_areturnN dX11_stoneAt_24 rfl (Or.inl ⟨_, rfl⟩) rfl hq
  · replace hv := hv.2 q
    refine wp_aload_n (i := 0) dX11_stoneAt_14 rfl rfl ?_
    refine wz_getR (b := 33) dX11_stoneAt_15 (k0 hK) (f11_40 _ (by decide)) rfl ?_
    refine wp_iload_n (i := 1) dX11_stoneAt_18 rfl rfl ?_
    obtain ⟨z2, b3, c4, y5, o0, h6, z7, hv⟩ := hv
    refine wz_aaloadR dX11_stoneAt_19 (k33 hK) (by decide) z2 o0 ?_
    refine wp_goto 24 dX11_stoneAt_20 (by decide) ?_
    obtain rfl := hv
    exact wp_areturn dX11_stoneAt_24 rfl (Or.inl ⟨_, rfl⟩) rfl hq
theorem wX11_isPlan_0 {x1 : Int32} (hK : StK K)  (hv : (∃ (v1 : Int32), Ev G d mX11_isWithin 0 [(0, .int x1), (1, .int (0 : Int32)), (2, .int (((1 : Int32) <<< ((V 0 7) &&& 31)) - (1 : Int32)))] (K, n, V, J, O) (some (.int v1)) (K, n, V, J, O) ∧ ((v1 = 0 ∨ v1 = 1) ∧ r = some (.int v1)))) : Ev G (d + 1) mX11_isPlan 0 [(0, .ref 0), (1, .int x1)] (K, n, V, J, O) r (K, n, V, J, O) := by
  refine Ev.mk fun Q hq => ?_
  refine wp_iload_n (i := 1) dX11_isPlan_0 rfl rfl ?_
  refine wp_iconst (v := 0) dX11_isPlan_1 (by decide) ?_
  refine wp_iconst (v := 1) dX11_isPlan_2 (by decide) ?_
  refine wp_aload_n (i := 0) dX11_isPlan_3 rfl rfl ?_
  refine wz_getI dX11_isPlan_4 (k0 hK) (f11_91 _ (by decide)) rfl ?_
  refine wp_ishl dX11_isPlan_7 ?_
  refine wp_iconst (v := 1) dX11_isPlan_8 (by decide) ?_
  refine wp_isub dX11_isPlan_9 ?_
  obtain ⟨v1, hE, hv⟩ := hv
  refine wz_callS (vs := [.int x1, .int (0 : Int32), .int (((1 : Int32) <<< ((V 0 7) &&& 31)) - (1 : Int32))]) (st := []) dX11_isPlan_10 k11_110 hE rfl (Nat.le_of_ble_eq_true rfl) (Nat.le_of_ble_eq_true rfl) ?_
  change wp _ _ _ _ _ [.int v1] _ _ _
  obtain ⟨z, hv⟩ := hv
  obtain rfl := hv
  exact wp_ireturn dX11_isPlan_13 rfl (by rcases z with z | z <;> rw [z] <;> decide) rfl hq
theorem wX11_isShelf_0 {x0 : Int32} (hK : StK K)  (hv : (∃ (v1 : Int32), Ev G d mX11_isWithin 0 [(0, .int x0), (1, .int (0 : Int32)), (2, .int (5 : Int32))] (K, n, V, J, O) (some (.int v1)) (K, n, V, J, O) ∧ ((v1 = 0 ∨ v1 = 1) ∧ r = some (.int v1)))) : Ev G (d + 1) mX11_isShelf 0 [(0, .int x0)] (K, n, V, J, O) r (K, n, V, J, O) := by
  refine Ev.mk fun Q hq => ?_
  refine wp_iload_n (i := 0) dX11_isShelf_0 rfl rfl ?_
  refine wp_iconst (v := 0) dX11_isShelf_1 (by decide) ?_
  refine wp_iconst (v := 5) dX11_isShelf_2 (by decide) ?_
  obtain ⟨v1, hE, hv⟩ := hv
  refine wz_callS (vs := [.int x0, .int (0 : Int32), .int (5 : Int32)]) (st := []) dX11_isShelf_3 k11_110 hE rfl (Nat.le_of_ble_eq_true rfl) (Nat.le_of_ble_eq_true rfl) ?_
  change wp _ _ _ _ _ [.int v1] _ _ _
  obtain ⟨z, hv⟩ := hv
  obtain rfl := hv
  exact wp_ireturn dX11_isShelf_6 rfl (by rcases z with z | z <;> rw [z] <;> decide) rfl hq
theorem wX11_isSize_0 {x0 : Int32} (hK : StK K)  (hv : (∃ (v1 : Int32), Ev G d mX11_isWithin 0 [(0, .int x0), (1, .int (1 : Int32)), (2, .int (999 : Int32))] (K, n, V, J, O) (some (.int v1)) (K, n, V, J, O) ∧ ((v1 = 0 ∨ v1 = 1) ∧ r = some (.int v1)))) : Ev G (d + 1) mX11_isSize 0 [(0, .int x0)] (K, n, V, J, O) r (K, n, V, J, O) := by
  refine Ev.mk fun Q hq => ?_
  refine wp_iload_n (i := 0) dX11_isSize_0 rfl rfl ?_
  refine wp_iconst (v := 1) dX11_isSize_1 (by decide) ?_
  refine wp_sipush (v := 999) dX11_isSize_2 (by decide) ?_
  obtain ⟨v1, hE, hv⟩ := hv
  refine wz_callS (vs := [.int x0, .int (1 : Int32), .int (999 : Int32)]) (st := []) dX11_isSize_5 k11_110 hE rfl (Nat.le_of_ble_eq_true rfl) (Nat.le_of_ble_eq_true rfl) ?_
  change wp _ _ _ _ _ [.int v1] _ _ _
  obtain ⟨z, hv⟩ := hv
  obtain rfl := hv
  exact wp_ireturn dX11_isSize_8 rfl (by rcases z with z | z <;> rw [z] <;> decide) rfl hq
theorem wX11_isField_0 {x0 : Int32} (hK : StK K)  (hv : (∃ (v1 : Int32), Ev G d mX11_isWithin 0 [(0, .int x0), (1, .int (0 : Int32)), (2, .int (3 : Int32))] (K, n, V, J, O) (some (.int v1)) (K, n, V, J, O) ∧ ((v1 = 0 ∨ v1 = 1) ∧ r = some (.int v1)))) : Ev G (d + 1) mX11_isField 0 [(0, .int x0)] (K, n, V, J, O) r (K, n, V, J, O) := by
  refine Ev.mk fun Q hq => ?_
  refine wp_iload_n (i := 0) dX11_isField_0 rfl rfl ?_
  refine wp_iconst (v := 0) dX11_isField_1 (by decide) ?_
  refine wp_iconst (v := 3) dX11_isField_2 (by decide) ?_
  obtain ⟨v1, hE, hv⟩ := hv
  refine wz_callS (vs := [.int x0, .int (0 : Int32), .int (3 : Int32)]) (st := []) dX11_isField_3 k11_110 hE rfl (Nat.le_of_ble_eq_true rfl) (Nat.le_of_ble_eq_true rfl) ?_
  change wp _ _ _ _ _ [.int v1] _ _ _
  obtain ⟨z, hv⟩ := hv
  obtain rfl := hv
  exact wp_ireturn dX11_isField_6 rfl (by rcases z with z | z <;> rw [z] <;> decide) rfl hq
theorem wX11_isValue_0 {x0 : Int32} (hK : StK K)  (hv : (∃ (v1 : Int32), Ev G d mX11_isWithin 0 [(0, .int x0), (1, .int (0 : Int32)), (2, .int (99 : Int32))] (K, n, V, J, O) (some (.int v1)) (K, n, V, J, O) ∧ ((v1 = 0 ∨ v1 = 1) ∧ r = some (.int v1)))) : Ev G (d + 1) mX11_isValue 0 [(0, .int x0)] (K, n, V, J, O) r (K, n, V, J, O) := by
  refine Ev.mk fun Q hq => ?_
  refine wp_iload_n (i := 0) dX11_isValue_0 rfl rfl ?_
  refine wp_iconst (v := 0) dX11_isValue_1 (by decide) ?_
  refine wp_bipush (v := 99) dX11_isValue_2 (by decide) ?_
  obtain ⟨v1, hE, hv⟩ := hv
  refine wz_callS (vs := [.int x0, .int (0 : Int32), .int (99 : Int32)]) (st := []) dX11_isValue_4 k11_110 hE rfl (Nat.le_of_ble_eq_true rfl) (Nat.le_of_ble_eq_true rfl) ?_
  change wp _ _ _ _ _ [.int v1] _ _ _
  obtain ⟨z, hv⟩ := hv
  obtain rfl := hv
  exact wp_ireturn dX11_isValue_7 rfl (by rcases z with z | z <;> rw [z] <;> decide) rfl hq
theorem wX11_isWithin_0 {x0 : Int32} {x1 : Int32} {x2 : Int32} (hK : StK K)  (hv : ((x0 < x1 → r = some (.int (0 : Int32))) ∧ (¬ x0 < x1 → ((x2 < x0 → r = some (.int (0 : Int32))) ∧ (¬ x2 < x0 → r = some (.int (1 : Int32))))))) : Ev G d mX11_isWithin 0 [(0, .int x0), (1, .int x1), (2, .int x2)] (K, n, V, J, O) r (K, n, V, J, O) := by
  refine Ev.mk fun Q hq => ?_
  refine wp_iload_n (i := 0) dX11_isWithin_0 rfl rfl ?_
  refine wp_iload_n (i := 1) dX11_isWithin_1 rfl rfl ?_
  refine wp_icmp_lt 14 dX11_isWithin_2 (by decide) (fun q => ?_) (fun q => ?_)
  · replace hv := hv.1 q
    refine wp_iconst (v := 0) dX11_isWithin_14 (by decide) ?_
    obtain rfl := hv
    exact wp_ireturn dX11_isWithin_15 rfl (by decide) rfl hq
  · replace hv := hv.2 q
    refine wp_iload_n (i := 0) dX11_isWithin_5 rfl rfl ?_
    refine wp_iload_n (i := 2) dX11_isWithin_6 rfl rfl ?_
    refine wp_icmp_gt 14 dX11_isWithin_7 (by decide) (fun q => ?_) (fun q => ?_)
    · replace hv := hv.1 q
      refine wp_iconst (v := 0) dX11_isWithin_14 (by decide) ?_
      obtain rfl := hv
      exact wp_ireturn dX11_isWithin_15 rfl (by decide) rfl hq
    · replace hv := hv.2 q
      refine wp_iconst (v := 1) dX11_isWithin_10 (by decide) ?_
      refine wp_goto 15 dX11_isWithin_11 (by decide) ?_
      obtain rfl := hv
      exact wp_ireturn dX11_isWithin_15 rfl (by decide) rfl hq
end
