section
variable {G : Gp} {d : Nat} {K : SK} {n : Nat × Nat} {V V' : SV} {J J' : SJV} {O O' : SO} {r : Option Value}
theorem wX12_within_0 {l0 : Int64} {l2 : Int64} {l4 : Int64} (hK : StK K)  (hv : (((lg_cmp l0 l2) < 0 → r = some (.int (0 : Int32))) ∧ (¬ (lg_cmp l0 l2) < 0 → ((0 < (lg_cmp l0 l4) → r = some (.int (0 : Int32))) ∧ (¬ 0 < (lg_cmp l0 l4) → r = some (.int (1 : Int32))))))) : Ev G d mX12_within 0 [(0, .long l0), (2, .long l2), (4, .long l4)] (K, n, V, J, O) r (K, n, V, J, O) := by
  refine Ev.mk fun Q hq => ?_
  refine wp_lload_n (i := 0) dX12_within_0 rfl rfl ?_
  refine wp_lload_n (i := 2) dX12_within_1 rfl rfl ?_
  refine wp_lcmp dX12_within_2 ?_
  refine wp_if_lt 17 dX12_within_3 (by decide) (fun q => ?_) (fun q => ?_)
  · replace hv := hv.1 q
    refine wp_iconst (v := 0) dX12_within_17 (by decide) ?_
    obtain rfl := hv
    exact wp_ireturn dX12_within_18 rfl (by decide) rfl hq
  · replace hv := hv.2 q
    refine wp_lload_n (i := 0) dX12_within_6 rfl rfl ?_
    refine wp_lload dX12_within_7 rfl ?_
    refine wp_lcmp dX12_within_9 ?_
    refine wp_if_gt 17 dX12_within_10 (by decide) (fun q => ?_) (fun q => ?_)
    · replace hv := hv.1 q
      refine wp_iconst (v := 0) dX12_within_17 (by decide) ?_
      obtain rfl := hv
      exact wp_ireturn dX12_within_18 rfl (by decide) rfl hq
    · replace hv := hv.2 q
      refine wp_iconst (v := 1) dX12_within_13 (by decide) ?_
      refine wp_goto 18 dX12_within_14 (by decide) ?_
      obtain rfl := hv
      exact wp_ireturn dX12_within_18 rfl (by decide) rfl hq
theorem wX12_isThing_0 {x1 : Int32} (hK : StK K)  (hv : ((x1 < 0 → r = some (.int (0 : Int32))) ∧ (¬ x1 < 0 → (((V 57 2) ≤ x1 → r = some (.int (0 : Int32))) ∧ (¬ (V 57 2) ≤ x1 → r = some (.int (1 : Int32))))))) : Ev G d mX12_isThing 0 [(0, .ref 57), (1, .int x1)] (K, n, V, J, O) r (K, n, V, J, O) := by
  refine Ev.mk fun Q hq => ?_
  refine wp_iload_n (i := 1) dX12_isThing_0 rfl rfl ?_
  refine wp_if_lt 16 dX12_isThing_1 (by decide) (fun q => ?_) (fun q => ?_)
  · replace hv := hv.1 q
    refine wp_iconst (v := 0) dX12_isThing_16 (by decide) ?_
    obtain rfl := hv
    exact wp_ireturn dX12_isThing_17 rfl (by decide) rfl hq
  · replace hv := hv.2 q
    refine wp_iload_n (i := 1) dX12_isThing_4 rfl rfl ?_
    refine wp_aload_n (i := 0) dX12_isThing_5 rfl rfl ?_
    refine wz_getI dX12_isThing_6 (k57 hK) (f12_130 _ (by decide)) rfl ?_
    refine wp_icmp_ge 16 dX12_isThing_9 (by decide) (fun q => ?_) (fun q => ?_)
    · replace hv := hv.1 q
      refine wp_iconst (v := 0) dX12_isThing_16 (by decide) ?_
      obtain rfl := hv
      exact wp_ireturn dX12_isThing_17 rfl (by decide) rfl hq
    · replace hv := hv.2 q
      refine wp_iconst (v := 1) dX12_isThing_12 (by decide) ?_
      refine wp_goto 17 dX12_isThing_13 (by decide) ?_
      obtain rfl := hv
      exact wp_ireturn dX12_isThing_17 rfl (by decide) rfl hq
theorem wX12_isField_0 {x0 : Int32} (hK : StK K)  (hv : (∃ (v1 : Int32), Ev G d mX12_within 0 [(0, .long x0.toInt64), (2, .long (0 : Int64)), (4, .long (3 : Int64))] (K, n, V, J, O) (some (.int v1)) (K, n, V, J, O) ∧ ((v1 = 0 ∨ v1 = 1) ∧ r = some (.int v1)))) : Ev G (d + 1) mX12_isField 0 [(0, .int x0)] (K, n, V, J, O) r (K, n, V, J, O) := by
  refine Ev.mk fun Q hq => ?_
  refine wp_iload_n (i := 0) dX12_isField_0 rfl rfl ?_
  refine wp_i2l dX12_isField_1 ?_
  refine wp_lconst (v := 0) dX12_isField_2 (by decide) ?_
  refine wp_ldc2 (v := 3) dX12_isField_3 q12_133 ?_
  obtain ⟨v1, hE, hv⟩ := hv
  refine wz_callS (vs := [.long x0.toInt64, .long (0 : Int64), .long (3 : Int64)]) (st := []) dX12_isField_6 k12_135 hE rfl (Nat.le_of_ble_eq_true rfl) (Nat.le_of_ble_eq_true rfl) ?_
  change wp _ _ _ _ _ [.int v1] _ _ _
  obtain ⟨z, hv⟩ := hv
  obtain rfl := hv
  exact wp_ireturn dX12_isField_9 rfl (by rcases z with z | z <;> rw [z] <;> decide) rfl hq
theorem wX12_isValue_0 {x0 : Int32} (hK : StK K)  (hv : (∃ (v1 : Int32), Ev G d mX12_within 0 [(0, .long x0.toInt64), (2, .long (0 : Int64)), (4, .long (99 : Int64))] (K, n, V, J, O) (some (.int v1)) (K, n, V, J, O) ∧ ((v1 = 0 ∨ v1 = 1) ∧ r = some (.int v1)))) : Ev G (d + 1) mX12_isValue 0 [(0, .int x0)] (K, n, V, J, O) r (K, n, V, J, O) := by
  refine Ev.mk fun Q hq => ?_
  refine wp_iload_n (i := 0) dX12_isValue_0 rfl rfl ?_
  refine wp_i2l dX12_isValue_1 ?_
  refine wp_lconst (v := 0) dX12_isValue_2 (by decide) ?_
  refine wp_ldc2 (v := 99) dX12_isValue_3 q12_139 ?_
  obtain ⟨v1, hE, hv⟩ := hv
  refine wz_callS (vs := [.long x0.toInt64, .long (0 : Int64), .long (99 : Int64)]) (st := []) dX12_isValue_6 k12_135 hE rfl (Nat.le_of_ble_eq_true rfl) (Nat.le_of_ble_eq_true rfl) ?_
  change wp _ _ _ _ _ [.int v1] _ _ _
  obtain ⟨z, hv⟩ := hv
  obtain rfl := hv
  exact wp_ireturn dX12_isValue_9 rfl (by rcases z with z | z <;> rw [z] <;> decide) rfl hq
theorem wX12_sumOf_0 {x1 : Int32} (hK : StK K)  (hv : Ev G d mX12_sumOf 4 [(0, .ref 57), (1, .int x1), (2, .int (0 : Int32)), (3, .int (0 : Int32))] (K, n, V, J, O) r (K, n, V, J, O)) : Ev G d mX12_sumOf 0 [(0, .ref 57), (1, .int x1)] (K, n, V, J, O) r (K, n, V, J, O) := by
  refine Ev.mk fun Q hq => ?_
  refine wp_iconst (v := 0) dX12_sumOf_0 (by decide) ?_
  refine wx_istore_n (ls' := [(0, .ref 57), (1, .int x1), (2, .int (0 : Int32))]) (i := 2) dX12_sumOf_1 rfl (by decide) rfl ?_
  refine wp_iconst (v := 0) dX12_sumOf_2 (by decide) ?_
  refine wx_istore_n (ls' := [(0, .ref 57), (1, .int x1), (2, .int (0 : Int32)), (3, .int (0 : Int32))]) (i := 3) dX12_sumOf_3 rfl (by decide) rfl ?_
  exact hv Q hq
theorem wX12_sumOf_4 {x1 : Int32} {x2 : Int32} {x3 : Int32} (hK : StK K)  (hv : (((V 57 2) ≤ x3 → r = some (.int x2)) ∧ (¬ (V 57 2) ≤ x3 → (vp_in x3 80 ∧ (((V 59 (x3).toNatClampNeg) = 0 → Ev G d mX12_sumOf 4 [(0, .ref 57), (1, .int x1), (2, .int (x2 + (0 : Int32))), (3, .int (x3 + 1))] (K, n, V, J, O) r (K, n, V, J, O)) ∧ (¬ (V 59 (x3).toNatClampNeg) = 0 → (vp_in (((4 : Int32) * x3) + x1) 320 ∧ Ev G d mX12_sumOf 4 [(0, .ref 57), (1, .int x1), (2, .int (x2 + (V 58 ((((4 : Int32) * x3) + x1)).toNatClampNeg))), (3, .int (x3 + 1))] (K, n, V, J, O) r (K, n, V, J, O)))))))) : Ev G d mX12_sumOf 4 [(0, .ref 57), (1, .int x1), (2, .int x2), (3, .int x3)] (K, n, V, J, O) r (K, n, V, J, O) := by
  refine Ev.mk fun Q hq => ?_
  refine wp_iload_n (i := 3) dX12_sumOf_4 rfl rfl ?_
  refine wp_aload_n (i := 0) dX12_sumOf_5 rfl rfl ?_
  refine wz_getI dX12_sumOf_6 (k57 hK) (f12_130 _ (by decide)) rfl ?_
  refine wp_icmp_ge 44 dX12_sumOf_9 (by decide) (fun q => ?_) (fun q => ?_)
  · replace hv := hv.1 q
    refine wp_iload_n (i := 2) dX12_sumOf_44 rfl rfl ?_
    obtain rfl := hv
    exact wp_ireturn dX12_sumOf_45 rfl rfl rfl hq
  · replace hv := hv.2 q
    refine wp_iload_n (i := 2) dX12_sumOf_12 rfl rfl ?_
    refine wp_aload_n (i := 0) dX12_sumOf_13 rfl rfl ?_
    refine wz_getR (b := 59) dX12_sumOf_14 (k57 hK) (f12_13 _ (by decide)) rfl ?_
    refine wp_iload_n (i := 3) dX12_sumOf_17 rfl rfl ?_
    obtain ⟨z1, hv⟩ := hv
    refine wz_baload dX12_sumOf_18 (k59 hK) z1 ?_
    refine wp_if_eq 35 dX12_sumOf_19 (by decide) (fun q => ?_) (fun q => ?_)
    · replace hv := hv.1 q
      refine wp_iconst (v := 0) dX12_sumOf_35 (by decide) ?_
      refine wp_iadd dX12_sumOf_36 ?_
      refine wx_istore_n (ls' := [(0, .ref 57), (1, .int x1), (2, .int (x2 + (0 : Int32))), (3, .int x3)]) (i := 2) dX12_sumOf_37 rfl (by decide) rfl ?_
      refine wx_iinc (v := 1) (ls' := [(0, .ref 57), (1, .int x1), (2, .int (x2 + (0 : Int32))), (3, .int (x3 + 1))]) dX12_sumOf_38 rfl (by decide) (by decide) rfl ?_
      refine wp_goto 4 dX12_sumOf_41 (by decide) ?_
      exact hv Q hq
    · replace hv := hv.2 q
      refine wp_aload_n (i := 0) dX12_sumOf_22 rfl rfl ?_
      refine wz_getR (b := 58) dX12_sumOf_23 (k57 hK) (f12_9 _ (by decide)) rfl ?_
      refine wp_iconst (v := 4) dX12_sumOf_26 (by decide) ?_
      refine wp_iload_n (i := 3) dX12_sumOf_27 rfl rfl ?_
      refine wp_imul dX12_sumOf_28 ?_
      refine wp_iload_n (i := 1) dX12_sumOf_29 rfl rfl ?_
      refine wp_iadd dX12_sumOf_30 ?_
      obtain ⟨z2, hv⟩ := hv
      refine wz_iaload dX12_sumOf_31 (k58 hK) z2 ?_
      refine wp_goto 36 dX12_sumOf_32 (by decide) ?_
      refine wp_iadd dX12_sumOf_36 ?_
      refine wx_istore_n (ls' := [(0, .ref 57), (1, .int x1), (2, .int (x2 + (V 58 ((((4 : Int32) * x3) + x1)).toNatClampNeg))), (3, .int x3)]) (i := 2) dX12_sumOf_37 rfl (by decide) rfl ?_
      refine wx_iinc (v := 1) (ls' := [(0, .ref 57), (1, .int x1), (2, .int (x2 + (V 58 ((((4 : Int32) * x3) + x1)).toNatClampNeg))), (3, .int (x3 + 1))]) dX12_sumOf_38 rfl (by decide) (by decide) rfl ?_
      refine wp_goto 4 dX12_sumOf_41 (by decide) ?_
      exact hv Q hq
theorem wX12_breaks_0 {x1 : Int32} {x2 : Int32} (hK : StK K)  (hv : Ev G (d + 1) mX12_breaks 5 [(0, .ref 57), (1, .int x1), (2, .int x2), (3, .int (0 : Int32)), (4, .int (0 : Int32))] (K, n, V, J, O) r (K, n, V, J, O)) : Ev G (d + 1) mX12_breaks 0 [(0, .ref 57), (1, .int x1), (2, .int x2)] (K, n, V, J, O) r (K, n, V, J, O) := by
  refine Ev.mk fun Q hq => ?_
  refine wp_iconst (v := 0) dX12_breaks_0 (by decide) ?_
  refine wx_istore_n (ls' := [(0, .ref 57), (1, .int x1), (2, .int x2), (3, .int (0 : Int32))]) (i := 3) dX12_breaks_1 rfl (by decide) rfl ?_
  refine wp_iconst (v := 0) dX12_breaks_2 (by decide) ?_
  refine wx_istore (ls' := [(0, .ref 57), (1, .int x1), (2, .int x2), (3, .int (0 : Int32)), (4, .int (0 : Int32))]) dX12_breaks_3 (by decide) rfl ?_
  exact hv Q hq
theorem wX12_breaks_5 {x1 : Int32} {x2 : Int32} {x3 : Int32} {x4 : Int32} (hK : StK K)  (hv : (((V 57 2) ≤ x4 → (vp_in x1 4 ∧ (((V 60 (x1).toNatClampNeg) = 0 → (vp_in x1 4 ∧ (((V 61 (x1).toNatClampNeg) < 0 → r = some (.int (0 : Int32))) ∧ (¬ (V 61 (x1).toNatClampNeg) < 0 → (∃ (v3 : Int32), Ev G d mX12_sumOf 0 [(0, .ref 57), (1, .int x1)] (K, n, V, J, O) (some (.int v3)) (K, n, V, J, O) ∧ (vp_in x1 4 ∧ (((v3 + x2) ≤ (V 61 (x1).toNatClampNeg) → r = some (.int (0 : Int32))) ∧ (¬ (v3 + x2) ≤ (V 61 (x1).toNatClampNeg) → r = some (.int (1 : Int32)))))))))) ∧ (¬ (V 60 (x1).toNatClampNeg) = 0 → ((x3 ≠ 0 → r = some (.int (1 : Int32))) ∧ (x3 = 0 → (vp_in x1 4 ∧ (((V 61 (x1).toNatClampNeg) < 0 → r = some (.int (0 : Int32))) ∧ (¬ (V 61 (x1).toNatClampNeg) < 0 → (∃ (v6 : Int32), Ev G d mX12_sumOf 0 [(0, .ref 57), (1, .int x1)] (K, n, V, J, O) (some (.int v6)) (K, n, V, J, O) ∧ (vp_in x1 4 ∧ (((v6 + x2) ≤ (V 61 (x1).toNatClampNeg) → r = some (.int (0 : Int32))) ∧ (¬ (v6 + x2) ≤ (V 61 (x1).toNatClampNeg) → r = some (.int (1 : Int32))))))))))))))) ∧ (¬ (V 57 2) ≤ x4 → ((x3 ≠ 0 → Ev G (d + 1) mX12_breaks 5 [(0, .ref 57), (1, .int x1), (2, .int x2), (3, .int (1 : Int32)), (4, .int (x4 + 1))] (K, n, V, J, O) r (K, n, V, J, O)) ∧ (x3 = 0 → (vp_in x4 80 ∧ (((V 59 (x4).toNatClampNeg) = 0 → Ev G (d + 1) mX12_breaks 5 [(0, .ref 57), (1, .int x1), (2, .int x2), (3, .int (0 : Int32)), (4, .int (x4 + 1))] (K, n, V, J, O) r (K, n, V, J, O)) ∧ (¬ (V 59 (x4).toNatClampNeg) = 0 → (vp_in (((4 : Int32) * x4) + x1) 320 ∧ (((V 58 ((((4 : Int32) * x4) + x1)).toNatClampNeg) ≠ x2 → Ev G (d + 1) mX12_breaks 5 [(0, .ref 57), (1, .int x1), (2, .int x2), (3, .int (0 : Int32)), (4, .int (x4 + 1))] (K, n, V, J, O) r (K, n, V, J, O)) ∧ ((V 58 ((((4 : Int32) * x4) + x1)).toNatClampNeg) = x2 → Ev G (d + 1) mX12_breaks 5 [(0, .ref 57), (1, .int x1), (2, .int x2), (3, .int (1 : Int32)), (4, .int (x4 + 1))] (K, n, V, J, O) r (K, n, V, J, O)))))))))))) : Ev G (d + 1) mX12_breaks 5 [(0, .ref 57), (1, .int x1), (2, .int x2), (3, .int x3), (4, .int x4)] (K, n, V, J, O) r (K, n, V, J, O) := by
  refine Ev.mk fun Q hq => ?_
  refine wp_iload dX12_breaks_5 rfl ?_
  refine wp_aload_n (i := 0) dX12_breaks_7 rfl rfl ?_
  refine wz_getI dX12_breaks_8 (k57 hK) (f12_130 _ (by decide)) rfl ?_
  refine wp_icmp_ge 55 dX12_breaks_11 (by decide) (fun q => ?_) (fun q => ?_)
  · replace hv := hv.1 q
    refine wp_aload_n (i := 0) dX12_breaks_55 rfl rfl ?_
    refine wz_getR (b := 60) dX12_breaks_56 (k57 hK) (f12_17 _ (by decide)) rfl ?_
    refine wp_iload_n (i := 1) dX12_breaks_59 rfl rfl ?_
    obtain ⟨z1, hv⟩ := hv
    refine wz_baload dX12_breaks_60 (k60 hK) z1 ?_
    refine wp_if_eq 68 dX12_breaks_61 (by decide) (fun q => ?_) (fun q => ?_)
    · replace hv := hv.1 q
      refine wp_aload_n (i := 0) dX12_breaks_68 rfl rfl ?_
      refine wz_getR (b := 61) dX12_breaks_69 (k57 hK) (f12_20 _ (by decide)) rfl ?_
      refine wp_iload_n (i := 1) dX12_breaks_72 rfl rfl ?_
      obtain ⟨z2, hv⟩ := hv
      refine wz_iaload dX12_breaks_73 (k61 hK) z2 ?_
      refine wp_if_lt 97 dX12_breaks_74 (by decide) (fun q => ?_) (fun q => ?_)
      · replace hv := hv.1 q
        refine wp_iconst (v := 0) dX12_breaks_97 (by decide) ?_
        obtain rfl := hv
        exact wp_ireturn dX12_breaks_98 rfl (by decide) rfl hq
      · replace hv := hv.2 q
        refine wp_aload_n (i := 0) dX12_breaks_77 rfl rfl ?_
        refine wp_iload_n (i := 1) dX12_breaks_78 rfl rfl ?_
        obtain ⟨v3, hE, hv⟩ := hv
        refine wz_callV (vs := [.int x1]) (st := []) dX12_breaks_79 (k57 hK) rfl k12_141_12 hE rfl (Nat.le_of_ble_eq_true rfl) (Nat.le_of_ble_eq_true rfl) ?_
        change wp _ _ _ _ _ [.int v3] _ _ _
        refine wp_iload_n (i := 2) dX12_breaks_82 rfl rfl ?_
        refine wp_iadd dX12_breaks_83 ?_
        refine wp_aload_n (i := 0) dX12_breaks_84 rfl rfl ?_
        refine wz_getR (b := 61) dX12_breaks_85 (k57 hK) (f12_20 _ (by decide)) rfl ?_
        refine wp_iload_n (i := 1) dX12_breaks_88 rfl rfl ?_
        obtain ⟨z4, hv⟩ := hv
        refine wz_iaload dX12_breaks_89 (k61 hK) z4 ?_
        refine wp_icmp_le 97 dX12_breaks_90 (by decide) (fun q => ?_) (fun q => ?_)
        · replace hv := hv.1 q
          refine wp_iconst (v := 0) dX12_breaks_97 (by decide) ?_
          obtain rfl := hv
          exact wp_ireturn dX12_breaks_98 rfl (by decide) rfl hq
        · replace hv := hv.2 q
          refine wp_iconst (v := 1) dX12_breaks_93 (by decide) ?_
          refine wp_goto 98 dX12_breaks_94 (by decide) ?_
          obtain rfl := hv
          exact wp_ireturn dX12_breaks_98 rfl (by decide) rfl hq
    · replace hv := hv.2 q
      refine wp_iload_n (i := 3) dX12_breaks_64 rfl rfl ?_
      refine wp_if_ne 93 dX12_breaks_65 (by decide) (fun q => ?_) (fun q => ?_)
      · replace hv := hv.1 q
        refine wp_iconst (v := 1) dX12_breaks_93 (by decide) ?_
        refine wp_goto 98 dX12_breaks_94 (by decide) ?_
        obtain rfl := hv
        exact wp_ireturn dX12_breaks_98 rfl (by decide) rfl hq
      · replace hv := hv.2 q
        refine wp_aload_n (i := 0) dX12_breaks_68 rfl rfl ?_
        refine wz_getR (b := 61) dX12_breaks_69 (k57 hK) (f12_20 _ (by decide)) rfl ?_
        refine wp_iload_n (i := 1) dX12_breaks_72 rfl rfl ?_
        obtain ⟨z5, hv⟩ := hv
        refine wz_iaload dX12_breaks_73 (k61 hK) z5 ?_
        refine wp_if_lt 97 dX12_breaks_74 (by decide) (fun q => ?_) (fun q => ?_)
        · replace hv := hv.1 q
          refine wp_iconst (v := 0) dX12_breaks_97 (by decide) ?_
          obtain rfl := hv
          exact wp_ireturn dX12_breaks_98 rfl (by decide) rfl hq
        · replace hv := hv.2 q
          refine wp_aload_n (i := 0) dX12_breaks_77 rfl rfl ?_
          refine wp_iload_n (i := 1) dX12_breaks_78 rfl rfl ?_
          obtain ⟨v6, hE, hv⟩ := hv
          refine wz_callV (vs := [.int x1]) (st := []) dX12_breaks_79 (k57 hK) rfl k12_141_12 hE rfl (Nat.le_of_ble_eq_true rfl) (Nat.le_of_ble_eq_true rfl) ?_
          change wp _ _ _ _ _ [.int v6] _ _ _
          refine wp_iload_n (i := 2) dX12_breaks_82 rfl rfl ?_
          refine wp_iadd dX12_breaks_83 ?_
          refine wp_aload_n (i := 0) dX12_breaks_84 rfl rfl ?_
          refine wz_getR (b := 61) dX12_breaks_85 (k57 hK) (f12_20 _ (by decide)) rfl ?_
          refine wp_iload_n (i := 1) dX12_breaks_88 rfl rfl ?_
          obtain ⟨z7, hv⟩ := hv
          refine wz_iaload dX12_breaks_89 (k61 hK) z7 ?_
          refine wp_icmp_le 97 dX12_breaks_90 (by decide) (fun q => ?_) (fun q => ?_)
          · replace hv := hv.1 q
            refine wp_iconst (v := 0) dX12_breaks_97 (by decide) ?_
            obtain rfl := hv
            exact wp_ireturn dX12_breaks_98 rfl (by decide) rfl hq
          · replace hv := hv.2 q
            refine wp_iconst (v := 1) dX12_breaks_93 (by decide) ?_
            refine wp_goto 98 dX12_breaks_94 (by decide) ?_
            obtain rfl := hv
            exact wp_ireturn dX12_breaks_98 rfl (by decide) rfl hq
  · replace hv := hv.2 q
    refine wp_iload_n (i := 3) dX12_breaks_14 rfl rfl ?_
    refine wp_if_ne 43 dX12_breaks_15 (by decide) (fun q => ?_) (fun q => ?_)
    · replace hv := hv.1 q
      refine wp_iconst (v := 1) dX12_breaks_43 (by decide) ?_
      refine wp_goto 48 dX12_breaks_44 (by decide) ?_
      refine wx_istore_n (ls' := [(0, .ref 57), (1, .int x1), (2, .int x2), (3, .int (1 : Int32)), (4, .int x4)]) (i := 3) dX12_breaks_48 rfl (by decide) rfl ?_
      refine wx_iinc (v := 1) (ls' := [(0, .ref 57), (1, .int x1), (2, .int x2), (3, .int (1 : Int32)), (4, .int (x4 + 1))]) dX12_breaks_49 rfl (by decide) (by decide) rfl ?_
      refine wp_goto 5 dX12_breaks_52 (by decide) ?_
      exact hv Q hq
    · replace hv := hv.2 q
      refine wp_aload_n (i := 0) dX12_breaks_18 rfl rfl ?_
      refine wz_getR (b := 59) dX12_breaks_19 (k57 hK) (f12_13 _ (by decide)) rfl ?_
      refine wp_iload dX12_breaks_22 rfl ?_
      obtain ⟨z8, hv⟩ := hv
      refine wz_baload dX12_breaks_24 (k59 hK) z8 ?_
      refine wp_if_eq 47 dX12_breaks_25 (by decide) (fun q => ?_) (fun q => ?_)
      · replace hv := hv.1 q
        refine wp_iconst (v := 0) dX12_breaks_47 (by decide) ?_
        refine wx_istore_n (ls' := [(0, .ref 57), (1, .int x1), (2, .int x2), (3, .int (0 : Int32)), (4, .int x4)]) (i := 3) dX12_breaks_48 rfl (by decide) rfl ?_
        refine wx_iinc (v := 1) (ls' := [(0, .ref 57), (1, .int x1), (2, .int x2), (3, .int (0 : Int32)), (4, .int (x4 + 1))]) dX12_breaks_49 rfl (by decide) (by decide) rfl ?_
        refine wp_goto 5 dX12_breaks_52 (by decide) ?_
        exact hv Q hq
      · replace hv := hv.2 q
        refine wp_aload_n (i := 0) dX12_breaks_28 rfl rfl ?_
        refine wz_getR (b := 58) dX12_breaks_29 (k57 hK) (f12_9 _ (by decide)) rfl ?_
        refine wp_iconst (v := 4) dX12_breaks_32 (by decide) ?_
        refine wp_iload dX12_breaks_33 rfl ?_
        refine wp_imul dX12_breaks_35 ?_
        refine wp_iload_n (i := 1) dX12_breaks_36 rfl rfl ?_
        refine wp_iadd dX12_breaks_37 ?_
        obtain ⟨z9, hv⟩ := hv
        refine wz_iaload dX12_breaks_38 (k58 hK) z9 ?_
        refine wp_iload_n (i := 2) dX12_breaks_39 rfl rfl ?_
        refine wp_icmp_ne 47 dX12_breaks_40 (by decide) (fun q => ?_) (fun q => ?_)
        · replace hv := hv.1 q
          refine wp_iconst (v := 0) dX12_breaks_47 (by decide) ?_
          refine wx_istore_n (ls' := [(0, .ref 57), (1, .int x1), (2, .int x2), (3, .int (0 : Int32)), (4, .int x4)]) (i := 3) dX12_breaks_48 rfl (by decide) rfl ?_
          refine wx_iinc (v := 1) (ls' := [(0, .ref 57), (1, .int x1), (2, .int x2), (3, .int (0 : Int32)), (4, .int (x4 + 1))]) dX12_breaks_49 rfl (by decide) (by decide) rfl ?_
          refine wp_goto 5 dX12_breaks_52 (by decide) ?_
          exact hv Q hq
        · replace hv := hv.2 q
          refine wp_iconst (v := 1) dX12_breaks_43 (by decide) ?_
          refine wp_goto 48 dX12_breaks_44 (by decide) ?_
          refine wx_istore_n (ls' := [(0, .ref 57), (1, .int x1), (2, .int x2), (3, .int (1 : Int32)), (4, .int x4)]) (i := 3) dX12_breaks_48 rfl (by decide) rfl ?_
          refine wx_iinc (v := 1) (ls' := [(0, .ref 57), (1, .int x1), (2, .int x2), (3, .int (1 : Int32)), (4, .int (x4 + 1))]) dX12_breaks_49 rfl (by decide) (by decide) rfl ?_
          refine wp_goto 5 dX12_breaks_52 (by decide) ?_
          exact hv Q hq
theorem wX12_put_0 {x1 : Int32} {x2 : Int32} {x3 : Int32} {x4 : Int32} (hK : StK K)  (hv : (∃ (v1 : Int32), Ev G d mX12_isValue 0 [(0, .int x1)] (K, n, V, J, O) (some (.int v1)) (K, n, V, J, O) ∧ ((v1 = 0 → (r = some (.int (-1 : Int32)) ∧ V' = V)) ∧ (¬ v1 = 0 → (∃ (v2 : Int32), Ev G d mX12_isValue 0 [(0, .int x2)] (K, n, V, J, O) (some (.int v2)) (K, n, V, J, O) ∧ ((v2 = 0 → (r = some (.int (-1 : Int32)) ∧ V' = V)) ∧ (¬ v2 = 0 → (∃ (v3 : Int32), Ev G d mX12_isValue 0 [(0, .int x3)] (K, n, V, J, O) (some (.int v3)) (K, n, V, J, O) ∧ ((v3 = 0 → (r = some (.int (-1 : Int32)) ∧ V' = V)) ∧ (¬ v3 = 0 → (∃ (v4 : Int32), Ev G d mX12_isValue 0 [(0, .int x4)] (K, n, V, J, O) (some (.int v4)) (K, n, V, J, O) ∧ ((v4 ≠ 0 → (∃ (v5 : Int32), Ev G d mX12_breaks 0 [(0, .ref 57), (1, .int (0 : Int32)), (2, .int x1)] (K, n, V, J, O) (some (.int v5)) (K, n, V, J, O) ∧ ((v5 ≠ 0 → (r = some (.int (-5 : Int32)) ∧ V' = V)) ∧ (v5 = 0 → (∃ (v6 : Int32), Ev G d mX12_breaks 0 [(0, .ref 57), (1, .int (1 : Int32)), (2, .int x2)] (K, n, V, J, O) (some (.int v6)) (K, n, V, J, O) ∧ ((v6 ≠ 0 → (r = some (.int (-5 : Int32)) ∧ V' = V)) ∧ (v6 = 0 → (∃ (v7 : Int32), Ev G d mX12_breaks 0 [(0, .ref 57), (1, .int (2 : Int32)), (2, .int x3)] (K, n, V, J, O) (some (.int v7)) (K, n, V, J, O) ∧ ((v7 ≠ 0 → (r = some (.int (-5 : Int32)) ∧ V' = V)) ∧ (v7 = 0 → (∃ (v8 : Int32), Ev G d mX12_breaks 0 [(0, .ref 57), (1, .int (3 : Int32)), (2, .int x4)] (K, n, V, J, O) (some (.int v8)) (K, n, V, J, O) ∧ ((v8 = 0 → (((V 57 2) ≠ (80 : Int32) → (vp_in ((4 : Int32) * (V 57 2)) 320 ∧ (vp_in (((4 : Int32) * (V 57 2)) + (1 : Int32)) 320 ∧ (vp_in (((4 : Int32) * (V 57 2)) + (2 : Int32)) 320 ∧ (vp_in (((4 : Int32) * (V 57 2)) + (3 : Int32)) 320 ∧ (vp_in (V 57 2) 80 ∧ Ev G (d + 1) mX12_put 161 [(0, .ref 57), (1, .int x1), (2, .int x2), (3, .int x3), (4, .int x4), (5, .int (0 : Int32))] (K, n, (up2 (up2 (up2 (up2 (up2 (up2 V 58 (((4 : Int32) * (V 57 2))).toNatClampNeg x1) 58 ((((4 : Int32) * (V 57 2)) + (1 : Int32))).toNatClampNeg x2) 58 ((((4 : Int32) * (V 57 2)) + (2 : Int32))).toNatClampNeg x3) 58 ((((4 : Int32) * (V 57 2)) + (3 : Int32))).toNatClampNeg x4) 59 ((V 57 2)).toNatClampNeg (vp_nar .boolean (1 : Int32))) 57 2 ((V 57 2) + (1 : Int32))), J, O) r (K, n, V', J, O))))))) ∧ ((V 57 2) = (80 : Int32) → (r = some (.int (-3 : Int32)) ∧ V' = V)))) ∧ (¬ v8 = 0 → (r = some (.int (-5 : Int32)) ∧ V' = V)))))))))))))) ∧ (v4 = 0 → (r = some (.int (-1 : Int32)) ∧ V' = V)))))))))))))) : Ev G (d + 1) mX12_put 0 [(0, .ref 57), (1, .int x1), (2, .int x2), (3, .int x3), (4, .int x4)] (K, n, V, J, O) r (K, n, V', J, O) := by
  refine Ev.mk fun Q hq => ?_
  refine wp_iload_n (i := 1) dX12_put_0 rfl rfl ?_
  obtain ⟨v1, hE, hv⟩ := hv
  refine wz_callS (vs := [.int x1]) (st := []) dX12_put_1 k12_145 hE rfl (Nat.le_of_ble_eq_true rfl) (Nat.le_of_ble_eq_true rfl) ?_
  change wp _ _ _ _ _ [.int v1] _ _ _
  refine wp_if_eq 29 dX12_put_4 (by decide) (fun q => ?_) (fun q => ?_)
  · replace hv := hv.1 q
    refine wp_iconst (v := -1) dX12_put_29 (by decide) ?_
    obtain ⟨rfl, rfl⟩ := hv
    exact wp_ireturn dX12_put_30 rfl rfl rfl hq
  · replace hv := hv.2 q
    refine wp_iload_n (i := 2) dX12_put_7 rfl rfl ?_
    obtain ⟨v2, hE, hv⟩ := hv
    refine wz_callS (vs := [.int x2]) (st := []) dX12_put_8 k12_145 hE rfl (Nat.le_of_ble_eq_true rfl) (Nat.le_of_ble_eq_true rfl) ?_
    change wp _ _ _ _ _ [.int v2] _ _ _
    refine wp_if_eq 29 dX12_put_11 (by decide) (fun q => ?_) (fun q => ?_)
    · replace hv := hv.1 q
      refine wp_iconst (v := -1) dX12_put_29 (by decide) ?_
      obtain ⟨rfl, rfl⟩ := hv
      exact wp_ireturn dX12_put_30 rfl rfl rfl hq
    · replace hv := hv.2 q
      refine wp_iload_n (i := 3) dX12_put_14 rfl rfl ?_
      obtain ⟨v3, hE, hv⟩ := hv
      refine wz_callS (vs := [.int x3]) (st := []) dX12_put_15 k12_145 hE rfl (Nat.le_of_ble_eq_true rfl) (Nat.le_of_ble_eq_true rfl) ?_
      change wp _ _ _ _ _ [.int v3] _ _ _
      refine wp_if_eq 29 dX12_put_18 (by decide) (fun q => ?_) (fun q => ?_)
      · replace hv := hv.1 q
        refine wp_iconst (v := -1) dX12_put_29 (by decide) ?_
        obtain ⟨rfl, rfl⟩ := hv
        exact wp_ireturn dX12_put_30 rfl rfl rfl hq
      · replace hv := hv.2 q
        refine wp_iload dX12_put_21 rfl ?_
        obtain ⟨v4, hE, hv⟩ := hv
        refine wz_callS (vs := [.int x4]) (st := []) dX12_put_23 k12_145 hE rfl (Nat.le_of_ble_eq_true rfl) (Nat.le_of_ble_eq_true rfl) ?_
        change wp _ _ _ _ _ [.int v4] _ _ _
        refine wp_if_ne 31 dX12_put_26 (by decide) (fun q => ?_) (fun q => ?_)
        · replace hv := hv.1 q
          refine wp_aload_n (i := 0) dX12_put_31 rfl rfl ?_
          refine wp_iconst (v := 0) dX12_put_32 (by decide) ?_
          refine wp_iload_n (i := 1) dX12_put_33 rfl rfl ?_
          obtain ⟨v5, hE, hv⟩ := hv
          refine wz_callV (vs := [.int (0 : Int32), .int x1]) (st := []) dX12_put_34 (k57 hK) rfl k12_149_12 hE rfl (Nat.le_of_ble_eq_true rfl) (Nat.le_of_ble_eq_true rfl) ?_
          change wp _ _ _ _ _ [.int v5] _ _ _
          refine wp_if_ne 68 dX12_put_37 (by decide) (fun q => ?_) (fun q => ?_)
          · replace hv := hv.1 q
            refine wp_bipush (v := -5) dX12_put_68 (by decide) ?_
            obtain ⟨rfl, rfl⟩ := hv
            exact wp_ireturn dX12_put_70 rfl rfl rfl hq
          · replace hv := hv.2 q
            refine wp_aload_n (i := 0) dX12_put_40 rfl rfl ?_
            refine wp_iconst (v := 1) dX12_put_41 (by decide) ?_
            refine wp_iload_n (i := 2) dX12_put_42 rfl rfl ?_
            obtain ⟨v6, hE, hv⟩ := hv
            refine wz_callV (vs := [.int (1 : Int32), .int x2]) (st := []) dX12_put_43 (k57 hK) rfl k12_149_12 hE rfl (Nat.le_of_ble_eq_true rfl) (Nat.le_of_ble_eq_true rfl) ?_
            change wp _ _ _ _ _ [.int v6] _ _ _
            refine wp_if_ne 68 dX12_put_46 (by decide) (fun q => ?_) (fun q => ?_)
            · replace hv := hv.1 q
              refine wp_bipush (v := -5) dX12_put_68 (by decide) ?_
              obtain ⟨rfl, rfl⟩ := hv
              exact wp_ireturn dX12_put_70 rfl rfl rfl hq
            · replace hv := hv.2 q
              refine wp_aload_n (i := 0) dX12_put_49 rfl rfl ?_
              refine wp_iconst (v := 2) dX12_put_50 (by decide) ?_
              refine wp_iload_n (i := 3) dX12_put_51 rfl rfl ?_
              obtain ⟨v7, hE, hv⟩ := hv
              refine wz_callV (vs := [.int (2 : Int32), .int x3]) (st := []) dX12_put_52 (k57 hK) rfl k12_149_12 hE rfl (Nat.le_of_ble_eq_true rfl) (Nat.le_of_ble_eq_true rfl) ?_
              change wp _ _ _ _ _ [.int v7] _ _ _
              refine wp_if_ne 68 dX12_put_55 (by decide) (fun q => ?_) (fun q => ?_)
              · replace hv := hv.1 q
                refine wp_bipush (v := -5) dX12_put_68 (by decide) ?_
                obtain ⟨rfl, rfl⟩ := hv
                exact wp_ireturn dX12_put_70 rfl rfl rfl hq
              · replace hv := hv.2 q
                refine wp_aload_n (i := 0) dX12_put_58 rfl rfl ?_
                refine wp_iconst (v := 3) dX12_put_59 (by decide) ?_
                refine wp_iload dX12_put_60 rfl ?_
                obtain ⟨v8, hE, hv⟩ := hv
                refine wz_callV (vs := [.int (3 : Int32), .int x4]) (st := []) dX12_put_62 (k57 hK) rfl k12_149_12 hE rfl (Nat.le_of_ble_eq_true rfl) (Nat.le_of_ble_eq_true rfl) ?_
                change wp _ _ _ _ _ [.int v8] _ _ _
                refine wp_if_eq 71 dX12_put_65 (by decide) (fun q => ?_) (fun q => ?_)
                · replace hv := hv.1 q
                  refine wp_aload_n (i := 0) dX12_put_71 rfl rfl ?_
                  refine wz_getI dX12_put_72 (k57 hK) (f12_130 _ (by decide)) rfl ?_
                  refine wp_bipush (v := 80) dX12_put_75 (by decide) ?_
                  refine wp_icmp_ne 83 dX12_put_77 (by decide) (fun q => ?_) (fun q => ?_)
                  · replace hv := hv.1 q
                    refine wp_aload_n (i := 0) dX12_put_83 rfl rfl ?_
                    refine wz_getR (b := 58) dX12_put_84 (k57 hK) (f12_9 _ (by decide)) rfl ?_
                    refine wp_iconst (v := 4) dX12_put_87 (by decide) ?_
                    refine wp_aload_n (i := 0) dX12_put_88 rfl rfl ?_
                    refine wz_getI dX12_put_89 (k57 hK) (f12_130 _ (by decide)) rfl ?_
                    refine wp_imul dX12_put_92 ?_
                    refine wp_iload_n (i := 1) dX12_put_93 rfl rfl ?_
                    obtain ⟨z9, hv⟩ := hv
                    refine wz_iastore dX12_put_94 (k58 hK) z9 ?_
                    refine wp_aload_n (i := 0) dX12_put_95 rfl rfl ?_
                    refine wz_getR (b := 58) dX12_put_96 (k57 hK) (f12_9 _ (by decide)) rfl ?_
                    refine wp_iconst (v := 4) dX12_put_99 (by decide) ?_
                    refine wp_aload_n (i := 0) dX12_put_100 rfl rfl ?_
                    refine wz_getIe (v := (V 57 2)) dX12_put_101 (k57 hK) (f12_130 _ (by decide)) rfl (up2_a (by decide)) ?_
                    refine wp_imul dX12_put_104 ?_
                    refine wp_iconst (v := 1) dX12_put_105 (by decide) ?_
                    refine wp_iadd dX12_put_106 ?_
                    refine wp_iload_n (i := 2) dX12_put_107 rfl rfl ?_
                    obtain ⟨z10, hv⟩ := hv
                    refine wz_iastore dX12_put_108 (k58 hK) z10 ?_
                    refine wp_aload_n (i := 0) dX12_put_109 rfl rfl ?_
                    refine wz_getR (b := 58) dX12_put_110 (k57 hK) (f12_9 _ (by decide)) rfl ?_
                    refine wp_iconst (v := 4) dX12_put_113 (by decide) ?_
                    refine wp_aload_n (i := 0) dX12_put_114 rfl rfl ?_
                    refine wz_getIe (v := (V 57 2)) dX12_put_115 (k57 hK) (f12_130 _ (by decide)) rfl (Eq.trans (up2_a (by decide)) (up2_a (by decide))) ?_
                    refine wp_imul dX12_put_118 ?_
                    refine wp_iconst (v := 2) dX12_put_119 (by decide) ?_
                    refine wp_iadd dX12_put_120 ?_
                    refine wp_iload_n (i := 3) dX12_put_121 rfl rfl ?_
                    obtain ⟨z11, hv⟩ := hv
                    refine wz_iastore dX12_put_122 (k58 hK) z11 ?_
                    refine wp_aload_n (i := 0) dX12_put_123 rfl rfl ?_
                    refine wz_getR (b := 58) dX12_put_124 (k57 hK) (f12_9 _ (by decide)) rfl ?_
                    refine wp_iconst (v := 4) dX12_put_127 (by decide) ?_
                    refine wp_aload_n (i := 0) dX12_put_128 rfl rfl ?_
                    refine wz_getIe (v := (V 57 2)) dX12_put_129 (k57 hK) (f12_130 _ (by decide)) rfl (Eq.trans (up2_a (by decide)) (Eq.trans (up2_a (by decide)) (up2_a (by decide)))) ?_
                    refine wp_imul dX12_put_132 ?_
                    refine wp_iconst (v := 3) dX12_put_133 (by decide) ?_
                    refine wp_iadd dX12_put_134 ?_
                    refine wp_iload dX12_put_135 rfl ?_
                    obtain ⟨z12, hv⟩ := hv
                    refine wz_iastore dX12_put_137 (k58 hK) z12 ?_
                    refine wp_aload_n (i := 0) dX12_put_138 rfl rfl ?_
                    refine wz_getR (b := 59) dX12_put_139 (k57 hK) (f12_13 _ (by decide)) rfl ?_
                    refine wp_aload_n (i := 0) dX12_put_142 rfl rfl ?_
                    refine wz_getIe (v := (V 57 2)) dX12_put_143 (k57 hK) (f12_130 _ (by decide)) rfl (Eq.trans (up2_a (by decide)) (Eq.trans (up2_a (by decide)) (Eq.trans (up2_a (by decide)) (up2_a (by decide))))) ?_
                    refine wp_iconst (v := 1) dX12_put_146 (by decide) ?_
                    obtain ⟨z13, hv⟩ := hv
                    refine wz_bastore dX12_put_147 (k59 hK) z13 ?_
                    refine wp_aload_n (i := 0) dX12_put_148 rfl rfl ?_
                    refine wp_dupR dX12_put_149 ?_
                    refine wz_getIe (v := (V 57 2)) dX12_put_150 (k57 hK) (f12_130 _ (by decide)) rfl (Eq.trans (up2_a (by decide)) (Eq.trans (up2_a (by decide)) (Eq.trans (up2_a (by decide)) (Eq.trans (up2_a (by decide)) (up2_a (by decide)))))) ?_
                    refine wp_iconst (v := 1) dX12_put_153 (by decide) ?_
                    refine wp_iadd dX12_put_154 ?_
                    refine wz_putI dX12_put_155 (k57 hK) (w12_130 _ (by decide)) rfl ?_
                    refine wp_iconst (v := 0) dX12_put_158 (by decide) ?_
                    refine wx_istore (ls' := [(0, .ref 57), (1, .int x1), (2, .int x2), (3, .int x3), (4, .int x4), (5, .int (0 : Int32))]) dX12_put_159 (by decide) rfl ?_
                    exact hv Q hq
                  · replace hv := hv.2 q
                    refine wp_bipush (v := -3) dX12_put_80 (by decide) ?_
                    obtain ⟨rfl, rfl⟩ := hv
                    exact wp_ireturn dX12_put_82 rfl rfl rfl hq
                · replace hv := hv.2 q
                  refine wp_bipush (v := -5) dX12_put_68 (by decide) ?_
                  obtain ⟨rfl, rfl⟩ := hv
                  exact wp_ireturn dX12_put_70 rfl rfl rfl hq
        · replace hv := hv.2 q
          refine wp_iconst (v := -1) dX12_put_29 (by decide) ?_
          obtain ⟨rfl, rfl⟩ := hv
          exact wp_ireturn dX12_put_30 rfl rfl rfl hq
theorem wX12_put_161 {x1 : Int32} {x2 : Int32} {x3 : Int32} {x4 : Int32} {x5 : Int32} (hK : StK K)  (hv : (((V 57 25) ≤ x5 → (r = some (.int ((V 57 2) - (1 : Int32))) ∧ V' = V)) ∧ (¬ (V 57 25) ≤ x5 → (∃ (V1 : SV), Ev G d mX12_putIn 0 [(0, .ref 57), (1, .int x5), (2, .int ((V 57 2) - (1 : Int32)))] (K, n, V, J, O) none (K, n, V1, J, O) ∧ Ev G (d + 1) mX12_put 161 [(0, .ref 57), (1, .int x1), (2, .int x2), (3, .int x3), (4, .int x4), (5, .int (x5 + 1))] (K, n, V1, J, O) r (K, n, V', J, O))))) : Ev G (d + 1) mX12_put 161 [(0, .ref 57), (1, .int x1), (2, .int x2), (3, .int x3), (4, .int x4), (5, .int x5)] (K, n, V, J, O) r (K, n, V', J, O) := by
  refine Ev.mk fun Q hq => ?_
  refine wp_iload dX12_put_161 rfl ?_
  refine wp_aload_n (i := 0) dX12_put_163 rfl rfl ?_
  refine wz_getI dX12_put_164 (k57 hK) (f12_153 _ (by decide)) rfl ?_
  refine wp_icmp_ge 188 dX12_put_167 (by decide) (fun q => ?_) (fun q => ?_)
  · replace hv := hv.1 q
    refine wp_aload_n (i := 0) dX12_put_188 rfl rfl ?_
    refine wz_getI dX12_put_189 (k57 hK) (f12_130 _ (by decide)) rfl ?_
    refine wp_iconst (v := 1) dX12_put_192 (by decide) ?_
    refine wp_isub dX12_put_193 ?_
    obtain ⟨rfl, rfl⟩ := hv
    exact wp_ireturn dX12_put_194 rfl rfl rfl hq
  · replace hv := hv.2 q
    refine wp_aload_n (i := 0) dX12_put_170 rfl rfl ?_
    refine wp_iload dX12_put_171 rfl ?_
    refine wp_aload_n (i := 0) dX12_put_173 rfl rfl ?_
    refine wz_getI dX12_put_174 (k57 hK) (f12_130 _ (by decide)) rfl ?_
    refine wp_iconst (v := 1) dX12_put_177 (by decide) ?_
    refine wp_isub dX12_put_178 ?_
    obtain ⟨V1, hE, hv⟩ := hv
    refine wz_callV (vs := [.int x5, .int ((V 57 2) - (1 : Int32))]) (st := []) dX12_put_179 (k57 hK) rfl k12_156_12 hE rfl (Nat.le_of_ble_eq_true rfl) (Nat.le_of_ble_eq_true rfl) ?_
    change wp _ _ _ _ _ [] _ _ _
    refine wx_iinc (v := 1) (ls' := [(0, .ref 57), (1, .int x1), (2, .int x2), (3, .int x3), (4, .int x4), (5, .int (x5 + 1))]) dX12_put_182 rfl (by decide) (by decide) rfl ?_
    refine wp_goto 161 dX12_put_185 (by decide) ?_
    exact hv Q hq
theorem wX12_take_0 {x1 : Int32} (hK : StK K)  (hv : (∃ (v1 : Int32), Ev G d mX12_isThing 0 [(0, .ref 57), (1, .int x1)] (K, n, V, J, O) (some (.int v1)) (K, n, V, J, O) ∧ ((v1 ≠ 0 → (vp_in x1 80 ∧ (((V 59 (x1).toNatClampNeg) ≠ 0 → (vp_in x1 80 ∧ Ev G (d + 1) mX12_take 31 [(0, .ref 57), (1, .int x1), (2, .int (0 : Int32))] (K, n, (up2 V 59 (x1).toNatClampNeg (vp_nar .boolean (0 : Int32))), J, O) r (K, n, V', J, O))) ∧ ((V 59 (x1).toNatClampNeg) = 0 → (r = some (.int (-2 : Int32)) ∧ V' = V))))) ∧ (v1 = 0 → (r = some (.int (-1 : Int32)) ∧ V' = V))))) : Ev G (d + 1) mX12_take 0 [(0, .ref 57), (1, .int x1)] (K, n, V, J, O) r (K, n, V', J, O) := by
  refine Ev.mk fun Q hq => ?_
  refine wp_aload_n (i := 0) dX12_take_0 rfl rfl ?_
  refine wp_iload_n (i := 1) dX12_take_1 rfl rfl ?_
  obtain ⟨v1, hE, hv⟩ := hv
  refine wz_callV (vs := [.int x1]) (st := []) dX12_take_2 (k57 hK) rfl k12_160_12 hE rfl (Nat.le_of_ble_eq_true rfl) (Nat.le_of_ble_eq_true rfl) ?_
  change wp _ _ _ _ _ [.int v1] _ _ _
  refine wp_if_ne 10 dX12_take_5 (by decide) (fun q => ?_) (fun q => ?_)
  · replace hv := hv.1 q
    refine wp_aload_n (i := 0) dX12_take_10 rfl rfl ?_
    refine wz_getR (b := 59) dX12_take_11 (k57 hK) (f12_13 _ (by decide)) rfl ?_
    refine wp_iload_n (i := 1) dX12_take_14 rfl rfl ?_
    obtain ⟨z2, hv⟩ := hv
    refine wz_baload dX12_take_15 (k59 hK) z2 ?_
    refine wp_if_ne 22 dX12_take_16 (by decide) (fun q => ?_) (fun q => ?_)
    · replace hv := hv.1 q
      refine wp_aload_n (i := 0) dX12_take_22 rfl rfl ?_
      refine wz_getR (b := 59) dX12_take_23 (k57 hK) (f12_13 _ (by decide)) rfl ?_
      refine wp_iload_n (i := 1) dX12_take_26 rfl rfl ?_
      refine wp_iconst (v := 0) dX12_take_27 (by decide) ?_
      obtain ⟨z3, hv⟩ := hv
      refine wz_bastore dX12_take_28 (k59 hK) z3 ?_
      refine wp_iconst (v := 0) dX12_take_29 (by decide) ?_
      refine wx_istore_n (ls' := [(0, .ref 57), (1, .int x1), (2, .int (0 : Int32))]) (i := 2) dX12_take_30 rfl (by decide) rfl ?_
      exact hv Q hq
    · replace hv := hv.2 q
      refine wp_bipush (v := -2) dX12_take_19 (by decide) ?_
      obtain ⟨rfl, rfl⟩ := hv
      exact wp_ireturn dX12_take_21 rfl rfl rfl hq
  · replace hv := hv.2 q
    refine wp_iconst (v := -1) dX12_take_8 (by decide) ?_
    obtain ⟨rfl, rfl⟩ := hv
    exact wp_ireturn dX12_take_9 rfl rfl rfl hq
theorem wX12_take_31 {x1 : Int32} {x2 : Int32} (hK : StK K)  (hv : (((V 57 25) ≤ x2 → (r = some (.int (1 : Int32)) ∧ V' = V)) ∧ (¬ (V 57 25) ≤ x2 → (∃ (V1 : SV), Ev G d mX12_takeFrom 0 [(0, .ref 57), (1, .int x2), (2, .int x1)] (K, n, V, J, O) none (K, n, V1, J, O) ∧ Ev G (d + 1) mX12_take 31 [(0, .ref 57), (1, .int x1), (2, .int (x2 + 1))] (K, n, V1, J, O) r (K, n, V', J, O))))) : Ev G (d + 1) mX12_take 31 [(0, .ref 57), (1, .int x1), (2, .int x2)] (K, n, V, J, O) r (K, n, V', J, O) := by
  refine Ev.mk fun Q hq => ?_
  refine wp_iload_n (i := 2) dX12_take_31 rfl rfl ?_
  refine wp_aload_n (i := 0) dX12_take_32 rfl rfl ?_
  refine wz_getI dX12_take_33 (k57 hK) (f12_153 _ (by decide)) rfl ?_
  refine wp_icmp_ge 51 dX12_take_36 (by decide) (fun q => ?_) (fun q => ?_)
  · replace hv := hv.1 q
    refine wp_iconst (v := 1) dX12_take_51 (by decide) ?_
    obtain ⟨rfl, rfl⟩ := hv
    exact wp_ireturn dX12_take_52 rfl rfl rfl hq
  · replace hv := hv.2 q
    refine wp_aload_n (i := 0) dX12_take_39 rfl rfl ?_
    refine wp_iload_n (i := 2) dX12_take_40 rfl rfl ?_
    refine wp_iload_n (i := 1) dX12_take_41 rfl rfl ?_
    obtain ⟨V1, hE, hv⟩ := hv
    refine wz_callV (vs := [.int x2, .int x1]) (st := []) dX12_take_42 (k57 hK) rfl k12_163_12 hE rfl (Nat.le_of_ble_eq_true rfl) (Nat.le_of_ble_eq_true rfl) ?_
    change wp _ _ _ _ _ [] _ _ _
    refine wx_iinc (v := 1) (ls' := [(0, .ref 57), (1, .int x1), (2, .int (x2 + 1))]) dX12_take_45 rfl (by decide) (by decide) rfl ?_
    refine wp_goto 31 dX12_take_48 (by decide) ?_
    exact hv Q hq
theorem wX12_of_0 {x1 : Int32} {x2 : Int32} (hK : StK K)  (hv : (∃ (v1 : Int32), Ev G d mX12_isThing 0 [(0, .ref 57), (1, .int x1)] (K, n, V, J, O) (some (.int v1)) (K, n, V, J, O) ∧ ((v1 = 0 → r = some (.int (-1 : Int32))) ∧ (¬ v1 = 0 → (∃ (v2 : Int32), Ev G d mX12_within 0 [(0, .long x2.toInt64), (2, .long (0 : Int64)), (4, .long (4 : Int64))] (K, n, V, J, O) (some (.int v2)) (K, n, V, J, O) ∧ ((v2 ≠ 0 → (((4 : Int32) ≤ x2 → (vp_in x1 80 ∧ (((V 59 (x1).toNatClampNeg) = 0 → r = some (.int (0 : Int32))) ∧ (¬ (V 59 (x1).toNatClampNeg) = 0 → r = some (.int (1 : Int32)))))) ∧ (¬ (4 : Int32) ≤ x2 → (vp_in (((4 : Int32) * x1) + x2) 320 ∧ r = some (.int (V 58 ((((4 : Int32) * x1) + x2)).toNatClampNeg)))))) ∧ (v2 = 0 → r = some (.int (-1 : Int32))))))))) : Ev G (d + 1) mX12_of 0 [(0, .ref 57), (1, .int x1), (2, .int x2)] (K, n, V, J, O) r (K, n, V, J, O) := by
  refine Ev.mk fun Q hq => ?_
  refine wp_aload_n (i := 0) dX12_of_0 rfl rfl ?_
  refine wp_iload_n (i := 1) dX12_of_1 rfl rfl ?_
  obtain ⟨v1, hE, hv⟩ := hv
  refine wz_callV (vs := [.int x1]) (st := []) dX12_of_2 (k57 hK) rfl k12_160_12 hE rfl (Nat.le_of_ble_eq_true rfl) (Nat.le_of_ble_eq_true rfl) ?_
  change wp _ _ _ _ _ [.int v1] _ _ _
  refine wp_if_eq 20 dX12_of_5 (by decide) (fun q => ?_) (fun q => ?_)
  · replace hv := hv.1 q
    refine wp_iconst (v := -1) dX12_of_20 (by decide) ?_
    obtain rfl := hv
    exact wp_ireturn dX12_of_21 rfl rfl rfl hq
  · replace hv := hv.2 q
    refine wp_iload_n (i := 2) dX12_of_8 rfl rfl ?_
    refine wp_i2l dX12_of_9 ?_
    refine wp_lconst (v := 0) dX12_of_10 (by decide) ?_
    refine wp_ldc2 (v := 4) dX12_of_11 q12_166 ?_
    obtain ⟨v2, hE, hv⟩ := hv
    refine wz_callS (vs := [.long x2.toInt64, .long (0 : Int64), .long (4 : Int64)]) (st := []) dX12_of_14 k12_135 hE rfl (Nat.le_of_ble_eq_true rfl) (Nat.le_of_ble_eq_true rfl) ?_
    change wp _ _ _ _ _ [.int v2] _ _ _
    refine wp_if_ne 22 dX12_of_17 (by decide) (fun q => ?_) (fun q => ?_)
    · replace hv := hv.1 q
      refine wp_iload_n (i := 2) dX12_of_22 rfl rfl ?_
      refine wp_iconst (v := 4) dX12_of_23 (by decide) ?_
      refine wp_icmp_ge 40 dX12_of_24 (by decide) (fun q => ?_) (fun q => ?_)
      · replace hv := hv.1 q
        refine wp_aload_n (i := 0) dX12_of_40 rfl rfl ?_
        refine wz_getR (b := 59) dX12_of_41 (k57 hK) (f12_13 _ (by decide)) rfl ?_
        refine wp_iload_n (i := 1) dX12_of_44 rfl rfl ?_
        obtain ⟨z3, hv⟩ := hv
        refine wz_baload dX12_of_45 (k59 hK) z3 ?_
        refine wp_if_eq 53 dX12_of_46 (by decide) (fun q => ?_) (fun q => ?_)
        · replace hv := hv.1 q
          refine wp_iconst (v := 0) dX12_of_53 (by decide) ?_
          obtain rfl := hv
          exact wp_ireturn dX12_of_54 rfl rfl rfl hq
        · replace hv := hv.2 q
          refine wp_iconst (v := 1) dX12_of_49 (by decide) ?_
          refine wp_goto 54 dX12_of_50 (by decide) ?_
          obtain rfl := hv
          exact wp_ireturn dX12_of_54 rfl rfl rfl hq
      · replace hv := hv.2 q
        refine wp_aload_n (i := 0) dX12_of_27 rfl rfl ?_
        refine wz_getR (b := 58) dX12_of_28 (k57 hK) (f12_9 _ (by decide)) rfl ?_
        refine wp_iconst (v := 4) dX12_of_31 (by decide) ?_
        refine wp_iload_n (i := 1) dX12_of_32 rfl rfl ?_
        refine wp_imul dX12_of_33 ?_
        refine wp_iload_n (i := 2) dX12_of_34 rfl rfl ?_
        refine wp_iadd dX12_of_35 ?_
        obtain ⟨z4, hv⟩ := hv
        refine wz_iaload dX12_of_36 (k58 hK) z4 ?_
        refine wp_goto 54 dX12_of_37 (by decide) ?_
        obtain rfl := hv
        exact wp_ireturn dX12_of_54 rfl rfl rfl hq
    · replace hv := hv.2 q
      refine wp_iconst (v := -1) dX12_of_20 (by decide) ?_
      obtain rfl := hv
      exact wp_ireturn dX12_of_21 rfl rfl rfl hq
theorem wX12_unlike_0 {x1 : Int32} {x2 : Int32} (hK : StK K)  (hv : (∃ (v1 : Int32), Ev G d mX12_isField 0 [(0, .int x1)] (K, n, V, J, O) (some (.int v1)) (K, n, V, J, O) ∧ ((v1 = 0 → (r = some (.int (-1 : Int32)) ∧ V' = V)) ∧ (¬ v1 = 0 → (∃ (v2 : Int32), Ev G d mX12_within 0 [(0, .long x2.toInt64), (2, .long (0 : Int64)), (4, .long (1 : Int64))] (K, n, V, J, O) (some (.int v2)) (K, n, V, J, O) ∧ ((v2 ≠ 0 → Ev G (d + 1) mX12_unlike 24 [(0, .ref 57), (1, .int x1), (2, .int x2), (3, .int (1 : Int32)), (4, .int (0 : Int32))] (K, n, V, J, O) r (K, n, V', J, O)) ∧ (v2 = 0 → (r = some (.int (-1 : Int32)) ∧ V' = V)))))))) : Ev G (d + 1) mX12_unlike 0 [(0, .ref 57), (1, .int x1), (2, .int x2)] (K, n, V, J, O) r (K, n, V', J, O) := by
  refine Ev.mk fun Q hq => ?_
  refine wp_iload_n (i := 1) dX12_unlike_0 rfl rfl ?_
  obtain ⟨v1, hE, hv⟩ := hv
  refine wz_callS (vs := [.int x1]) (st := []) dX12_unlike_1 k12_168 hE rfl (Nat.le_of_ble_eq_true rfl) (Nat.le_of_ble_eq_true rfl) ?_
  change wp _ _ _ _ _ [.int v1] _ _ _
  refine wp_if_eq 17 dX12_unlike_4 (by decide) (fun q => ?_) (fun q => ?_)
  · replace hv := hv.1 q
    refine wp_iconst (v := -1) dX12_unlike_17 (by decide) ?_
    obtain ⟨rfl, rfl⟩ := hv
    exact wp_ireturn dX12_unlike_18 rfl rfl rfl hq
  · replace hv := hv.2 q
    refine wp_iload_n (i := 2) dX12_unlike_7 rfl rfl ?_
    refine wp_i2l dX12_unlike_8 ?_
    refine wp_lconst (v := 0) dX12_unlike_9 (by decide) ?_
    refine wp_lconst (v := 1) dX12_unlike_10 (by decide) ?_
    obtain ⟨v2, hE, hv⟩ := hv
    refine wz_callS (vs := [.long x2.toInt64, .long (0 : Int64), .long (1 : Int64)]) (st := []) dX12_unlike_11 k12_135 hE rfl (Nat.le_of_ble_eq_true rfl) (Nat.le_of_ble_eq_true rfl) ?_
    change wp _ _ _ _ _ [.int v2] _ _ _
    refine wp_if_ne 19 dX12_unlike_14 (by decide) (fun q => ?_) (fun q => ?_)
    · replace hv := hv.1 q
      refine wp_iconst (v := 1) dX12_unlike_19 (by decide) ?_
      refine wx_istore_n (ls' := [(0, .ref 57), (1, .int x1), (2, .int x2), (3, .int (1 : Int32))]) (i := 3) dX12_unlike_20 rfl (by decide) rfl ?_
      refine wp_iconst (v := 0) dX12_unlike_21 (by decide) ?_
      refine wx_istore (ls' := [(0, .ref 57), (1, .int x1), (2, .int x2), (3, .int (1 : Int32)), (4, .int (0 : Int32))]) dX12_unlike_22 (by decide) rfl ?_
      exact hv Q hq
    · replace hv := hv.2 q
      refine wp_iconst (v := -1) dX12_unlike_17 (by decide) ?_
      obtain ⟨rfl, rfl⟩ := hv
      exact wp_ireturn dX12_unlike_18 rfl rfl rfl hq
theorem wX12_unlike_24 {x1 : Int32} {x2 : Int32} {x3 : Int32} {x4 : Int32} (hK : StK K)  (hv : (((V 57 2) ≤ x4 → ((x2 ≠ (1 : Int32) → (vp_in x1 4 ∧ (((V 60 (x1).toNatClampNeg) = 0 → ((x2 ≠ (1 : Int32) → (vp_in x1 4 ∧ (r = some (.int (0 : Int32)) ∧ V' = (up2 V 60 (x1).toNatClampNeg (vp_nar .boolean (0 : Int32)))))) ∧ (x2 = (1 : Int32) → (vp_in x1 4 ∧ (r = some (.int (0 : Int32)) ∧ V' = (up2 V 60 (x1).toNatClampNeg (vp_nar .boolean (1 : Int32)))))))) ∧ (¬ (V 60 (x1).toNatClampNeg) = 0 → ((x2 ≠ (1 : Int32) → (vp_in x1 4 ∧ (r = some (.int (1 : Int32)) ∧ V' = (up2 V 60 (x1).toNatClampNeg (vp_nar .boolean (0 : Int32)))))) ∧ (x2 = (1 : Int32) → (vp_in x1 4 ∧ (r = some (.int (1 : Int32)) ∧ V' = (up2 V 60 (x1).toNatClampNeg (vp_nar .boolean (1 : Int32))))))))))) ∧ (x2 = (1 : Int32) → ((x3 ≠ 0 → (vp_in x1 4 ∧ (((V 60 (x1).toNatClampNeg) = 0 → ((x2 ≠ (1 : Int32) → (vp_in x1 4 ∧ (r = some (.int (0 : Int32)) ∧ V' = (up2 V 60 (x1).toNatClampNeg (vp_nar .boolean (0 : Int32)))))) ∧ (x2 = (1 : Int32) → (vp_in x1 4 ∧ (r = some (.int (0 : Int32)) ∧ V' = (up2 V 60 (x1).toNatClampNeg (vp_nar .boolean (1 : Int32)))))))) ∧ (¬ (V 60 (x1).toNatClampNeg) = 0 → ((x2 ≠ (1 : Int32) → (vp_in x1 4 ∧ (r = some (.int (1 : Int32)) ∧ V' = (up2 V 60 (x1).toNatClampNeg (vp_nar .boolean (0 : Int32)))))) ∧ (x2 = (1 : Int32) → (vp_in x1 4 ∧ (r = some (.int (1 : Int32)) ∧ V' = (up2 V 60 (x1).toNatClampNeg (vp_nar .boolean (1 : Int32))))))))))) ∧ (x3 = 0 → (r = some (.int (-5 : Int32)) ∧ V' = V)))))) ∧ (¬ (V 57 2) ≤ x4 → Ev G (d + 1) mX12_unlike 36 [(0, .ref 57), (1, .int x1), (2, .int x2), (3, .int x3), (4, .int x4), (5, .int (0 : Int32))] (K, n, V, J, O) r (K, n, V', J, O)))) : Ev G (d + 1) mX12_unlike 24 [(0, .ref 57), (1, .int x1), (2, .int x2), (3, .int x3), (4, .int x4)] (K, n, V, J, O) r (K, n, V', J, O) := by
  refine Ev.mk fun Q hq => ?_
  refine wp_iload dX12_unlike_24 rfl ?_
  refine wp_aload_n (i := 0) dX12_unlike_26 rfl rfl ?_
  refine wz_getI dX12_unlike_27 (k57 hK) (f12_130 _ (by decide)) rfl ?_
  refine wp_icmp_ge 110 dX12_unlike_30 (by decide) (fun q => ?_) (fun q => ?_)
  · replace hv := hv.1 q
    refine wp_iload_n (i := 2) dX12_unlike_110 rfl rfl ?_
    refine wp_iconst (v := 1) dX12_unlike_111 (by decide) ?_
    refine wp_icmp_ne 122 dX12_unlike_112 (by decide) (fun q => ?_) (fun q => ?_)
    · replace hv := hv.1 q
      refine wp_aload_n (i := 0) dX12_unlike_122 rfl rfl ?_
      refine wz_getR (b := 60) dX12_unlike_123 (k57 hK) (f12_17 _ (by decide)) rfl ?_
      refine wp_iload_n (i := 1) dX12_unlike_126 rfl rfl ?_
      obtain ⟨z1, hv⟩ := hv
      refine wz_baload dX12_unlike_127 (k60 hK) z1 ?_
      refine wp_if_eq 135 dX12_unlike_128 (by decide) (fun q => ?_) (fun q => ?_)
      · replace hv := hv.1 q
        refine wp_iconst (v := 0) dX12_unlike_135 (by decide) ?_
        refine wx_istore (ls' := [(0, .ref 57), (1, .int x1), (2, .int x2), (3, .int x3), (4, .int (0 : Int32))]) dX12_unlike_136 (by decide) rfl ?_
        refine wp_aload_n (i := 0) dX12_unlike_138 rfl rfl ?_
        refine wz_getR (b := 60) dX12_unlike_139 (k57 hK) (f12_17 _ (by decide)) rfl ?_
        refine wp_iload_n (i := 1) dX12_unlike_142 rfl rfl ?_
        refine wp_iload_n (i := 2) dX12_unlike_143 rfl rfl ?_
        refine wp_iconst (v := 1) dX12_unlike_144 (by decide) ?_
        refine wp_icmp_ne 152 dX12_unlike_145 (by decide) (fun q => ?_) (fun q => ?_)
        · replace hv := hv.1 q
          refine wp_iconst (v := 0) dX12_unlike_152 (by decide) ?_
          obtain ⟨z2, hv⟩ := hv
          refine wz_bastore dX12_unlike_153 (k60 hK) z2 ?_
          refine wp_iload dX12_unlike_154 rfl ?_
          obtain ⟨rfl, rfl⟩ := hv
          exact wp_ireturn dX12_unlike_156 rfl rfl rfl hq
        · replace hv := hv.2 q
          refine wp_iconst (v := 1) dX12_unlike_148 (by decide) ?_
          refine wp_goto 153 dX12_unlike_149 (by decide) ?_
          obtain ⟨z3, hv⟩ := hv
          refine wz_bastore dX12_unlike_153 (k60 hK) z3 ?_
          refine wp_iload dX12_unlike_154 rfl ?_
          obtain ⟨rfl, rfl⟩ := hv
          exact wp_ireturn dX12_unlike_156 rfl rfl rfl hq
      · replace hv := hv.2 q
        refine wp_iconst (v := 1) dX12_unlike_131 (by decide) ?_
        refine wp_goto 136 dX12_unlike_132 (by decide) ?_
        refine wx_istore (ls' := [(0, .ref 57), (1, .int x1), (2, .int x2), (3, .int x3), (4, .int (1 : Int32))]) dX12_unlike_136 (by decide) rfl ?_
        refine wp_aload_n (i := 0) dX12_unlike_138 rfl rfl ?_
        refine wz_getR (b := 60) dX12_unlike_139 (k57 hK) (f12_17 _ (by decide)) rfl ?_
        refine wp_iload_n (i := 1) dX12_unlike_142 rfl rfl ?_
        refine wp_iload_n (i := 2) dX12_unlike_143 rfl rfl ?_
        refine wp_iconst (v := 1) dX12_unlike_144 (by decide) ?_
        refine wp_icmp_ne 152 dX12_unlike_145 (by decide) (fun q => ?_) (fun q => ?_)
        · replace hv := hv.1 q
          refine wp_iconst (v := 0) dX12_unlike_152 (by decide) ?_
          obtain ⟨z4, hv⟩ := hv
          refine wz_bastore dX12_unlike_153 (k60 hK) z4 ?_
          refine wp_iload dX12_unlike_154 rfl ?_
          obtain ⟨rfl, rfl⟩ := hv
          exact wp_ireturn dX12_unlike_156 rfl rfl rfl hq
        · replace hv := hv.2 q
          refine wp_iconst (v := 1) dX12_unlike_148 (by decide) ?_
          refine wp_goto 153 dX12_unlike_149 (by decide) ?_
          obtain ⟨z5, hv⟩ := hv
          refine wz_bastore dX12_unlike_153 (k60 hK) z5 ?_
          refine wp_iload dX12_unlike_154 rfl ?_
          obtain ⟨rfl, rfl⟩ := hv
          exact wp_ireturn dX12_unlike_156 rfl rfl rfl hq
    · replace hv := hv.2 q
      refine wp_iload_n (i := 3) dX12_unlike_115 rfl rfl ?_
      refine wp_if_ne 122 dX12_unlike_116 (by decide) (fun q => ?_) (fun q => ?_)
      · replace hv := hv.1 q
        refine wp_aload_n (i := 0) dX12_unlike_122 rfl rfl ?_
        refine wz_getR (b := 60) dX12_unlike_123 (k57 hK) (f12_17 _ (by decide)) rfl ?_
        refine wp_iload_n (i := 1) dX12_unlike_126 rfl rfl ?_
        obtain ⟨z6, hv⟩ := hv
        refine wz_baload dX12_unlike_127 (k60 hK) z6 ?_
        refine wp_if_eq 135 dX12_unlike_128 (by decide) (fun q => ?_) (fun q => ?_)
        · replace hv := hv.1 q
          refine wp_iconst (v := 0) dX12_unlike_135 (by decide) ?_
          refine wx_istore (ls' := [(0, .ref 57), (1, .int x1), (2, .int x2), (3, .int x3), (4, .int (0 : Int32))]) dX12_unlike_136 (by decide) rfl ?_
          refine wp_aload_n (i := 0) dX12_unlike_138 rfl rfl ?_
          refine wz_getR (b := 60) dX12_unlike_139 (k57 hK) (f12_17 _ (by decide)) rfl ?_
          refine wp_iload_n (i := 1) dX12_unlike_142 rfl rfl ?_
          refine wp_iload_n (i := 2) dX12_unlike_143 rfl rfl ?_
          refine wp_iconst (v := 1) dX12_unlike_144 (by decide) ?_
          refine wp_icmp_ne 152 dX12_unlike_145 (by decide) (fun q => ?_) (fun q => ?_)
          · replace hv := hv.1 q
            refine wp_iconst (v := 0) dX12_unlike_152 (by decide) ?_
            obtain ⟨z7, hv⟩ := hv
            refine wz_bastore dX12_unlike_153 (k60 hK) z7 ?_
            refine wp_iload dX12_unlike_154 rfl ?_
            obtain ⟨rfl, rfl⟩ := hv
            exact wp_ireturn dX12_unlike_156 rfl rfl rfl hq
          · replace hv := hv.2 q
            refine wp_iconst (v := 1) dX12_unlike_148 (by decide) ?_
            refine wp_goto 153 dX12_unlike_149 (by decide) ?_
            obtain ⟨z8, hv⟩ := hv
            refine wz_bastore dX12_unlike_153 (k60 hK) z8 ?_
            refine wp_iload dX12_unlike_154 rfl ?_
            obtain ⟨rfl, rfl⟩ := hv
            exact wp_ireturn dX12_unlike_156 rfl rfl rfl hq
        · replace hv := hv.2 q
          refine wp_iconst (v := 1) dX12_unlike_131 (by decide) ?_
          refine wp_goto 136 dX12_unlike_132 (by decide) ?_
          refine wx_istore (ls' := [(0, .ref 57), (1, .int x1), (2, .int x2), (3, .int x3), (4, .int (1 : Int32))]) dX12_unlike_136 (by decide) rfl ?_
          refine wp_aload_n (i := 0) dX12_unlike_138 rfl rfl ?_
          refine wz_getR (b := 60) dX12_unlike_139 (k57 hK) (f12_17 _ (by decide)) rfl ?_
          refine wp_iload_n (i := 1) dX12_unlike_142 rfl rfl ?_
          refine wp_iload_n (i := 2) dX12_unlike_143 rfl rfl ?_
          refine wp_iconst (v := 1) dX12_unlike_144 (by decide) ?_
          refine wp_icmp_ne 152 dX12_unlike_145 (by decide) (fun q => ?_) (fun q => ?_)
          · replace hv := hv.1 q
            refine wp_iconst (v := 0) dX12_unlike_152 (by decide) ?_
            obtain ⟨z9, hv⟩ := hv
            refine wz_bastore dX12_unlike_153 (k60 hK) z9 ?_
            refine wp_iload dX12_unlike_154 rfl ?_
            obtain ⟨rfl, rfl⟩ := hv
            exact wp_ireturn dX12_unlike_156 rfl rfl rfl hq
          · replace hv := hv.2 q
            refine wp_iconst (v := 1) dX12_unlike_148 (by decide) ?_
            refine wp_goto 153 dX12_unlike_149 (by decide) ?_
            obtain ⟨z10, hv⟩ := hv
            refine wz_bastore dX12_unlike_153 (k60 hK) z10 ?_
            refine wp_iload dX12_unlike_154 rfl ?_
            obtain ⟨rfl, rfl⟩ := hv
            exact wp_ireturn dX12_unlike_156 rfl rfl rfl hq
      · replace hv := hv.2 q
        refine wp_bipush (v := -5) dX12_unlike_119 (by decide) ?_
        obtain ⟨rfl, rfl⟩ := hv
        exact wp_ireturn dX12_unlike_121 rfl rfl rfl hq
  · replace hv := hv.2 q
    refine wp_iconst (v := 0) dX12_unlike_33 (by decide) ?_
    refine wx_istore (ls' := [(0, .ref 57), (1, .int x1), (2, .int x2), (3, .int x3), (4, .int x4), (5, .int (0 : Int32))]) dX12_unlike_34 (by decide) rfl ?_
    exact hv Q hq
theorem wX12_unlike_36 {x1 : Int32} {x2 : Int32} {x3 : Int32} {x4 : Int32} {x5 : Int32} (hK : StK K)  (hv : ((x4 ≤ x5 → Ev G (d + 1) mX12_unlike 24 [(0, .ref 57), (1, .int x1), (2, .int x2), (3, .int x3), (4, .int (x4 + 1))] (K, n, V, J, O) r (K, n, V', J, O)) ∧ (¬ x4 ≤ x5 → ((x3 = 0 → Ev G (d + 1) mX12_unlike 36 [(0, .ref 57), (1, .int x1), (2, .int x2), (3, .int (0 : Int32)), (4, .int x4), (5, .int (x5 + 1))] (K, n, V, J, O) r (K, n, V', J, O)) ∧ (¬ x3 = 0 → (vp_in x4 80 ∧ (((V 59 (x4).toNatClampNeg) = 0 → Ev G (d + 1) mX12_unlike 36 [(0, .ref 57), (1, .int x1), (2, .int x2), (3, .int (1 : Int32)), (4, .int x4), (5, .int (x5 + 1))] (K, n, V, J, O) r (K, n, V', J, O)) ∧ (¬ (V 59 (x4).toNatClampNeg) = 0 → (vp_in x5 80 ∧ (((V 59 (x5).toNatClampNeg) = 0 → Ev G (d + 1) mX12_unlike 36 [(0, .ref 57), (1, .int x1), (2, .int x2), (3, .int (1 : Int32)), (4, .int x4), (5, .int (x5 + 1))] (K, n, V, J, O) r (K, n, V', J, O)) ∧ (¬ (V 59 (x5).toNatClampNeg) = 0 → (vp_in (((4 : Int32) * x4) + x1) 320 ∧ (vp_in (((4 : Int32) * x5) + x1) 320 ∧ (((V 58 ((((4 : Int32) * x4) + x1)).toNatClampNeg) = (V 58 ((((4 : Int32) * x5) + x1)).toNatClampNeg) → Ev G (d + 1) mX12_unlike 36 [(0, .ref 57), (1, .int x1), (2, .int x2), (3, .int (0 : Int32)), (4, .int x4), (5, .int (x5 + 1))] (K, n, V, J, O) r (K, n, V', J, O)) ∧ (¬ (V 58 ((((4 : Int32) * x4) + x1)).toNatClampNeg) = (V 58 ((((4 : Int32) * x5) + x1)).toNatClampNeg) → Ev G (d + 1) mX12_unlike 36 [(0, .ref 57), (1, .int x1), (2, .int x2), (3, .int (1 : Int32)), (4, .int x4), (5, .int (x5 + 1))] (K, n, V, J, O) r (K, n, V', J, O)))))))))))))))) : Ev G (d + 1) mX12_unlike 36 [(0, .ref 57), (1, .int x1), (2, .int x2), (3, .int x3), (4, .int x4), (5, .int x5)] (K, n, V, J, O) r (K, n, V', J, O) := by
  refine Ev.mk fun Q hq => ?_
  refine wp_iload dX12_unlike_36 rfl ?_
  refine wp_iload dX12_unlike_38 rfl ?_
  refine wp_icmp_ge 104 dX12_unlike_40 (by decide) (fun q => ?_) (fun q => ?_)
  · replace hv := hv.1 q
    refine wx_iinc (v := 1) (ls' := [(0, .ref 57), (1, .int x1), (2, .int x2), (3, .int x3), (4, .int (x4 + 1)), (5, .int x5)]) dX12_unlike_104 rfl (by decide) (by decide) rfl ?_
    refine wp_goto 24 dX12_unlike_107 (by decide) ?_
    refine wx_sub (ls' := [(0, .ref 57), (1, .int x1), (2, .int x2), (3, .int x3), (4, .int (x4 + 1))]) [0, 1, 2, 3, 4] rfl ?_
    exact hv Q hq
  · replace hv := hv.2 q
    refine wp_iload_n (i := 3) dX12_unlike_43 rfl rfl ?_
    refine wp_if_eq 96 dX12_unlike_44 (by decide) (fun q => ?_) (fun q => ?_)
    · replace hv := hv.1 q
      refine wp_iconst (v := 0) dX12_unlike_96 (by decide) ?_
      refine wx_istore_n (ls' := [(0, .ref 57), (1, .int x1), (2, .int x2), (3, .int (0 : Int32)), (4, .int x4), (5, .int x5)]) (i := 3) dX12_unlike_97 rfl (by decide) rfl ?_
      refine wx_iinc (v := 1) (ls' := [(0, .ref 57), (1, .int x1), (2, .int x2), (3, .int (0 : Int32)), (4, .int x4), (5, .int (x5 + 1))]) dX12_unlike_98 rfl (by decide) (by decide) rfl ?_
      refine wp_goto 36 dX12_unlike_101 (by decide) ?_
      exact hv Q hq
    · replace hv := hv.2 q
      refine wp_aload_n (i := 0) dX12_unlike_47 rfl rfl ?_
      refine wz_getR (b := 59) dX12_unlike_48 (k57 hK) (f12_13 _ (by decide)) rfl ?_
      refine wp_iload dX12_unlike_51 rfl ?_
      obtain ⟨z1, hv⟩ := hv
      refine wz_baload dX12_unlike_53 (k59 hK) z1 ?_
      refine wp_if_eq 92 dX12_unlike_54 (by decide) (fun q => ?_) (fun q => ?_)
      · replace hv := hv.1 q
        refine wp_iconst (v := 1) dX12_unlike_92 (by decide) ?_
        refine wp_goto 97 dX12_unlike_93 (by decide) ?_
        refine wx_istore_n (ls' := [(0, .ref 57), (1, .int x1), (2, .int x2), (3, .int (1 : Int32)), (4, .int x4), (5, .int x5)]) (i := 3) dX12_unlike_97 rfl (by decide) rfl ?_
        refine wx_iinc (v := 1) (ls' := [(0, .ref 57), (1, .int x1), (2, .int x2), (3, .int (1 : Int32)), (4, .int x4), (5, .int (x5 + 1))]) dX12_unlike_98 rfl (by decide) (by decide) rfl ?_
        refine wp_goto 36 dX12_unlike_101 (by decide) ?_
        exact hv Q hq
      · replace hv := hv.2 q
        refine wp_aload_n (i := 0) dX12_unlike_57 rfl rfl ?_
        refine wz_getR (b := 59) dX12_unlike_58 (k57 hK) (f12_13 _ (by decide)) rfl ?_
        refine wp_iload dX12_unlike_61 rfl ?_
        obtain ⟨z2, hv⟩ := hv
        refine wz_baload dX12_unlike_63 (k59 hK) z2 ?_
        refine wp_if_eq 92 dX12_unlike_64 (by decide) (fun q => ?_) (fun q => ?_)
        · replace hv := hv.1 q
          refine wp_iconst (v := 1) dX12_unlike_92 (by decide) ?_
          refine wp_goto 97 dX12_unlike_93 (by decide) ?_
          refine wx_istore_n (ls' := [(0, .ref 57), (1, .int x1), (2, .int x2), (3, .int (1 : Int32)), (4, .int x4), (5, .int x5)]) (i := 3) dX12_unlike_97 rfl (by decide) rfl ?_
          refine wx_iinc (v := 1) (ls' := [(0, .ref 57), (1, .int x1), (2, .int x2), (3, .int (1 : Int32)), (4, .int x4), (5, .int (x5 + 1))]) dX12_unlike_98 rfl (by decide) (by decide) rfl ?_
          refine wp_goto 36 dX12_unlike_101 (by decide) ?_
          exact hv Q hq
        · replace hv := hv.2 q
          refine wp_aload_n (i := 0) dX12_unlike_67 rfl rfl ?_
          refine wz_getR (b := 58) dX12_unlike_68 (k57 hK) (f12_9 _ (by decide)) rfl ?_
          refine wp_iconst (v := 4) dX12_unlike_71 (by decide) ?_
          refine wp_iload dX12_unlike_72 rfl ?_
          refine wp_imul dX12_unlike_74 ?_
          refine wp_iload_n (i := 1) dX12_unlike_75 rfl rfl ?_
          refine wp_iadd dX12_unlike_76 ?_
          obtain ⟨z3, hv⟩ := hv
          refine wz_iaload dX12_unlike_77 (k58 hK) z3 ?_
          refine wp_aload_n (i := 0) dX12_unlike_78 rfl rfl ?_
          refine wz_getR (b := 58) dX12_unlike_79 (k57 hK) (f12_9 _ (by decide)) rfl ?_
          refine wp_iconst (v := 4) dX12_unlike_82 (by decide) ?_
          refine wp_iload dX12_unlike_83 rfl ?_
          refine wp_imul dX12_unlike_85 ?_
          refine wp_iload_n (i := 1) dX12_unlike_86 rfl rfl ?_
          refine wp_iadd dX12_unlike_87 ?_
          obtain ⟨z4, hv⟩ := hv
          refine wz_iaload dX12_unlike_88 (k58 hK) z4 ?_
          refine wp_icmp_eq 96 dX12_unlike_89 (by decide) (fun q => ?_) (fun q => ?_)
          · replace hv := hv.1 q
            refine wp_iconst (v := 0) dX12_unlike_96 (by decide) ?_
            refine wx_istore_n (ls' := [(0, .ref 57), (1, .int x1), (2, .int x2), (3, .int (0 : Int32)), (4, .int x4), (5, .int x5)]) (i := 3) dX12_unlike_97 rfl (by decide) rfl ?_
            refine wx_iinc (v := 1) (ls' := [(0, .ref 57), (1, .int x1), (2, .int x2), (3, .int (0 : Int32)), (4, .int x4), (5, .int (x5 + 1))]) dX12_unlike_98 rfl (by decide) (by decide) rfl ?_
            refine wp_goto 36 dX12_unlike_101 (by decide) ?_
            exact hv Q hq
          · replace hv := hv.2 q
            refine wp_iconst (v := 1) dX12_unlike_92 (by decide) ?_
            refine wp_goto 97 dX12_unlike_93 (by decide) ?_
            refine wx_istore_n (ls' := [(0, .ref 57), (1, .int x1), (2, .int x2), (3, .int (1 : Int32)), (4, .int x4), (5, .int x5)]) (i := 3) dX12_unlike_97 rfl (by decide) rfl ?_
            refine wx_iinc (v := 1) (ls' := [(0, .ref 57), (1, .int x1), (2, .int x2), (3, .int (1 : Int32)), (4, .int x4), (5, .int (x5 + 1))]) dX12_unlike_98 rfl (by decide) (by decide) rfl ?_
            refine wp_goto 36 dX12_unlike_101 (by decide) ?_
            exact hv Q hq
theorem wX12_most_0 {x1 : Int32} {x2 : Int32} (hK : StK K)  (hv : (∃ (v1 : Int32), Ev G d mX12_isField 0 [(0, .int x1)] (K, n, V, J, O) (some (.int v1)) (K, n, V, J, O) ∧ ((v1 = 0 → (r = some (.int (-2000000000 : Int32)) ∧ V' = V)) ∧ (¬ v1 = 0 → (∃ (v2 : Int32), Ev G d mX12_within 0 [(0, .long x2.toInt64), (2, .long (-1 : Int64)), (4, .long (9999 : Int64))] (K, n, V, J, O) (some (.int v2)) (K, n, V, J, O) ∧ ((v2 ≠ 0 → ((x2 < 0 → (vp_in x1 4 ∧ (vp_in x1 4 ∧ (r = some (.int (V 61 (x1).toNatClampNeg)) ∧ V' = (up2 V 61 (x1).toNatClampNeg x2))))) ∧ (¬ x2 < 0 → (∃ (v5 : Int32), Ev G d mX12_sumOf 0 [(0, .ref 57), (1, .int x1)] (K, n, V, J, O) (some (.int v5)) (K, n, V, J, O) ∧ ((v5 ≤ x2 → (vp_in x1 4 ∧ (vp_in x1 4 ∧ (r = some (.int (V 61 (x1).toNatClampNeg)) ∧ V' = (up2 V 61 (x1).toNatClampNeg x2))))) ∧ (¬ v5 ≤ x2 → (r = some (.int (-2 : Int32)) ∧ V' = V))))))) ∧ (v2 = 0 → (r = some (.int (-2000000000 : Int32)) ∧ V' = V)))))))) : Ev G (d + 1) mX12_most 0 [(0, .ref 57), (1, .int x1), (2, .int x2)] (K, n, V, J, O) r (K, n, V', J, O) := by
  refine Ev.mk fun Q hq => ?_
  refine wp_iload_n (i := 1) dX12_most_0 rfl rfl ?_
  obtain ⟨v1, hE, hv⟩ := hv
  refine wz_callS (vs := [.int x1]) (st := []) dX12_most_1 k12_168 hE rfl (Nat.le_of_ble_eq_true rfl) (Nat.le_of_ble_eq_true rfl) ?_
  change wp _ _ _ _ _ [.int v1] _ _ _
  refine wp_if_eq 21 dX12_most_4 (by decide) (fun q => ?_) (fun q => ?_)
  · replace hv := hv.1 q
    refine wp_ldc (v := -2000000000) dX12_most_21 q12_175 ?_
    obtain ⟨rfl, rfl⟩ := hv
    exact wp_ireturn dX12_most_23 rfl rfl rfl hq
  · replace hv := hv.2 q
    refine wp_iload_n (i := 2) dX12_most_7 rfl rfl ?_
    refine wp_i2l dX12_most_8 ?_
    refine wp_ldc2 (v := -1) dX12_most_9 q12_171 ?_
    refine wp_ldc2 (v := 9999) dX12_most_12 q12_173 ?_
    obtain ⟨v2, hE, hv⟩ := hv
    refine wz_callS (vs := [.long x2.toInt64, .long (-1 : Int64), .long (9999 : Int64)]) (st := []) dX12_most_15 k12_135 hE rfl (Nat.le_of_ble_eq_true rfl) (Nat.le_of_ble_eq_true rfl) ?_
    change wp _ _ _ _ _ [.int v2] _ _ _
    refine wp_if_ne 24 dX12_most_18 (by decide) (fun q => ?_) (fun q => ?_)
    · replace hv := hv.1 q
      refine wp_iload_n (i := 2) dX12_most_24 rfl rfl ?_
      refine wp_if_lt 40 dX12_most_25 (by decide) (fun q => ?_) (fun q => ?_)
      · replace hv := hv.1 q
        refine wp_aload_n (i := 0) dX12_most_40 rfl rfl ?_
        refine wz_getR (b := 61) dX12_most_41 (k57 hK) (f12_20 _ (by decide)) rfl ?_
        refine wp_iload_n (i := 1) dX12_most_44 rfl rfl ?_
        obtain ⟨z3, hv⟩ := hv
        refine wz_iaload dX12_most_45 (k61 hK) z3 ?_
        refine wx_istore_n (ls' := [(0, .ref 57), (1, .int x1), (2, .int x2), (3, .int (V 61 (x1).toNatClampNeg))]) (i := 3) dX12_most_46 rfl (by decide) rfl ?_
        refine wp_aload_n (i := 0) dX12_most_47 rfl rfl ?_
        refine wz_getR (b := 61) dX12_most_48 (k57 hK) (f12_20 _ (by decide)) rfl ?_
        refine wp_iload_n (i := 1) dX12_most_51 rfl rfl ?_
        refine wp_iload_n (i := 2) dX12_most_52 rfl rfl ?_
        obtain ⟨z4, hv⟩ := hv
        refine wz_iastore dX12_most_53 (k61 hK) z4 ?_
        refine wp_iload_n (i := 3) dX12_most_54 rfl rfl ?_
        obtain ⟨rfl, rfl⟩ := hv
        exact wp_ireturn dX12_most_55 rfl rfl rfl hq
      · replace hv := hv.2 q
        refine wp_aload_n (i := 0) dX12_most_28 rfl rfl ?_
        refine wp_iload_n (i := 1) dX12_most_29 rfl rfl ?_
        obtain ⟨v5, hE, hv⟩ := hv
        refine wz_callV (vs := [.int x1]) (st := []) dX12_most_30 (k57 hK) rfl k12_141_12 hE rfl (Nat.le_of_ble_eq_true rfl) (Nat.le_of_ble_eq_true rfl) ?_
        change wp _ _ _ _ _ [.int v5] _ _ _
        refine wp_iload_n (i := 2) dX12_most_33 rfl rfl ?_
        refine wp_icmp_le 40 dX12_most_34 (by decide) (fun q => ?_) (fun q => ?_)
        · replace hv := hv.1 q
          refine wp_aload_n (i := 0) dX12_most_40 rfl rfl ?_
          refine wz_getR (b := 61) dX12_most_41 (k57 hK) (f12_20 _ (by decide)) rfl ?_
          refine wp_iload_n (i := 1) dX12_most_44 rfl rfl ?_
          obtain ⟨z6, hv⟩ := hv
          refine wz_iaload dX12_most_45 (k61 hK) z6 ?_
          refine wx_istore_n (ls' := [(0, .ref 57), (1, .int x1), (2, .int x2), (3, .int (V 61 (x1).toNatClampNeg))]) (i := 3) dX12_most_46 rfl (by decide) rfl ?_
          refine wp_aload_n (i := 0) dX12_most_47 rfl rfl ?_
          refine wz_getR (b := 61) dX12_most_48 (k57 hK) (f12_20 _ (by decide)) rfl ?_
          refine wp_iload_n (i := 1) dX12_most_51 rfl rfl ?_
          refine wp_iload_n (i := 2) dX12_most_52 rfl rfl ?_
          obtain ⟨z7, hv⟩ := hv
          refine wz_iastore dX12_most_53 (k61 hK) z7 ?_
          refine wp_iload_n (i := 3) dX12_most_54 rfl rfl ?_
          obtain ⟨rfl, rfl⟩ := hv
          exact wp_ireturn dX12_most_55 rfl rfl rfl hq
        · replace hv := hv.2 q
          refine wp_bipush (v := -2) dX12_most_37 (by decide) ?_
          obtain ⟨rfl, rfl⟩ := hv
          exact wp_ireturn dX12_most_39 rfl rfl rfl hq
    · replace hv := hv.2 q
      refine wp_ldc (v := -2000000000) dX12_most_21 q12_175 ?_
      obtain ⟨rfl, rfl⟩ := hv
      exact wp_ireturn dX12_most_23 rfl rfl rfl hq
theorem wX12_feed_0 {x1 : Int32} {x2 : Int32} (hK : StK K)  (hv : (∃ (v1 : Int32), Ev G d mX12_within 0 [(0, .long x1.toInt64), (2, .long (1 : Int64)), (4, .long (4 : Int64))] (K, n, V, J, O) (some (.int v1)) (K, n, V, J, O) ∧ ((v1 ≠ 0 → ((((V 57 6) + x1) ≤ (60 : Int32) → Ev G (d + 1) mX12_feed 30 [(0, .ref 57), (1, .int x1), (2, .int x2), (3, .int (0 : Int32))] (K, n, V, J, O) r (K, n, V', J, O)) ∧ (¬ ((V 57 6) + x1) ≤ (60 : Int32) → (r = some (.int (-3 : Int32)) ∧ V' = V)))) ∧ (v1 = 0 → (r = some (.int (-1 : Int32)) ∧ V' = V))))) : Ev G (d + 1) mX12_feed 0 [(0, .ref 57), (1, .int x1), (2, .int x2)] (K, n, V, J, O) r (K, n, V', J, O) := by
  refine Ev.mk fun Q hq => ?_
  refine wp_iload_n (i := 1) dX12_feed_0 rfl rfl ?_
  refine wp_i2l dX12_feed_1 ?_
  refine wp_lconst (v := 1) dX12_feed_2 (by decide) ?_
  refine wp_ldc2 (v := 4) dX12_feed_3 q12_166 ?_
  obtain ⟨v1, hE, hv⟩ := hv
  refine wz_callS (vs := [.long x1.toInt64, .long (1 : Int64), .long (4 : Int64)]) (st := []) dX12_feed_6 k12_135 hE rfl (Nat.le_of_ble_eq_true rfl) (Nat.le_of_ble_eq_true rfl) ?_
  change wp _ _ _ _ _ [.int v1] _ _ _
  refine wp_if_ne 14 dX12_feed_9 (by decide) (fun q => ?_) (fun q => ?_)
  · replace hv := hv.1 q
    refine wp_aload_n (i := 0) dX12_feed_14 rfl rfl ?_
    refine wz_getI dX12_feed_15 (k57 hK) (f12_176 _ (by decide)) rfl ?_
    refine wp_iload_n (i := 1) dX12_feed_18 rfl rfl ?_
    refine wp_iadd dX12_feed_19 ?_
    refine wp_bipush (v := 60) dX12_feed_20 (by decide) ?_
    refine wp_icmp_le 28 dX12_feed_22 (by decide) (fun q => ?_) (fun q => ?_)
    · replace hv := hv.1 q
      refine wp_iconst (v := 0) dX12_feed_28 (by decide) ?_
      refine wx_istore_n (ls' := [(0, .ref 57), (1, .int x1), (2, .int x2), (3, .int (0 : Int32))]) (i := 3) dX12_feed_29 rfl (by decide) rfl ?_
      exact hv Q hq
    · replace hv := hv.2 q
      refine wp_bipush (v := -3) dX12_feed_25 (by decide) ?_
      obtain ⟨rfl, rfl⟩ := hv
      exact wp_ireturn dX12_feed_27 rfl rfl rfl hq
  · replace hv := hv.2 q
    refine wp_iconst (v := -1) dX12_feed_12 (by decide) ?_
    obtain ⟨rfl, rfl⟩ := hv
    exact wp_ireturn dX12_feed_13 rfl rfl rfl hq
theorem wX12_feed_30 {x1 : Int32} {x2 : Int32} {x3 : Int32} (hK : StK K)  (hv : ((x1 ≤ x3 → (r = some (.int (V 57 6)) ∧ V' = V)) ∧ (¬ x1 ≤ x3 → (vp_in (V 57 6) 60 ∧ Ev G (d + 1) mX12_feed 30 [(0, .ref 57), (1, .int x1), (2, .int x2), (3, .int (x3 + 1))] (K, n, (up2 (up2 V 62 ((V 57 6)).toNatClampNeg ((x2 >>> (((8 : Int32) * x3) &&& 31)) &&& (255 : Int32))) 57 6 ((V 57 6) + (1 : Int32))), J, O) r (K, n, V', J, O))))) : Ev G (d + 1) mX12_feed 30 [(0, .ref 57), (1, .int x1), (2, .int x2), (3, .int x3)] (K, n, V, J, O) r (K, n, V', J, O) := by
  refine Ev.mk fun Q hq => ?_
  refine wp_iload_n (i := 3) dX12_feed_30 rfl rfl ?_
  refine wp_iload_n (i := 1) dX12_feed_31 rfl rfl ?_
  refine wp_icmp_ge 70 dX12_feed_32 (by decide) (fun q => ?_) (fun q => ?_)
  · replace hv := hv.1 q
    refine wp_aload_n (i := 0) dX12_feed_70 rfl rfl ?_
    refine wz_getI dX12_feed_71 (k57 hK) (f12_176 _ (by decide)) rfl ?_
    obtain ⟨rfl, rfl⟩ := hv
    exact wp_ireturn dX12_feed_74 rfl rfl rfl hq
  · replace hv := hv.2 q
    refine wp_aload_n (i := 0) dX12_feed_35 rfl rfl ?_
    refine wz_getR (b := 62) dX12_feed_36 (k57 hK) (f12_23 _ (by decide)) rfl ?_
    refine wp_aload_n (i := 0) dX12_feed_39 rfl rfl ?_
    refine wz_getI dX12_feed_40 (k57 hK) (f12_176 _ (by decide)) rfl ?_
    refine wp_iload_n (i := 2) dX12_feed_43 rfl rfl ?_
    refine wp_bipush (v := 8) dX12_feed_44 (by decide) ?_
    refine wp_iload_n (i := 3) dX12_feed_46 rfl rfl ?_
    refine wp_imul dX12_feed_47 ?_
    refine wp_ishr dX12_feed_48 ?_
    refine wp_sipush (v := 255) dX12_feed_49 (by decide) ?_
    refine wp_iand dX12_feed_52 ?_
    obtain ⟨z1, hv⟩ := hv
    refine wz_iastore dX12_feed_53 (k62 hK) z1 ?_
    refine wp_aload_n (i := 0) dX12_feed_54 rfl rfl ?_
    refine wp_dupR dX12_feed_55 ?_
    refine wz_getIe (v := (V 57 6)) dX12_feed_56 (k57 hK) (f12_176 _ (by decide)) rfl (up2_a (by decide)) ?_
    refine wp_iconst (v := 1) dX12_feed_59 (by decide) ?_
    refine wp_iadd dX12_feed_60 ?_
    refine wz_putI dX12_feed_61 (k57 hK) (w12_176 _ (by decide)) rfl ?_
    refine wx_iinc (v := 1) (ls' := [(0, .ref 57), (1, .int x1), (2, .int x2), (3, .int (x3 + 1))]) dX12_feed_64 rfl (by decide) (by decide) rfl ?_
    refine wp_goto 30 dX12_feed_67 (by decide) ?_
    exact hv Q hq
theorem wX12_byteAt_0  (hK : StK K)  (hv : (((V 57 6) ≤ (V 57 26) → r = some (.int (-1 : Int32))) ∧ (¬ (V 57 6) ≤ (V 57 26) → (vp_in (V 57 26) 60 ∧ r = some (.int (V 62 ((V 57 26)).toNatClampNeg)))))) : Ev G d mX12_byteAt 0 [(0, .ref 57)] (K, n, V, J, O) r (K, n, V, J, O) := by
  refine Ev.mk fun Q hq => ?_
  refine wp_aload_n (i := 0) dX12_byteAt_0 rfl rfl ?_
  refine wz_getI dX12_byteAt_1 (k57 hK) (f12_179 _ (by decide)) rfl ?_
  refine wp_aload_n (i := 0) dX12_byteAt_4 rfl rfl ?_
  refine wz_getI dX12_byteAt_5 (k57 hK) (f12_176 _ (by decide)) rfl ?_
  refine wp_icmp_ge 23 dX12_byteAt_8 (by decide) (fun q => ?_) (fun q => ?_)
  · replace hv := hv.1 q
    refine wp_iconst (v := -1) dX12_byteAt_23 (by decide) ?_
    obtain rfl := hv
    exact wp_ireturn dX12_byteAt_24 rfl rfl rfl hq
  · replace hv := hv.2 q
    refine wp_aload_n (i := 0) dX12_byteAt_11 rfl rfl ?_
    refine wz_getR (b := 62) dX12_byteAt_12 (k57 hK) (f12_23 _ (by decide)) rfl ?_
    refine wp_aload_n (i := 0) dX12_byteAt_15 rfl rfl ?_
    refine wz_getI dX12_byteAt_16 (k57 hK) (f12_179 _ (by decide)) rfl ?_
    obtain ⟨z1, hv⟩ := hv
    refine wz_iaload dX12_byteAt_19 (k62 hK) z1 ?_
    refine wp_goto 24 dX12_byteAt_20 (by decide) ?_
    obtain rfl := hv
    exact wp_ireturn dX12_byteAt_24 rfl rfl rfl hq
theorem wX12_isFieldSign_0 {x0 : Int32} (hK : StK K)  (hv : (∃ (v1 : Int32), Ev G d mX12_within 0 [(0, .long x0.toInt64), (2, .long (48 : Int64)), (4, .long (51 : Int64))] (K, n, V, J, O) (some (.int v1)) (K, n, V, J, O) ∧ ((v1 = 0 ∨ v1 = 1) ∧ r = some (.int v1)))) : Ev G (d + 1) mX12_isFieldSign 0 [(0, .int x0)] (K, n, V, J, O) r (K, n, V, J, O) := by
  refine Ev.mk fun Q hq => ?_
  refine wp_iload_n (i := 0) dX12_isFieldSign_0 rfl rfl ?_
  refine wp_i2l dX12_isFieldSign_1 ?_
  refine wp_ldc2 (v := 48) dX12_isFieldSign_2 q12_182 ?_
  refine wp_ldc2 (v := 51) dX12_isFieldSign_5 q12_184 ?_
  obtain ⟨v1, hE, hv⟩ := hv
  refine wz_callS (vs := [.long x0.toInt64, .long (48 : Int64), .long (51 : Int64)]) (st := []) dX12_isFieldSign_8 k12_135 hE rfl (Nat.le_of_ble_eq_true rfl) (Nat.le_of_ble_eq_true rfl) ?_
  change wp _ _ _ _ _ [.int v1] _ _ _
  obtain ⟨z, hv⟩ := hv
  obtain rfl := hv
  exact wp_ireturn dX12_isFieldSign_11 rfl (by rcases z with z | z <;> rw [z] <;> decide) rfl hq
theorem wX12_readOne_0 {x1 : Int32} (hK : StK K)  (hv : (∃ (v1 : Int32), Ev G d mX12_byteAt 0 [(0, .ref 57)] (K, n, V, J, O) (some (.int v1)) (K, n, V, J, O) ∧ (∃ (v2 : Int32), Ev G d mX12_isFieldSign 0 [(0, .int v1)] (K, n, V, J, O) (some (.int v2)) (K, n, V, J, O) ∧ ((v2 ≠ 0 → (∃ (v3 : Int32), Ev G d mX12_byteAt 0 [(0, .ref 57)] (K, n, V, J, O) (some (.int v3)) (K, n, V, J, O) ∧ (vp_in x1 160 ∧ (∃ (v5 : Int32), Ev G d mX12_byteAt 0 [(0, .ref 57)] (K, n, (up2 (up2 V 63 (x1).toNatClampNeg (v3 - (48 : Int32))) 57 26 ((V 57 26) + (1 : Int32))), J, O) (some (.int v5)) (K, n, (up2 (up2 V 63 (x1).toNatClampNeg (v3 - (48 : Int32))) 57 26 ((V 57 26) + (1 : Int32))), J, O) ∧ ((v5 = (61 : Int32) → Ev G (d + 1) mX12_readOne 60 [(0, .ref 57), (1, .int x1), (2, .int v5)] (K, n, (up2 (up2 V 63 (x1).toNatClampNeg (v3 - (48 : Int32))) 57 26 ((V 57 26) + (1 : Int32))), J, O) r (K, n, V', J, O)) ∧ (¬ v5 = (61 : Int32) → ((v5 = (60 : Int32) → Ev G (d + 1) mX12_readOne 60 [(0, .ref 57), (1, .int x1), (2, .int v5)] (K, n, (up2 (up2 V 63 (x1).toNatClampNeg (v3 - (48 : Int32))) 57 26 ((V 57 26) + (1 : Int32))), J, O) r (K, n, V', J, O)) ∧ (¬ v5 = (60 : Int32) → ((v5 = (62 : Int32) → Ev G (d + 1) mX12_readOne 60 [(0, .ref 57), (1, .int x1), (2, .int v5)] (K, n, (up2 (up2 V 63 (x1).toNatClampNeg (v3 - (48 : Int32))) 57 26 ((V 57 26) + (1 : Int32))), J, O) r (K, n, V', J, O)) ∧ (¬ v5 = (62 : Int32) → (r = some (.int (0 : Int32)) ∧ V' = (up2 (up2 V 63 (x1).toNatClampNeg (v3 - (48 : Int32))) 57 26 ((V 57 26) + (1 : Int32)))))))))))))) ∧ (v2 = 0 → (r = some (.int (0 : Int32)) ∧ V' = V)))))) : Ev G (d + 1) mX12_readOne 0 [(0, .ref 57), (1, .int x1)] (K, n, V, J, O) r (K, n, V', J, O) := by
  refine Ev.mk fun Q hq => ?_
  refine wp_aload_n (i := 0) dX12_readOne_0 rfl rfl ?_
  obtain ⟨v1, hE, hv⟩ := hv
  refine wz_callV (vs := []) (st := []) dX12_readOne_1 (k57 hK) rfl k12_186_12 hE rfl (Nat.le_of_ble_eq_true rfl) (Nat.le_of_ble_eq_true rfl) ?_
  change wp _ _ _ _ _ [.int v1] _ _ _
  obtain ⟨v2, hE, hv⟩ := hv
  refine wz_callS (vs := [.int v1]) (st := []) dX12_readOne_4 k12_190 hE rfl (Nat.le_of_ble_eq_true rfl) (Nat.le_of_ble_eq_true rfl) ?_
  change wp _ _ _ _ _ [.int v2] _ _ _
  refine wp_if_ne 12 dX12_readOne_7 (by decide) (fun q => ?_) (fun q => ?_)
  · replace hv := hv.1 q
    refine wp_aload_n (i := 0) dX12_readOne_12 rfl rfl ?_
    refine wz_getR (b := 63) dX12_readOne_13 (k57 hK) (f12_26 _ (by decide)) rfl ?_
    refine wp_iload_n (i := 1) dX12_readOne_16 rfl rfl ?_
    refine wp_aload_n (i := 0) dX12_readOne_17 rfl rfl ?_
    obtain ⟨v3, hE, hv⟩ := hv
    refine wz_callV (vs := []) (st := [.int x1, .ref 63]) dX12_readOne_18 (k57 hK) rfl k12_186_12 hE rfl (Nat.le_of_ble_eq_true rfl) (Nat.le_of_ble_eq_true rfl) ?_
    change wp _ _ _ _ _ [.int v3, .int x1, .ref 63] _ _ _
    refine wp_bipush (v := 48) dX12_readOne_21 (by decide) ?_
    refine wp_isub dX12_readOne_23 ?_
    obtain ⟨z4, hv⟩ := hv
    refine wz_iastore dX12_readOne_24 (k63 hK) z4 ?_
    refine wp_aload_n (i := 0) dX12_readOne_25 rfl rfl ?_
    refine wp_dupR dX12_readOne_26 ?_
    refine wz_getIe (v := (V 57 26)) dX12_readOne_27 (k57 hK) (f12_179 _ (by decide)) rfl (up2_a (by decide)) ?_
    refine wp_iconst (v := 1) dX12_readOne_30 (by decide) ?_
    refine wp_iadd dX12_readOne_31 ?_
    refine wz_putI dX12_readOne_32 (k57 hK) (w12_179 _ (by decide)) rfl ?_
    refine wp_aload_n (i := 0) dX12_readOne_35 rfl rfl ?_
    obtain ⟨v5, hE, hv⟩ := hv
    refine wz_callV (vs := []) (st := []) dX12_readOne_36 (k57 hK) rfl k12_186_12 hE rfl (Nat.le_of_ble_eq_true rfl) (Nat.le_of_ble_eq_true rfl) ?_
    change wp _ _ _ _ _ [.int v5] _ _ _
    refine wx_istore_n (ls' := [(0, .ref 57), (1, .int x1), (2, .int v5)]) (i := 2) dX12_readOne_39 rfl (by decide) rfl ?_
    refine wp_iload_n (i := 2) dX12_readOne_40 rfl rfl ?_
    refine wp_bipush (v := 61) dX12_readOne_41 (by decide) ?_
    refine wp_icmp_eq 60 dX12_readOne_43 (by decide) (fun q => ?_) (fun q => ?_)
    · replace hv := hv.1 q
      exact hv Q hq
    · replace hv := hv.2 q
      refine wp_iload_n (i := 2) dX12_readOne_46 rfl rfl ?_
      refine wp_bipush (v := 60) dX12_readOne_47 (by decide) ?_
      refine wp_icmp_eq 60 dX12_readOne_49 (by decide) (fun q => ?_) (fun q => ?_)
      · replace hv := hv.1 q
        exact hv Q hq
      · replace hv := hv.2 q
        refine wp_iload_n (i := 2) dX12_readOne_52 rfl rfl ?_
        refine wp_bipush (v := 62) dX12_readOne_53 (by decide) ?_
        refine wp_icmp_eq 60 dX12_readOne_55 (by decide) (fun q => ?_) (fun q => ?_)
        · replace hv := hv.1 q
          exact hv Q hq
        · replace hv := hv.2 q
          refine wp_iconst (v := 0) dX12_readOne_58 (by decide) ?_
          obtain ⟨rfl, rfl⟩ := hv
          exact wp_ireturn dX12_readOne_59 rfl (by decide) rfl hq
  · replace hv := hv.2 q
    refine wp_iconst (v := 0) dX12_readOne_10 (by decide) ?_
    obtain ⟨rfl, rfl⟩ := hv
    exact wp_ireturn dX12_readOne_11 rfl (by decide) rfl hq
theorem wX12_readOne_60 {x1 : Int32} {x2 : Int32} (hK : StK K)  (hv : (vp_in x1 160 ∧ (∃ (v2 : Int32), Ev G d mX12_byteAt 0 [(0, .ref 57)] (K, n, (up2 (up2 V 64 (x1).toNatClampNeg x2) 57 26 ((V 57 26) + (1 : Int32))), J, O) (some (.int v2)) (K, n, (up2 (up2 V 64 (x1).toNatClampNeg x2) 57 26 ((V 57 26) + (1 : Int32))), J, O) ∧ ((v2 = (97 : Int32) → Ev G (d + 1) mX12_readOne 94 [(0, .ref 57), (1, .int x1), (2, .int v2)] (K, n, (up2 (up2 V 64 (x1).toNatClampNeg x2) 57 26 ((V 57 26) + (1 : Int32))), J, O) r (K, n, V', J, O)) ∧ (¬ v2 = (97 : Int32) → ((v2 ≠ (98 : Int32) → Ev G (d + 1) mX12_readOne 124 [(0, .ref 57), (1, .int x1), (2, .int v2), (3, .int (0 : Int32)), (4, .int (0 : Int32))] (K, n, (up2 (up2 V 64 (x1).toNatClampNeg x2) 57 26 ((V 57 26) + (1 : Int32))), J, O) r (K, n, V', J, O)) ∧ (v2 = (98 : Int32) → Ev G (d + 1) mX12_readOne 94 [(0, .ref 57), (1, .int x1), (2, .int v2)] (K, n, (up2 (up2 V 64 (x1).toNatClampNeg x2) 57 26 ((V 57 26) + (1 : Int32))), J, O) r (K, n, V', J, O)))))))) : Ev G (d + 1) mX12_readOne 60 [(0, .ref 57), (1, .int x1), (2, .int x2)] (K, n, V, J, O) r (K, n, V', J, O) := by
  refine Ev.mk fun Q hq => ?_
  refine wp_aload_n (i := 0) dX12_readOne_60 rfl rfl ?_
  refine wz_getR (b := 64) dX12_readOne_61 (k57 hK) (f12_29 _ (by decide)) rfl ?_
  refine wp_iload_n (i := 1) dX12_readOne_64 rfl rfl ?_
  refine wp_iload_n (i := 2) dX12_readOne_65 rfl rfl ?_
  obtain ⟨z1, hv⟩ := hv
  refine wz_iastore dX12_readOne_66 (k64 hK) z1 ?_
  refine wp_aload_n (i := 0) dX12_readOne_67 rfl rfl ?_
  refine wp_dupR dX12_readOne_68 ?_
  refine wz_getIe (v := (V 57 26)) dX12_readOne_69 (k57 hK) (f12_179 _ (by decide)) rfl (up2_a (by decide)) ?_
  refine wp_iconst (v := 1) dX12_readOne_72 (by decide) ?_
  refine wp_iadd dX12_readOne_73 ?_
  refine wz_putI dX12_readOne_74 (k57 hK) (w12_179 _ (by decide)) rfl ?_
  refine wp_aload_n (i := 0) dX12_readOne_77 rfl rfl ?_
  obtain ⟨v2, hE, hv⟩ := hv
  refine wz_callV (vs := []) (st := []) dX12_readOne_78 (k57 hK) rfl k12_186_12 hE rfl (Nat.le_of_ble_eq_true rfl) (Nat.le_of_ble_eq_true rfl) ?_
  change wp _ _ _ _ _ [.int v2] _ _ _
  refine wx_istore_n (ls' := [(0, .ref 57), (1, .int x1), (2, .int v2)]) (i := 2) dX12_readOne_81 rfl (by decide) rfl ?_
  refine wp_iload_n (i := 2) dX12_readOne_82 rfl rfl ?_
  refine wp_bipush (v := 97) dX12_readOne_83 (by decide) ?_
  refine wp_icmp_eq 94 dX12_readOne_85 (by decide) (fun q => ?_) (fun q => ?_)
  · replace hv := hv.1 q
    exact hv Q hq
  · replace hv := hv.2 q
    refine wp_iload_n (i := 2) dX12_readOne_88 rfl rfl ?_
    refine wp_bipush (v := 98) dX12_readOne_89 (by decide) ?_
    refine wp_icmp_ne 119 dX12_readOne_91 (by decide) (fun q => ?_) (fun q => ?_)
    · replace hv := hv.1 q
      refine wp_iconst (v := 0) dX12_readOne_119 (by decide) ?_
      refine wx_istore_n (ls' := [(0, .ref 57), (1, .int x1), (2, .int v2), (3, .int (0 : Int32))]) (i := 3) dX12_readOne_120 rfl (by decide) rfl ?_
      refine wp_iconst (v := 0) dX12_readOne_121 (by decide) ?_
      refine wx_istore (ls' := [(0, .ref 57), (1, .int x1), (2, .int v2), (3, .int (0 : Int32)), (4, .int (0 : Int32))]) dX12_readOne_122 (by decide) rfl ?_
      exact hv Q hq
    · replace hv := hv.2 q
      exact hv Q hq
theorem wX12_readOne_94 {x1 : Int32} {x2 : Int32} (hK : StK K)  (hv : (vp_in x1 160 ∧ (r = some (.int (1 : Int32)) ∧ V' = (up2 (up2 V 65 (x1).toNatClampNeg (((100 : Int32) + x2) - (97 : Int32))) 57 26 ((V 57 26) + (1 : Int32)))))) : Ev G (d + 1) mX12_readOne 94 [(0, .ref 57), (1, .int x1), (2, .int x2)] (K, n, V, J, O) r (K, n, V', J, O) := by
  refine Ev.mk fun Q hq => ?_
  refine wp_aload_n (i := 0) dX12_readOne_94 rfl rfl ?_
  refine wz_getR (b := 65) dX12_readOne_95 (k57 hK) (f12_32 _ (by decide)) rfl ?_
  refine wp_iload_n (i := 1) dX12_readOne_98 rfl rfl ?_
  refine wp_bipush (v := 100) dX12_readOne_99 (by decide) ?_
  refine wp_iload_n (i := 2) dX12_readOne_101 rfl rfl ?_
  refine wp_iadd dX12_readOne_102 ?_
  refine wp_bipush (v := 97) dX12_readOne_103 (by decide) ?_
  refine wp_isub dX12_readOne_105 ?_
  obtain ⟨z1, hv⟩ := hv
  refine wz_iastore dX12_readOne_106 (k65 hK) z1 ?_
  refine wp_aload_n (i := 0) dX12_readOne_107 rfl rfl ?_
  refine wp_dupR dX12_readOne_108 ?_
  refine wz_getIe (v := (V 57 26)) dX12_readOne_109 (k57 hK) (f12_179 _ (by decide)) rfl (up2_a (by decide)) ?_
  refine wp_iconst (v := 1) dX12_readOne_112 (by decide) ?_
  refine wp_iadd dX12_readOne_113 ?_
  refine wz_putI dX12_readOne_114 (k57 hK) (w12_179 _ (by decide)) rfl ?_
  refine wp_iconst (v := 1) dX12_readOne_117 (by decide) ?_
  obtain ⟨rfl, rfl⟩ := hv
  exact wp_ireturn dX12_readOne_118 rfl (by decide) rfl hq
theorem wX12_readOne_124 {x1 : Int32} {x2 : Int32} {x3 : Int32} {x4 : Int32} (hK : StK K)  (hv : (((2 : Int32) ≤ x4 → (vp_in x1 160 ∧ (r = some (.int (1 : Int32)) ∧ V' = (up2 V 65 (x1).toNatClampNeg x3)))) ∧ (¬ (2 : Int32) ≤ x4 → (∃ (v2 : Int32), Ev G d mX12_byteAt 0 [(0, .ref 57)] (K, n, V, J, O) (some (.int v2)) (K, n, V, J, O) ∧ (∃ (v3 : Int32), Ev G d mX12_within 0 [(0, .long v2.toInt64), (2, .long (48 : Int64)), (4, .long (57 : Int64))] (K, n, V, J, O) (some (.int v3)) (K, n, V, J, O) ∧ ((v3 ≠ 0 → (∃ (v4 : Int32), Ev G d mX12_byteAt 0 [(0, .ref 57)] (K, n, V, J, O) (some (.int v4)) (K, n, V, J, O) ∧ Ev G (d + 1) mX12_readOne 124 [(0, .ref 57), (1, .int x1), (2, .int x2), (3, .int ((((10 : Int32) * x3) + v4) - (48 : Int32))), (4, .int (x4 + 1))] (K, n, (up2 V 57 26 ((V 57 26) + (1 : Int32))), J, O) r (K, n, V', J, O))) ∧ (v3 = 0 → (r = some (.int (0 : Int32)) ∧ V' = V)))))))) : Ev G (d + 1) mX12_readOne 124 [(0, .ref 57), (1, .int x1), (2, .int x2), (3, .int x3), (4, .int x4)] (K, n, V, J, O) r (K, n, V', J, O) := by
  refine Ev.mk fun Q hq => ?_
  refine wp_iload dX12_readOne_124 rfl ?_
  refine wp_iconst (v := 2) dX12_readOne_126 (by decide) ?_
  refine wp_icmp_ge 178 dX12_readOne_127 (by decide) (fun q => ?_) (fun q => ?_)
  · replace hv := hv.1 q
    refine wp_aload_n (i := 0) dX12_readOne_178 rfl rfl ?_
    refine wz_getR (b := 65) dX12_readOne_179 (k57 hK) (f12_32 _ (by decide)) rfl ?_
    refine wp_iload_n (i := 1) dX12_readOne_182 rfl rfl ?_
    refine wp_iload_n (i := 3) dX12_readOne_183 rfl rfl ?_
    obtain ⟨z1, hv⟩ := hv
    refine wz_iastore dX12_readOne_184 (k65 hK) z1 ?_
    refine wp_iconst (v := 1) dX12_readOne_185 (by decide) ?_
    obtain ⟨rfl, rfl⟩ := hv
    exact wp_ireturn dX12_readOne_186 rfl (by decide) rfl hq
  · replace hv := hv.2 q
    refine wp_aload_n (i := 0) dX12_readOne_130 rfl rfl ?_
    obtain ⟨v2, hE, hv⟩ := hv
    refine wz_callV (vs := []) (st := []) dX12_readOne_131 (k57 hK) rfl k12_186_12 hE rfl (Nat.le_of_ble_eq_true rfl) (Nat.le_of_ble_eq_true rfl) ?_
    change wp _ _ _ _ _ [.int v2] _ _ _
    refine wp_i2l dX12_readOne_134 ?_
    refine wp_ldc2 (v := 48) dX12_readOne_135 q12_182 ?_
    refine wp_ldc2 (v := 57) dX12_readOne_138 q12_193 ?_
    obtain ⟨v3, hE, hv⟩ := hv
    refine wz_callS (vs := [.long v2.toInt64, .long (48 : Int64), .long (57 : Int64)]) (st := []) dX12_readOne_141 k12_135 hE rfl (Nat.le_of_ble_eq_true rfl) (Nat.le_of_ble_eq_true rfl) ?_
    change wp _ _ _ _ _ [.int v3] _ _ _
    refine wp_if_ne 149 dX12_readOne_144 (by decide) (fun q => ?_) (fun q => ?_)
    · replace hv := hv.1 q
      refine wp_bipush (v := 10) dX12_readOne_149 (by decide) ?_
      refine wp_iload_n (i := 3) dX12_readOne_151 rfl rfl ?_
      refine wp_imul dX12_readOne_152 ?_
      refine wp_aload_n (i := 0) dX12_readOne_153 rfl rfl ?_
      obtain ⟨v4, hE, hv⟩ := hv
      refine wz_callV (vs := []) (st := [.int ((10 : Int32) * x3)]) dX12_readOne_154 (k57 hK) rfl k12_186_12 hE rfl (Nat.le_of_ble_eq_true rfl) (Nat.le_of_ble_eq_true rfl) ?_
      change wp _ _ _ _ _ [.int v4, .int ((10 : Int32) * x3)] _ _ _
      refine wp_iadd dX12_readOne_157 ?_
      refine wp_bipush (v := 48) dX12_readOne_158 (by decide) ?_
      refine wp_isub dX12_readOne_160 ?_
      refine wx_istore_n (ls' := [(0, .ref 57), (1, .int x1), (2, .int x2), (3, .int ((((10 : Int32) * x3) + v4) - (48 : Int32))), (4, .int x4)]) (i := 3) dX12_readOne_161 rfl (by decide) rfl ?_
      refine wp_aload_n (i := 0) dX12_readOne_162 rfl rfl ?_
      refine wp_dupR dX12_readOne_163 ?_
      refine wz_getI dX12_readOne_164 (k57 hK) (f12_179 _ (by decide)) rfl ?_
      refine wp_iconst (v := 1) dX12_readOne_167 (by decide) ?_
      refine wp_iadd dX12_readOne_168 ?_
      refine wz_putI dX12_readOne_169 (k57 hK) (w12_179 _ (by decide)) rfl ?_
      refine wx_iinc (v := 1) (ls' := [(0, .ref 57), (1, .int x1), (2, .int x2), (3, .int ((((10 : Int32) * x3) + v4) - (48 : Int32))), (4, .int (x4 + 1))]) dX12_readOne_172 rfl (by decide) (by decide) rfl ?_
      refine wp_goto 124 dX12_readOne_175 (by decide) ?_
      exact hv Q hq
    · replace hv := hv.2 q
      refine wp_iconst (v := 0) dX12_readOne_147 (by decide) ?_
      obtain ⟨rfl, rfl⟩ := hv
      exact wp_ireturn dX12_readOne_148 rfl (by decide) rfl hq
theorem wX12_readAsk_0 {x1 : Int32} (hK : StK K)  (hv : (vp_in x1 10 ∧ (∃ (v2 : Int32), Ev G d mX12_byteAt 0 [(0, .ref 57)] (K, n, (up2 (up2 V 57 26 (0 : Int32)) 66 (x1).toNatClampNeg (0 : Int32)), J, O) (some (.int v2)) (K, n, (up2 (up2 V 57 26 (0 : Int32)) 66 (x1).toNatClampNeg (0 : Int32)), J, O) ∧ ((v2 = (58 : Int32) → Ev G (d + 1) mX12_readAsk 104 [(0, .ref 57), (1, .int x1)] (K, n, (up2 (up2 V 57 26 (0 : Int32)) 66 (x1).toNatClampNeg (0 : Int32)), J, O) r (K, n, V', J, O)) ∧ (¬ v2 = (58 : Int32) → Ev G (d + 1) mX12_readAsk 23 [(0, .ref 57), (1, .int x1), (2, .int (1 : Int32))] (K, n, (up2 (up2 V 57 26 (0 : Int32)) 66 (x1).toNatClampNeg (0 : Int32)), J, O) r (K, n, V', J, O)))))) : Ev G (d + 1) mX12_readAsk 0 [(0, .ref 57), (1, .int x1)] (K, n, V, J, O) r (K, n, V', J, O) := by
  refine Ev.mk fun Q hq => ?_
  refine wp_aload_n (i := 0) dX12_readAsk_0 rfl rfl ?_
  refine wp_iconst (v := 0) dX12_readAsk_1 (by decide) ?_
  refine wz_putI dX12_readAsk_2 (k57 hK) (w12_179 _ (by decide)) rfl ?_
  refine wp_aload_n (i := 0) dX12_readAsk_5 rfl rfl ?_
  refine wz_getR (b := 66) dX12_readAsk_6 (k57 hK) (f12_35 _ (by decide)) rfl ?_
  refine wp_iload_n (i := 1) dX12_readAsk_9 rfl rfl ?_
  refine wp_iconst (v := 0) dX12_readAsk_10 (by decide) ?_
  obtain ⟨z1, hv⟩ := hv
  refine wz_iastore dX12_readAsk_11 (k66 hK) z1 ?_
  refine wp_aload_n (i := 0) dX12_readAsk_12 rfl rfl ?_
  obtain ⟨v2, hE, hv⟩ := hv
  refine wz_callV (vs := []) (st := []) dX12_readAsk_13 (k57 hK) rfl k12_186_12 hE rfl (Nat.le_of_ble_eq_true rfl) (Nat.le_of_ble_eq_true rfl) ?_
  change wp _ _ _ _ _ [.int v2] _ _ _
  refine wp_bipush (v := 58) dX12_readAsk_16 (by decide) ?_
  refine wp_icmp_eq 104 dX12_readAsk_18 (by decide) (fun q => ?_) (fun q => ?_)
  · replace hv := hv.1 q
    exact hv Q hq
  · replace hv := hv.2 q
    refine wp_iconst (v := 1) dX12_readAsk_21 (by decide) ?_
    refine wx_istore_n (ls' := [(0, .ref 57), (1, .int x1), (2, .int (1 : Int32))]) (i := 2) dX12_readAsk_22 rfl (by decide) rfl ?_
    exact hv Q hq
theorem wX12_readAsk_23 {x1 : Int32} {x2 : Int32} (hK : StK K)  (hv : ((x2 = 0 → (∃ (v1 : Int32), Ev G d mX12_byteAt 0 [(0, .ref 57)] (K, n, V, J, O) (some (.int v1)) (K, n, V, J, O) ∧ ((v1 = (58 : Int32) → Ev G (d + 1) mX12_readAsk 104 [(0, .ref 57), (1, .int x1)] (K, n, V, J, O) r (K, n, V', J, O)) ∧ (¬ v1 = (58 : Int32) → (r = some (.int (0 : Int32)) ∧ V' = V))))) ∧ (¬ x2 = 0 → (vp_in x1 10 ∧ (∃ (v4 : Int32) (V3 : SV), Ev G d mX12_readOne 0 [(0, .ref 57), (1, .int (((16 : Int32) * x1) + (V 66 (x1).toNatClampNeg)))] (K, n, V, J, O) (some (.int v4)) (K, n, V3, J, O) ∧ ((v4 ≠ 0 → (vp_in x1 10 ∧ (vp_in x1 10 ∧ (∃ (v7 : Int32), Ev G d mX12_byteAt 0 [(0, .ref 57)] (K, n, (up2 V3 66 (x1).toNatClampNeg ((V3 66 (x1).toNatClampNeg) + (1 : Int32))), J, O) (some (.int v7)) (K, n, (up2 V3 66 (x1).toNatClampNeg ((V3 66 (x1).toNatClampNeg) + (1 : Int32))), J, O) ∧ ((v7 ≠ (38 : Int32) → Ev G (d + 1) mX12_readAsk 23 [(0, .ref 57), (1, .int x1), (2, .int (0 : Int32))] (K, n, (up2 (up2 V3 66 (x1).toNatClampNeg ((V3 66 (x1).toNatClampNeg) + (1 : Int32))) 57 26 ((V3 57 26) + (0 : Int32))), J, O) r (K, n, V', J, O)) ∧ (v7 = (38 : Int32) → Ev G (d + 1) mX12_readAsk 23 [(0, .ref 57), (1, .int x1), (2, .int (1 : Int32))] (K, n, (up2 (up2 V3 66 (x1).toNatClampNeg ((V3 66 (x1).toNatClampNeg) + (1 : Int32))) 57 26 ((V3 57 26) + (1 : Int32))), J, O) r (K, n, V', J, O))))))) ∧ (v4 = 0 → (r = some (.int (0 : Int32)) ∧ V' = V3)))))))) : Ev G (d + 1) mX12_readAsk 23 [(0, .ref 57), (1, .int x1), (2, .int x2)] (K, n, V, J, O) r (K, n, V', J, O) := by
  refine Ev.mk fun Q hq => ?_
  refine wp_iload_n (i := 2) dX12_readAsk_23 rfl rfl ?_
  refine wp_if_eq 93 dX12_readAsk_24 (by decide) (fun q => ?_) (fun q => ?_)
  · replace hv := hv.1 q
    refine wp_aload_n (i := 0) dX12_readAsk_93 rfl rfl ?_
    obtain ⟨v1, hE, hv⟩ := hv
    refine wz_callV (vs := []) (st := []) dX12_readAsk_94 (k57 hK) rfl k12_186_12 hE rfl (Nat.le_of_ble_eq_true rfl) (Nat.le_of_ble_eq_true rfl) ?_
    change wp _ _ _ _ _ [.int v1] _ _ _
    refine wp_bipush (v := 58) dX12_readAsk_97 (by decide) ?_
    refine wp_icmp_eq 104 dX12_readAsk_99 (by decide) (fun q => ?_) (fun q => ?_)
    · replace hv := hv.1 q
      refine wx_sub (ls' := [(0, .ref 57), (1, .int x1)]) [0, 1] rfl ?_
      exact hv Q hq
    · replace hv := hv.2 q
      refine wp_iconst (v := 0) dX12_readAsk_102 (by decide) ?_
      obtain ⟨rfl, rfl⟩ := hv
      exact wp_ireturn dX12_readAsk_103 rfl (by decide) rfl hq
  · replace hv := hv.2 q
    refine wp_aload_n (i := 0) dX12_readAsk_27 rfl rfl ?_
    refine wp_bipush (v := 16) dX12_readAsk_28 (by decide) ?_
    refine wp_iload_n (i := 1) dX12_readAsk_30 rfl rfl ?_
    refine wp_imul dX12_readAsk_31 ?_
    refine wp_aload_n (i := 0) dX12_readAsk_32 rfl rfl ?_
    refine wz_getR (b := 66) dX12_readAsk_33 (k57 hK) (f12_35 _ (by decide)) rfl ?_
    refine wp_iload_n (i := 1) dX12_readAsk_36 rfl rfl ?_
    obtain ⟨z2, hv⟩ := hv
    refine wz_iaload dX12_readAsk_37 (k66 hK) z2 ?_
    refine wp_iadd dX12_readAsk_38 ?_
    obtain ⟨v4, V3, hE, hv⟩ := hv
    refine wz_callV (vs := [.int (((16 : Int32) * x1) + (V 66 (x1).toNatClampNeg))]) (st := []) dX12_readAsk_39 (k57 hK) rfl k12_195_12 hE rfl (Nat.le_of_ble_eq_true rfl) (Nat.le_of_ble_eq_true rfl) ?_
    change wp _ _ _ _ _ [.int v4] _ _ _
    refine wp_if_ne 47 dX12_readAsk_42 (by decide) (fun q => ?_) (fun q => ?_)
    · replace hv := hv.1 q
      refine wp_aload_n (i := 0) dX12_readAsk_47 rfl rfl ?_
      refine wz_getR (b := 66) dX12_readAsk_48 (k57 hK) (f12_35 _ (by decide)) rfl ?_
      refine wp_iload_n (i := 1) dX12_readAsk_51 rfl rfl ?_
      refine wp_dup2 dX12_readAsk_52 ?_
      obtain ⟨z5, hv⟩ := hv
      refine wz_iaload dX12_readAsk_53 (k66 hK) z5 ?_
      refine wp_iconst (v := 1) dX12_readAsk_54 (by decide) ?_
      refine wp_iadd dX12_readAsk_55 ?_
      obtain ⟨z6, hv⟩ := hv
      refine wz_iastore dX12_readAsk_56 (k66 hK) z6 ?_
      refine wp_aload_n (i := 0) dX12_readAsk_57 rfl rfl ?_
      obtain ⟨v7, hE, hv⟩ := hv
      refine wz_callV (vs := []) (st := []) dX12_readAsk_58 (k57 hK) rfl k12_186_12 hE rfl (Nat.le_of_ble_eq_true rfl) (Nat.le_of_ble_eq_true rfl) ?_
      change wp _ _ _ _ _ [.int v7] _ _ _
      refine wp_bipush (v := 38) dX12_readAsk_61 (by decide) ?_
      refine wp_icmp_ne 70 dX12_readAsk_63 (by decide) (fun q => ?_) (fun q => ?_)
      · replace hv := hv.1 q
        refine wp_iconst (v := 0) dX12_readAsk_70 (by decide) ?_
        refine wx_istore_n (ls' := [(0, .ref 57), (1, .int x1), (2, .int (0 : Int32))]) (i := 2) dX12_readAsk_71 rfl (by decide) rfl ?_
        refine wp_aload_n (i := 0) dX12_readAsk_72 rfl rfl ?_
        refine wp_dupR dX12_readAsk_73 ?_
        refine wz_getIe (v := (V3 57 26)) dX12_readAsk_74 (k57 hK) (f12_179 _ (by decide)) rfl (up2_a (by decide)) ?_
        refine wp_iload_n (i := 2) dX12_readAsk_77 rfl rfl ?_
        refine wp_if_eq 85 dX12_readAsk_78 (by decide) (fun _ => ?_) (fun q => absurd q (by decide))
        refine wp_iconst (v := 0) dX12_readAsk_85 (by decide) ?_
        refine wp_iadd dX12_readAsk_86 ?_
        refine wz_putI dX12_readAsk_87 (k57 hK) (w12_179 _ (by decide)) rfl ?_
        refine wp_goto 23 dX12_readAsk_90 (by decide) ?_
        exact hv Q hq
      · replace hv := hv.2 q
        refine wp_iconst (v := 1) dX12_readAsk_66 (by decide) ?_
        refine wp_goto 71 dX12_readAsk_67 (by decide) ?_
        refine wx_istore_n (ls' := [(0, .ref 57), (1, .int x1), (2, .int (1 : Int32))]) (i := 2) dX12_readAsk_71 rfl (by decide) rfl ?_
        refine wp_aload_n (i := 0) dX12_readAsk_72 rfl rfl ?_
        refine wp_dupR dX12_readAsk_73 ?_
        refine wz_getIe (v := (V3 57 26)) dX12_readAsk_74 (k57 hK) (f12_179 _ (by decide)) rfl (up2_a (by decide)) ?_
        refine wp_iload_n (i := 2) dX12_readAsk_77 rfl rfl ?_
        refine wp_if_eq 85 dX12_readAsk_78 (by decide) (fun q => absurd q (by decide)) (fun _ => ?_)
        refine wp_iconst (v := 1) dX12_readAsk_81 (by decide) ?_
        refine wp_goto 86 dX12_readAsk_82 (by decide) ?_
        refine wp_iadd dX12_readAsk_86 ?_
        refine wz_putI dX12_readAsk_87 (k57 hK) (w12_179 _ (by decide)) rfl ?_
        refine wp_goto 23 dX12_readAsk_90 (by decide) ?_
        exact hv Q hq
    · replace hv := hv.2 q
      refine wp_iconst (v := 0) dX12_readAsk_45 (by decide) ?_
      obtain ⟨rfl, rfl⟩ := hv
      exact wp_ireturn dX12_readAsk_46 rfl (by decide) rfl hq
theorem wX12_readAsk_104 {x1 : Int32} (hK : StK K)  (hv : (∃ (v1 : Int32), Ev G d mX12_byteAt 0 [(0, .ref 57)] (K, n, (up2 V 57 26 ((V 57 26) + (1 : Int32))), J, O) (some (.int v1)) (K, n, (up2 V 57 26 ((V 57 26) + (1 : Int32))), J, O) ∧ ((v1 = (110 : Int32) → Ev G (d + 1) mX12_readAsk 145 [(0, .ref 57), (1, .int x1), (2, .int v1)] (K, n, (up2 V 57 26 ((V 57 26) + (1 : Int32))), J, O) r (K, n, V', J, O)) ∧ (¬ v1 = (110 : Int32) → ((v1 = (109 : Int32) → Ev G (d + 1) mX12_readAsk 145 [(0, .ref 57), (1, .int x1), (2, .int v1)] (K, n, (up2 V 57 26 ((V 57 26) + (1 : Int32))), J, O) r (K, n, V', J, O)) ∧ (¬ v1 = (109 : Int32) → ((v1 = (120 : Int32) → Ev G (d + 1) mX12_readAsk 145 [(0, .ref 57), (1, .int x1), (2, .int v1)] (K, n, (up2 V 57 26 ((V 57 26) + (1 : Int32))), J, O) r (K, n, V', J, O)) ∧ (¬ v1 = (120 : Int32) → ((v1 = (115 : Int32) → Ev G (d + 1) mX12_readAsk 145 [(0, .ref 57), (1, .int x1), (2, .int v1)] (K, n, (up2 V 57 26 ((V 57 26) + (1 : Int32))), J, O) r (K, n, V', J, O)) ∧ (¬ v1 = (115 : Int32) → (r = some (.int (0 : Int32)) ∧ V' = (up2 V 57 26 ((V 57 26) + (1 : Int32)))))))))))))) : Ev G (d + 1) mX12_readAsk 104 [(0, .ref 57), (1, .int x1)] (K, n, V, J, O) r (K, n, V', J, O) := by
  refine Ev.mk fun Q hq => ?_
  refine wp_aload_n (i := 0) dX12_readAsk_104 rfl rfl ?_
  refine wp_dupR dX12_readAsk_105 ?_
  refine wz_getI dX12_readAsk_106 (k57 hK) (f12_179 _ (by decide)) rfl ?_
  refine wp_iconst (v := 1) dX12_readAsk_109 (by decide) ?_
  refine wp_iadd dX12_readAsk_110 ?_
  refine wz_putI dX12_readAsk_111 (k57 hK) (w12_179 _ (by decide)) rfl ?_
  refine wp_aload_n (i := 0) dX12_readAsk_114 rfl rfl ?_
  obtain ⟨v1, hE, hv⟩ := hv
  refine wz_callV (vs := []) (st := []) dX12_readAsk_115 (k57 hK) rfl k12_186_12 hE rfl (Nat.le_of_ble_eq_true rfl) (Nat.le_of_ble_eq_true rfl) ?_
  change wp _ _ _ _ _ [.int v1] _ _ _
  refine wx_istore_n (ls' := [(0, .ref 57), (1, .int x1), (2, .int v1)]) (i := 2) dX12_readAsk_118 rfl (by decide) rfl ?_
  refine wp_iload_n (i := 2) dX12_readAsk_119 rfl rfl ?_
  refine wp_bipush (v := 110) dX12_readAsk_120 (by decide) ?_
  refine wp_icmp_eq 145 dX12_readAsk_122 (by decide) (fun q => ?_) (fun q => ?_)
  · replace hv := hv.1 q
    exact hv Q hq
  · replace hv := hv.2 q
    refine wp_iload_n (i := 2) dX12_readAsk_125 rfl rfl ?_
    refine wp_bipush (v := 109) dX12_readAsk_126 (by decide) ?_
    refine wp_icmp_eq 145 dX12_readAsk_128 (by decide) (fun q => ?_) (fun q => ?_)
    · replace hv := hv.1 q
      exact hv Q hq
    · replace hv := hv.2 q
      refine wp_iload_n (i := 2) dX12_readAsk_131 rfl rfl ?_
      refine wp_bipush (v := 120) dX12_readAsk_132 (by decide) ?_
      refine wp_icmp_eq 145 dX12_readAsk_134 (by decide) (fun q => ?_) (fun q => ?_)
      · replace hv := hv.1 q
        exact hv Q hq
      · replace hv := hv.2 q
        refine wp_iload_n (i := 2) dX12_readAsk_137 rfl rfl ?_
        refine wp_bipush (v := 115) dX12_readAsk_138 (by decide) ?_
        refine wp_icmp_eq 145 dX12_readAsk_140 (by decide) (fun q => ?_) (fun q => ?_)
        · replace hv := hv.1 q
          exact hv Q hq
        · replace hv := hv.2 q
          refine wp_iconst (v := 0) dX12_readAsk_143 (by decide) ?_
          obtain ⟨rfl, rfl⟩ := hv
          exact wp_ireturn dX12_readAsk_144 rfl (by decide) rfl hq
theorem wX12_readAsk_145 {x1 : Int32} {x2 : Int32} (hK : StK K)  (hv : (vp_in x1 10 ∧ ((x2 = (110 : Int32) → Ev G (d + 1) mX12_readAsk 203 [(0, .ref 57), (1, .int x1), (2, .int x2)] (K, n, (up2 (up2 V 67 (x1).toNatClampNeg x2) 57 26 ((V 57 26) + (1 : Int32))), J, O) r (K, n, V', J, O)) ∧ (¬ x2 = (110 : Int32) → (∃ (v2 : Int32), Ev G d mX12_byteAt 0 [(0, .ref 57)] (K, n, (up2 (up2 V 67 (x1).toNatClampNeg x2) 57 26 ((V 57 26) + (1 : Int32))), J, O) (some (.int v2)) (K, n, (up2 (up2 V 67 (x1).toNatClampNeg x2) 57 26 ((V 57 26) + (1 : Int32))), J, O) ∧ (∃ (v3 : Int32), Ev G d mX12_isFieldSign 0 [(0, .int v2)] (K, n, (up2 (up2 V 67 (x1).toNatClampNeg x2) 57 26 ((V 57 26) + (1 : Int32))), J, O) (some (.int v3)) (K, n, (up2 (up2 V 67 (x1).toNatClampNeg x2) 57 26 ((V 57 26) + (1 : Int32))), J, O) ∧ ((v3 ≠ 0 → (∃ (v4 : Int32), Ev G d mX12_byteAt 0 [(0, .ref 57)] (K, n, (up2 (up2 V 67 (x1).toNatClampNeg x2) 57 26 ((V 57 26) + (1 : Int32))), J, O) (some (.int v4)) (K, n, (up2 (up2 V 67 (x1).toNatClampNeg x2) 57 26 ((V 57 26) + (1 : Int32))), J, O) ∧ (vp_in x1 10 ∧ Ev G (d + 1) mX12_readAsk 203 [(0, .ref 57), (1, .int x1), (2, .int x2)] (K, n, (up2 (up2 (up2 (up2 V 67 (x1).toNatClampNeg x2) 57 26 ((V 57 26) + (1 : Int32))) 68 (x1).toNatClampNeg (v4 - (48 : Int32))) 57 26 (((V 57 26) + (1 : Int32)) + (1 : Int32))), J, O) r (K, n, V', J, O)))) ∧ (v3 = 0 → (r = some (.int (0 : Int32)) ∧ V' = (up2 (up2 V 67 (x1).toNatClampNeg x2) 57 26 ((V 57 26) + (1 : Int32)))))))))))) : Ev G (d + 1) mX12_readAsk 145 [(0, .ref 57), (1, .int x1), (2, .int x2)] (K, n, V, J, O) r (K, n, V', J, O) := by
  refine Ev.mk fun Q hq => ?_
  refine wp_aload_n (i := 0) dX12_readAsk_145 rfl rfl ?_
  refine wz_getR (b := 67) dX12_readAsk_146 (k57 hK) (f12_38 _ (by decide)) rfl ?_
  refine wp_iload_n (i := 1) dX12_readAsk_149 rfl rfl ?_
  refine wp_iload_n (i := 2) dX12_readAsk_150 rfl rfl ?_
  obtain ⟨z1, hv⟩ := hv
  refine wz_iastore dX12_readAsk_151 (k67 hK) z1 ?_
  refine wp_aload_n (i := 0) dX12_readAsk_152 rfl rfl ?_
  refine wp_dupR dX12_readAsk_153 ?_
  refine wz_getIe (v := (V 57 26)) dX12_readAsk_154 (k57 hK) (f12_179 _ (by decide)) rfl (up2_a (by decide)) ?_
  refine wp_iconst (v := 1) dX12_readAsk_157 (by decide) ?_
  refine wp_iadd dX12_readAsk_158 ?_
  refine wz_putI dX12_readAsk_159 (k57 hK) (w12_179 _ (by decide)) rfl ?_
  refine wp_iload_n (i := 2) dX12_readAsk_162 rfl rfl ?_
  refine wp_bipush (v := 110) dX12_readAsk_163 (by decide) ?_
  refine wp_icmp_eq 203 dX12_readAsk_165 (by decide) (fun q => ?_) (fun q => ?_)
  · replace hv := hv.1 q
    exact hv Q hq
  · replace hv := hv.2 q
    refine wp_aload_n (i := 0) dX12_readAsk_168 rfl rfl ?_
    obtain ⟨v2, hE, hv⟩ := hv
    refine wz_callV (vs := []) (st := []) dX12_readAsk_169 (k57 hK) rfl k12_186_12 hE rfl (Nat.le_of_ble_eq_true rfl) (Nat.le_of_ble_eq_true rfl) ?_
    change wp _ _ _ _ _ [.int v2] _ _ _
    obtain ⟨v3, hE, hv⟩ := hv
    refine wz_callS (vs := [.int v2]) (st := []) dX12_readAsk_172 k12_190 hE rfl (Nat.le_of_ble_eq_true rfl) (Nat.le_of_ble_eq_true rfl) ?_
    change wp _ _ _ _ _ [.int v3] _ _ _
    refine wp_if_ne 180 dX12_readAsk_175 (by decide) (fun q => ?_) (fun q => ?_)
    · replace hv := hv.1 q
      refine wp_aload_n (i := 0) dX12_readAsk_180 rfl rfl ?_
      refine wz_getR (b := 68) dX12_readAsk_181 (k57 hK) (f12_41 _ (by decide)) rfl ?_
      refine wp_iload_n (i := 1) dX12_readAsk_184 rfl rfl ?_
      refine wp_aload_n (i := 0) dX12_readAsk_185 rfl rfl ?_
      obtain ⟨v4, hE, hv⟩ := hv
      refine wz_callV (vs := []) (st := [.int x1, .ref 68]) dX12_readAsk_186 (k57 hK) rfl k12_186_12 hE rfl (Nat.le_of_ble_eq_true rfl) (Nat.le_of_ble_eq_true rfl) ?_
      change wp _ _ _ _ _ [.int v4, .int x1, .ref 68] _ _ _
      refine wp_bipush (v := 48) dX12_readAsk_189 (by decide) ?_
      refine wp_isub dX12_readAsk_191 ?_
      obtain ⟨z5, hv⟩ := hv
      refine wz_iastore dX12_readAsk_192 (k68 hK) z5 ?_
      refine wp_aload_n (i := 0) dX12_readAsk_193 rfl rfl ?_
      refine wp_dupR dX12_readAsk_194 ?_
      refine wz_getIe (v := ((V 57 26) + (1 : Int32))) dX12_readAsk_195 (k57 hK) (f12_179 _ (by decide)) rfl (Eq.trans (up2_a (by decide)) up2_s) ?_
      refine wp_iconst (v := 1) dX12_readAsk_198 (by decide) ?_
      refine wp_iadd dX12_readAsk_199 ?_
      refine wz_putI dX12_readAsk_200 (k57 hK) (w12_179 _ (by decide)) rfl ?_
      exact hv Q hq
    · replace hv := hv.2 q
      refine wp_iconst (v := 0) dX12_readAsk_178 (by decide) ?_
      obtain ⟨rfl, rfl⟩ := hv
      exact wp_ireturn dX12_readAsk_179 rfl (by decide) rfl hq
theorem wX12_readAsk_203 {x1 : Int32} {x2 : Int32} (hK : StK K)  (hv : (((V 57 26) ≠ (V 57 6) → (r = some (.int (0 : Int32)) ∧ V' = V)) ∧ ((V 57 26) = (V 57 6) → (r = some (.int (1 : Int32)) ∧ V' = V)))) : Ev G (d + 1) mX12_readAsk 203 [(0, .ref 57), (1, .int x1), (2, .int x2)] (K, n, V, J, O) r (K, n, V', J, O) := by
  refine Ev.mk fun Q hq => ?_
  refine wp_aload_n (i := 0) dX12_readAsk_203 rfl rfl ?_
  refine wz_getI dX12_readAsk_204 (k57 hK) (f12_179 _ (by decide)) rfl ?_
  refine wp_aload_n (i := 0) dX12_readAsk_207 rfl rfl ?_
  refine wz_getI dX12_readAsk_208 (k57 hK) (f12_176 _ (by decide)) rfl ?_
  refine wp_icmp_ne 218 dX12_readAsk_211 (by decide) (fun q => ?_) (fun q => ?_)
  · replace hv := hv.1 q
    refine wp_iconst (v := 0) dX12_readAsk_218 (by decide) ?_
    obtain ⟨rfl, rfl⟩ := hv
    exact wp_ireturn dX12_readAsk_219 rfl (by decide) rfl hq
  · replace hv := hv.2 q
    refine wp_iconst (v := 1) dX12_readAsk_214 (by decide) ?_
    refine wp_goto 219 dX12_readAsk_215 (by decide) ?_
    obtain ⟨rfl, rfl⟩ := hv
    exact wp_ireturn dX12_readAsk_219 rfl (by decide) rfl hq
theorem wX12_ask_0  (hK : StK K)  (hv : (((V 57 14) ≠ (10 : Int32) → (∃ (v2 : Int32) (V1 : SV), Ev G d mX12_readAsk 0 [(0, .ref 57), (1, .int (V 57 14))] (K, n, V, J, O) (some (.int v2)) (K, n, V1, J, O) ∧ ((v2 ≠ 0 → (vp_in (V1 57 14) 10 ∧ (r = some (.int (((V1 57 14) + (1 : Int32)) - (1 : Int32))) ∧ V' = (up2 (up2 (up2 V1 57 6 (0 : Int32)) 69 ((V1 57 14)).toNatClampNeg (1 : Int32)) 57 14 ((V1 57 14) + (1 : Int32)))))) ∧ (v2 = 0 → (r = some (.int ((-100 : Int32) - (V1 57 26))) ∧ V' = (up2 V1 57 6 (0 : Int32))))))) ∧ ((V 57 14) = (10 : Int32) → (r = some (.int (-3 : Int32)) ∧ V' = V)))) : Ev G (d + 1) mX12_ask 0 [(0, .ref 57)] (K, n, V, J, O) r (K, n, V', J, O) := by
  refine Ev.mk fun Q hq => ?_
  refine wp_aload_n (i := 0) dX12_ask_0 rfl rfl ?_
  refine wz_getI dX12_ask_1 (k57 hK) (f12_198 _ (by decide)) rfl ?_
  refine wp_bipush (v := 10) dX12_ask_4 (by decide) ?_
  refine wp_icmp_ne 12 dX12_ask_6 (by decide) (fun q => ?_) (fun q => ?_)
  · replace hv := hv.1 q
    refine wp_aload_n (i := 0) dX12_ask_12 rfl rfl ?_
    refine wp_aload_n (i := 0) dX12_ask_13 rfl rfl ?_
    refine wz_getI dX12_ask_14 (k57 hK) (f12_198 _ (by decide)) rfl ?_
    obtain ⟨v2, V1, hE, hv⟩ := hv
    refine wz_callV (vs := [.int (V 57 14)]) (st := []) dX12_ask_17 (k57 hK) rfl k12_201_12 hE rfl (Nat.le_of_ble_eq_true rfl) (Nat.le_of_ble_eq_true rfl) ?_
    change wp _ _ _ _ _ [.int v2] _ _ _
    refine wx_istore_n (ls' := [(0, .ref 57), (1, .int v2)]) (i := 1) dX12_ask_20 rfl (by decide) rfl ?_
    refine wp_aload_n (i := 0) dX12_ask_21 rfl rfl ?_
    refine wp_iconst (v := 0) dX12_ask_22 (by decide) ?_
    refine wz_putI dX12_ask_23 (k57 hK) (w12_176 _ (by decide)) rfl ?_
    refine wp_iload_n (i := 1) dX12_ask_26 rfl rfl ?_
    refine wp_if_ne 38 dX12_ask_27 (by decide) (fun q => ?_) (fun q => ?_)
    · replace hv := hv.1 q
      refine wp_aload_n (i := 0) dX12_ask_38 rfl rfl ?_
      refine wz_getR (b := 69) dX12_ask_39 (k57 hK) (f12_44 _ (by decide)) rfl ?_
      refine wp_aload_n (i := 0) dX12_ask_42 rfl rfl ?_
      refine wz_getIe (v := (V1 57 14)) dX12_ask_43 (k57 hK) (f12_198 _ (by decide)) rfl (up2_k (by decide)) ?_
      refine wp_iconst (v := 1) dX12_ask_46 (by decide) ?_
      obtain ⟨z3, hv⟩ := hv
      refine wz_iastore dX12_ask_47 (k69 hK) z3 ?_
      refine wp_aload_n (i := 0) dX12_ask_48 rfl rfl ?_
      refine wp_dupR dX12_ask_49 ?_
      refine wz_getIe (v := (V1 57 14)) dX12_ask_50 (k57 hK) (f12_198 _ (by decide)) rfl (Eq.trans (up2_a (by decide)) (up2_k (by decide))) ?_
      refine wp_iconst (v := 1) dX12_ask_53 (by decide) ?_
      refine wp_iadd dX12_ask_54 ?_
      refine wz_putI dX12_ask_55 (k57 hK) (w12_198 _ (by decide)) rfl ?_
      refine wp_aload_n (i := 0) dX12_ask_58 rfl rfl ?_
      refine wz_getIe (v := ((V1 57 14) + (1 : Int32))) dX12_ask_59 (k57 hK) (f12_198 _ (by decide)) rfl up2_s ?_
      refine wp_iconst (v := 1) dX12_ask_62 (by decide) ?_
      refine wp_isub dX12_ask_63 ?_
      obtain ⟨rfl, rfl⟩ := hv
      exact wp_ireturn dX12_ask_64 rfl rfl rfl hq
    · replace hv := hv.2 q
      refine wp_bipush (v := -100) dX12_ask_30 (by decide) ?_
      refine wp_aload_n (i := 0) dX12_ask_32 rfl rfl ?_
      refine wz_getIe (v := (V1 57 26)) dX12_ask_33 (k57 hK) (f12_179 _ (by decide)) rfl (up2_k (by decide)) ?_
      refine wp_isub dX12_ask_36 ?_
      obtain ⟨rfl, rfl⟩ := hv
      exact wp_ireturn dX12_ask_37 rfl rfl rfl hq
  · replace hv := hv.2 q
    refine wp_bipush (v := -3) dX12_ask_9 (by decide) ?_
    obtain ⟨rfl, rfl⟩ := hv
    exact wp_ireturn dX12_ask_11 rfl rfl rfl hq
theorem wX12_isAsk_0 {x1 : Int32} (hK : StK K)  (hv : ((x1 < 0 → r = some (.int (0 : Int32))) ∧ (¬ x1 < 0 → (((V 57 14) ≤ x1 → r = some (.int (0 : Int32))) ∧ (¬ (V 57 14) ≤ x1 → r = some (.int (1 : Int32))))))) : Ev G d mX12_isAsk 0 [(0, .ref 57), (1, .int x1)] (K, n, V, J, O) r (K, n, V, J, O) := by
  refine Ev.mk fun Q hq => ?_
  refine wp_iload_n (i := 1) dX12_isAsk_0 rfl rfl ?_
  refine wp_if_lt 16 dX12_isAsk_1 (by decide) (fun q => ?_) (fun q => ?_)
  · replace hv := hv.1 q
    refine wp_iconst (v := 0) dX12_isAsk_16 (by decide) ?_
    obtain rfl := hv
    exact wp_ireturn dX12_isAsk_17 rfl (by decide) rfl hq
  · replace hv := hv.2 q
    refine wp_iload_n (i := 1) dX12_isAsk_4 rfl rfl ?_
    refine wp_aload_n (i := 0) dX12_isAsk_5 rfl rfl ?_
    refine wz_getI dX12_isAsk_6 (k57 hK) (f12_198 _ (by decide)) rfl ?_
    refine wp_icmp_ge 16 dX12_isAsk_9 (by decide) (fun q => ?_) (fun q => ?_)
    · replace hv := hv.1 q
      refine wp_iconst (v := 0) dX12_isAsk_16 (by decide) ?_
      obtain rfl := hv
      exact wp_ireturn dX12_isAsk_17 rfl (by decide) rfl hq
    · replace hv := hv.2 q
      refine wp_iconst (v := 1) dX12_isAsk_12 (by decide) ?_
      refine wp_goto 17 dX12_isAsk_13 (by decide) ?_
      obtain rfl := hv
      exact wp_ireturn dX12_isAsk_17 rfl (by decide) rfl hq
theorem wX12_often_0 {x1 : Int32} {x2 : Int32} (hK : StK K)  (hv : (∃ (v1 : Int32), Ev G d mX12_isAsk 0 [(0, .ref 57), (1, .int x1)] (K, n, V, J, O) (some (.int v1)) (K, n, V, J, O) ∧ ((v1 = 0 → (r = some (.int (-1 : Int32)) ∧ V' = V)) ∧ (¬ v1 = 0 → (∃ (v2 : Int32), Ev G d mX12_isValue 0 [(0, .int x2)] (K, n, V, J, O) (some (.int v2)) (K, n, V, J, O) ∧ ((v2 ≠ 0 → (vp_in x1 10 ∧ (vp_in x1 10 ∧ (r = some (.int (V 69 (x1).toNatClampNeg)) ∧ V' = (up2 V 69 (x1).toNatClampNeg x2))))) ∧ (v2 = 0 → (r = some (.int (-1 : Int32)) ∧ V' = V)))))))) : Ev G (d + 1) mX12_often 0 [(0, .ref 57), (1, .int x1), (2, .int x2)] (K, n, V, J, O) r (K, n, V', J, O) := by
  refine Ev.mk fun Q hq => ?_
  refine wp_aload_n (i := 0) dX12_often_0 rfl rfl ?_
  refine wp_iload_n (i := 1) dX12_often_1 rfl rfl ?_
  obtain ⟨v1, hE, hv⟩ := hv
  refine wz_callV (vs := [.int x1]) (st := []) dX12_often_2 (k57 hK) rfl k12_204_12 hE rfl (Nat.le_of_ble_eq_true rfl) (Nat.le_of_ble_eq_true rfl) ?_
  change wp _ _ _ _ _ [.int v1] _ _ _
  refine wp_if_eq 15 dX12_often_5 (by decide) (fun q => ?_) (fun q => ?_)
  · replace hv := hv.1 q
    refine wp_iconst (v := -1) dX12_often_15 (by decide) ?_
    obtain ⟨rfl, rfl⟩ := hv
    exact wp_ireturn dX12_often_16 rfl rfl rfl hq
  · replace hv := hv.2 q
    refine wp_iload_n (i := 2) dX12_often_8 rfl rfl ?_
    obtain ⟨v2, hE, hv⟩ := hv
    refine wz_callS (vs := [.int x2]) (st := []) dX12_often_9 k12_145 hE rfl (Nat.le_of_ble_eq_true rfl) (Nat.le_of_ble_eq_true rfl) ?_
    change wp _ _ _ _ _ [.int v2] _ _ _
    refine wp_if_ne 17 dX12_often_12 (by decide) (fun q => ?_) (fun q => ?_)
    · replace hv := hv.1 q
      refine wp_aload_n (i := 0) dX12_often_17 rfl rfl ?_
      refine wz_getR (b := 69) dX12_often_18 (k57 hK) (f12_44 _ (by decide)) rfl ?_
      refine wp_iload_n (i := 1) dX12_often_21 rfl rfl ?_
      obtain ⟨z3, hv⟩ := hv
      refine wz_iaload dX12_often_22 (k69 hK) z3 ?_
      refine wx_istore_n (ls' := [(0, .ref 57), (1, .int x1), (2, .int x2), (3, .int (V 69 (x1).toNatClampNeg))]) (i := 3) dX12_often_23 rfl (by decide) rfl ?_
      refine wp_aload_n (i := 0) dX12_often_24 rfl rfl ?_
      refine wz_getR (b := 69) dX12_often_25 (k57 hK) (f12_44 _ (by decide)) rfl ?_
      refine wp_iload_n (i := 1) dX12_often_28 rfl rfl ?_
      refine wp_iload_n (i := 2) dX12_often_29 rfl rfl ?_
      obtain ⟨z4, hv⟩ := hv
      refine wz_iastore dX12_often_30 (k69 hK) z4 ?_
      refine wp_iload_n (i := 3) dX12_often_31 rfl rfl ?_
      obtain ⟨rfl, rfl⟩ := hv
      exact wp_ireturn dX12_often_32 rfl rfl rfl hq
    · replace hv := hv.2 q
      refine wp_iconst (v := -1) dX12_often_15 (by decide) ?_
      obtain ⟨rfl, rfl⟩ := hv
      exact wp_ireturn dX12_often_16 rfl rfl rfl hq
theorem wX12_valueOf_0 {x1 : Int32} (hK : StK K)  (hv : (vp_in x1 160 ∧ (((V 65 (x1).toNatClampNeg) ≠ (100 : Int32) → (vp_in x1 160 ∧ (((V 65 (x1).toNatClampNeg) ≠ (101 : Int32) → (vp_in x1 160 ∧ r = some (.int (V 65 (x1).toNatClampNeg)))) ∧ ((V 65 (x1).toNatClampNeg) = (101 : Int32) → r = some (.int (V 57 28)))))) ∧ ((V 65 (x1).toNatClampNeg) = (100 : Int32) → r = some (.int (V 57 27)))))) : Ev G d mX12_valueOf 0 [(0, .ref 57), (1, .int x1)] (K, n, V, J, O) r (K, n, V, J, O) := by
  refine Ev.mk fun Q hq => ?_
  refine wp_aload_n (i := 0) dX12_valueOf_0 rfl rfl ?_
  refine wz_getR (b := 65) dX12_valueOf_1 (k57 hK) (f12_32 _ (by decide)) rfl ?_
  refine wp_iload_n (i := 1) dX12_valueOf_4 rfl rfl ?_
  obtain ⟨z1, hv⟩ := hv
  refine wz_iaload dX12_valueOf_5 (k65 hK) z1 ?_
  refine wp_bipush (v := 100) dX12_valueOf_6 (by decide) ?_
  refine wp_icmp_ne 18 dX12_valueOf_8 (by decide) (fun q => ?_) (fun q => ?_)
  · replace hv := hv.1 q
    refine wp_aload_n (i := 0) dX12_valueOf_18 rfl rfl ?_
    refine wz_getR (b := 65) dX12_valueOf_19 (k57 hK) (f12_32 _ (by decide)) rfl ?_
    refine wp_iload_n (i := 1) dX12_valueOf_22 rfl rfl ?_
    obtain ⟨z2, hv⟩ := hv
    refine wz_iaload dX12_valueOf_23 (k65 hK) z2 ?_
    refine wp_bipush (v := 101) dX12_valueOf_24 (by decide) ?_
    refine wp_icmp_ne 36 dX12_valueOf_26 (by decide) (fun q => ?_) (fun q => ?_)
    · replace hv := hv.1 q
      refine wp_aload_n (i := 0) dX12_valueOf_36 rfl rfl ?_
      refine wz_getR (b := 65) dX12_valueOf_37 (k57 hK) (f12_32 _ (by decide)) rfl ?_
      refine wp_iload_n (i := 1) dX12_valueOf_40 rfl rfl ?_
      obtain ⟨z3, hv⟩ := hv
      refine wz_iaload dX12_valueOf_41 (k65 hK) z3 ?_
      obtain rfl := hv
      exact wp_ireturn dX12_valueOf_42 rfl rfl rfl hq
    · replace hv := hv.2 q
      refine wp_aload_n (i := 0) dX12_valueOf_29 rfl rfl ?_
      refine wz_getI dX12_valueOf_30 (k57 hK) (f12_210 _ (by decide)) rfl ?_
      refine wp_goto 42 dX12_valueOf_33 (by decide) ?_
      obtain rfl := hv
      exact wp_ireturn dX12_valueOf_42 rfl rfl rfl hq
  · replace hv := hv.2 q
    refine wp_aload_n (i := 0) dX12_valueOf_11 rfl rfl ?_
    refine wz_getI dX12_valueOf_12 (k57 hK) (f12_207 _ (by decide)) rfl ?_
    refine wp_goto 42 dX12_valueOf_15 (by decide) ?_
    obtain rfl := hv
    exact wp_ireturn dX12_valueOf_42 rfl rfl rfl hq
theorem wX12_holds_0 {x1 : Int32} {x2 : Int32} (hK : StK K)  (hv : Ev G (d + 1) mX12_holds 8 [(0, .ref 57), (1, .int x1), (2, .int x2), (3, .int (1 : Int32)), (4, .int ((16 : Int32) * x1))] (K, n, V, J, O) r (K, n, V, J, O)) : Ev G (d + 1) mX12_holds 0 [(0, .ref 57), (1, .int x1), (2, .int x2)] (K, n, V, J, O) r (K, n, V, J, O) := by
  refine Ev.mk fun Q hq => ?_
  refine wp_iconst (v := 1) dX12_holds_0 (by decide) ?_
  refine wx_istore_n (ls' := [(0, .ref 57), (1, .int x1), (2, .int x2), (3, .int (1 : Int32))]) (i := 3) dX12_holds_1 rfl (by decide) rfl ?_
  refine wp_bipush (v := 16) dX12_holds_2 (by decide) ?_
  refine wp_iload_n (i := 1) dX12_holds_4 rfl rfl ?_
  refine wp_imul dX12_holds_5 ?_
  refine wx_istore (ls' := [(0, .ref 57), (1, .int x1), (2, .int x2), (3, .int (1 : Int32)), (4, .int ((16 : Int32) * x1))]) dX12_holds_6 (by decide) rfl ?_
  exact hv Q hq
theorem wX12_holds_8 {x1 : Int32} {x2 : Int32} {x3 : Int32} {x4 : Int32} (hK : StK K)  (hv : (vp_in x1 10 ∧ (((((16 : Int32) * x1) + (V 66 (x1).toNatClampNeg)) ≤ x4 → ((x3 = 0 ∨ x3 = 1) ∧ r = some (.int x3))) ∧ (¬ (((16 : Int32) * x1) + (V 66 (x1).toNatClampNeg)) ≤ x4 → (vp_in x4 160 ∧ (vp_in (((4 : Int32) * x2) + (V 63 (x4).toNatClampNeg)) 320 ∧ (∃ (v4 : Int32), Ev G d mX12_valueOf 0 [(0, .ref 57), (1, .int x4)] (K, n, V, J, O) (some (.int v4)) (K, n, V, J, O) ∧ ((x3 = 0 → Ev G (d + 1) mX12_holds 8 [(0, .ref 57), (1, .int x1), (2, .int x2), (3, .int (0 : Int32)), (4, .int (x4 + 1))] (K, n, V, J, O) r (K, n, V, J, O)) ∧ (¬ x3 = 0 → (vp_in x4 160 ∧ (((V 64 (x4).toNatClampNeg) ≠ (61 : Int32) → (vp_in x4 160 ∧ (((V 64 (x4).toNatClampNeg) ≠ (60 : Int32) → (((V 58 ((((4 : Int32) * x2) + (V 63 (x4).toNatClampNeg))).toNatClampNeg) ≤ v4 → Ev G (d + 1) mX12_holds 8 [(0, .ref 57), (1, .int x1), (2, .int x2), (3, .int (0 : Int32)), (4, .int (x4 + 1))] (K, n, V, J, O) r (K, n, V, J, O)) ∧ (¬ (V 58 ((((4 : Int32) * x2) + (V 63 (x4).toNatClampNeg))).toNatClampNeg) ≤ v4 → Ev G (d + 1) mX12_holds 8 [(0, .ref 57), (1, .int x1), (2, .int x2), (3, .int (1 : Int32)), (4, .int (x4 + 1))] (K, n, V, J, O) r (K, n, V, J, O)))) ∧ ((V 64 (x4).toNatClampNeg) = (60 : Int32) → ((v4 ≤ (V 58 ((((4 : Int32) * x2) + (V 63 (x4).toNatClampNeg))).toNatClampNeg) → Ev G (d + 1) mX12_holds 8 [(0, .ref 57), (1, .int x1), (2, .int x2), (3, .int (0 : Int32)), (4, .int (x4 + 1))] (K, n, V, J, O) r (K, n, V, J, O)) ∧ (¬ v4 ≤ (V 58 ((((4 : Int32) * x2) + (V 63 (x4).toNatClampNeg))).toNatClampNeg) → Ev G (d + 1) mX12_holds 8 [(0, .ref 57), (1, .int x1), (2, .int x2), (3, .int (1 : Int32)), (4, .int (x4 + 1))] (K, n, V, J, O) r (K, n, V, J, O))))))) ∧ ((V 64 (x4).toNatClampNeg) = (61 : Int32) → (((V 58 ((((4 : Int32) * x2) + (V 63 (x4).toNatClampNeg))).toNatClampNeg) ≠ v4 → Ev G (d + 1) mX12_holds 8 [(0, .ref 57), (1, .int x1), (2, .int x2), (3, .int (0 : Int32)), (4, .int (x4 + 1))] (K, n, V, J, O) r (K, n, V, J, O)) ∧ ((V 58 ((((4 : Int32) * x2) + (V 63 (x4).toNatClampNeg))).toNatClampNeg) = v4 → Ev G (d + 1) mX12_holds 8 [(0, .ref 57), (1, .int x1), (2, .int x2), (3, .int (1 : Int32)), (4, .int (x4 + 1))] (K, n, V, J, O) r (K, n, V, J, O))))))))))))))) : Ev G (d + 1) mX12_holds 8 [(0, .ref 57), (1, .int x1), (2, .int x2), (3, .int x3), (4, .int x4)] (K, n, V, J, O) r (K, n, V, J, O) := by
  refine Ev.mk fun Q hq => ?_
  refine wp_iload dX12_holds_8 rfl ?_
  refine wp_bipush (v := 16) dX12_holds_10 (by decide) ?_
  refine wp_iload_n (i := 1) dX12_holds_12 rfl rfl ?_
  refine wp_imul dX12_holds_13 ?_
  refine wp_aload_n (i := 0) dX12_holds_14 rfl rfl ?_
  refine wz_getR (b := 66) dX12_holds_15 (k57 hK) (f12_35 _ (by decide)) rfl ?_
  refine wp_iload_n (i := 1) dX12_holds_18 rfl rfl ?_
  obtain ⟨z1, hv⟩ := hv
  refine wz_iaload dX12_holds_19 (k66 hK) z1 ?_
  refine wp_iadd dX12_holds_20 ?_
  refine wp_icmp_ge 117 dX12_holds_21 (by decide) (fun q => ?_) (fun q => ?_)
  · replace hv := hv.1 q
    refine wp_iload_n (i := 3) dX12_holds_117 rfl rfl ?_
    obtain ⟨z, hv⟩ := hv
    obtain rfl := hv
    exact wp_ireturn dX12_holds_118 rfl (by rcases z with z | z <;> rw [z] <;> decide) rfl hq
  · replace hv := hv.2 q
    refine wp_aload_n (i := 0) dX12_holds_24 rfl rfl ?_
    refine wz_getR (b := 58) dX12_holds_25 (k57 hK) (f12_9 _ (by decide)) rfl ?_
    refine wp_iconst (v := 4) dX12_holds_28 (by decide) ?_
    refine wp_iload_n (i := 2) dX12_holds_29 rfl rfl ?_
    refine wp_imul dX12_holds_30 ?_
    refine wp_aload_n (i := 0) dX12_holds_31 rfl rfl ?_
    refine wz_getR (b := 63) dX12_holds_32 (k57 hK) (f12_26 _ (by decide)) rfl ?_
    refine wp_iload dX12_holds_35 rfl ?_
    obtain ⟨z2, hv⟩ := hv
    refine wz_iaload dX12_holds_37 (k63 hK) z2 ?_
    refine wp_iadd dX12_holds_38 ?_
    obtain ⟨z3, hv⟩ := hv
    refine wz_iaload dX12_holds_39 (k58 hK) z3 ?_
    refine wx_istore (ls' := [(0, .ref 57), (1, .int x1), (2, .int x2), (3, .int x3), (4, .int x4), (5, .int (V 58 ((((4 : Int32) * x2) + (V 63 (x4).toNatClampNeg))).toNatClampNeg))]) dX12_holds_40 (by decide) rfl ?_
    refine wp_aload_n (i := 0) dX12_holds_42 rfl rfl ?_
    refine wp_iload dX12_holds_43 rfl ?_
    obtain ⟨v4, hE, hv⟩ := hv
    refine wz_callV (vs := [.int x4]) (st := []) dX12_holds_45 (k57 hK) rfl k12_213_12 hE rfl (Nat.le_of_ble_eq_true rfl) (Nat.le_of_ble_eq_true rfl) ?_
    change wp _ _ _ _ _ [.int v4] _ _ _
    refine wx_istore (ls' := [(0, .ref 57), (1, .int x1), (2, .int x2), (3, .int x3), (4, .int x4), (5, .int (V 58 ((((4 : Int32) * x2) + (V 63 (x4).toNatClampNeg))).toNatClampNeg)), (6, .int v4)]) dX12_holds_48 (by decide) rfl ?_
    refine wp_iload_n (i := 3) dX12_holds_50 rfl rfl ?_
    refine wp_if_eq 109 dX12_holds_51 (by decide) (fun q => ?_) (fun q => ?_)
    · replace hv := hv.1 q
      refine wp_iconst (v := 0) dX12_holds_109 (by decide) ?_
      refine wx_istore_n (ls' := [(0, .ref 57), (1, .int x1), (2, .int x2), (3, .int (0 : Int32)), (4, .int x4), (5, .int (V 58 ((((4 : Int32) * x2) + (V 63 (x4).toNatClampNeg))).toNatClampNeg)), (6, .int v4)]) (i := 3) dX12_holds_110 rfl (by decide) rfl ?_
      refine wx_iinc (v := 1) (ls' := [(0, .ref 57), (1, .int x1), (2, .int x2), (3, .int (0 : Int32)), (4, .int (x4 + 1)), (5, .int (V 58 ((((4 : Int32) * x2) + (V 63 (x4).toNatClampNeg))).toNatClampNeg)), (6, .int v4)]) dX12_holds_111 rfl (by decide) (by decide) rfl ?_
      refine wp_goto 8 dX12_holds_114 (by decide) ?_
      refine wx_sub (ls' := [(0, .ref 57), (1, .int x1), (2, .int x2), (3, .int (0 : Int32)), (4, .int (x4 + 1))]) [0, 1, 2, 3, 4] rfl ?_
      exact hv Q hq
    · replace hv := hv.2 q
      refine wp_aload_n (i := 0) dX12_holds_54 rfl rfl ?_
      refine wz_getR (b := 64) dX12_holds_55 (k57 hK) (f12_29 _ (by decide)) rfl ?_
      refine wp_iload dX12_holds_58 rfl ?_
      obtain ⟨z5, hv⟩ := hv
      refine wz_iaload dX12_holds_60 (k64 hK) z5 ?_
      refine wp_bipush (v := 61) dX12_holds_61 (by decide) ?_
      refine wp_icmp_ne 76 dX12_holds_63 (by decide) (fun q => ?_) (fun q => ?_)
      · replace hv := hv.1 q
        refine wp_aload_n (i := 0) dX12_holds_76 rfl rfl ?_
        refine wz_getR (b := 64) dX12_holds_77 (k57 hK) (f12_29 _ (by decide)) rfl ?_
        refine wp_iload dX12_holds_80 rfl ?_
        obtain ⟨z6, hv⟩ := hv
        refine wz_iaload dX12_holds_82 (k64 hK) z6 ?_
        refine wp_bipush (v := 60) dX12_holds_83 (by decide) ?_
        refine wp_icmp_ne 98 dX12_holds_85 (by decide) (fun q => ?_) (fun q => ?_)
        · replace hv := hv.1 q
          refine wp_iload dX12_holds_98 rfl ?_
          refine wp_iload dX12_holds_100 rfl ?_
          refine wp_icmp_le 109 dX12_holds_102 (by decide) (fun q => ?_) (fun q => ?_)
          · replace hv := hv.1 q
            refine wp_iconst (v := 0) dX12_holds_109 (by decide) ?_
            refine wx_istore_n (ls' := [(0, .ref 57), (1, .int x1), (2, .int x2), (3, .int (0 : Int32)), (4, .int x4), (5, .int (V 58 ((((4 : Int32) * x2) + (V 63 (x4).toNatClampNeg))).toNatClampNeg)), (6, .int v4)]) (i := 3) dX12_holds_110 rfl (by decide) rfl ?_
            refine wx_iinc (v := 1) (ls' := [(0, .ref 57), (1, .int x1), (2, .int x2), (3, .int (0 : Int32)), (4, .int (x4 + 1)), (5, .int (V 58 ((((4 : Int32) * x2) + (V 63 (x4).toNatClampNeg))).toNatClampNeg)), (6, .int v4)]) dX12_holds_111 rfl (by decide) (by decide) rfl ?_
            refine wp_goto 8 dX12_holds_114 (by decide) ?_
            refine wx_sub (ls' := [(0, .ref 57), (1, .int x1), (2, .int x2), (3, .int (0 : Int32)), (4, .int (x4 + 1))]) [0, 1, 2, 3, 4] rfl ?_
            exact hv Q hq
          · replace hv := hv.2 q
            refine wp_iconst (v := 1) dX12_holds_105 (by decide) ?_
            refine wp_goto 110 dX12_holds_106 (by decide) ?_
            refine wx_istore_n (ls' := [(0, .ref 57), (1, .int x1), (2, .int x2), (3, .int (1 : Int32)), (4, .int x4), (5, .int (V 58 ((((4 : Int32) * x2) + (V 63 (x4).toNatClampNeg))).toNatClampNeg)), (6, .int v4)]) (i := 3) dX12_holds_110 rfl (by decide) rfl ?_
            refine wx_iinc (v := 1) (ls' := [(0, .ref 57), (1, .int x1), (2, .int x2), (3, .int (1 : Int32)), (4, .int (x4 + 1)), (5, .int (V 58 ((((4 : Int32) * x2) + (V 63 (x4).toNatClampNeg))).toNatClampNeg)), (6, .int v4)]) dX12_holds_111 rfl (by decide) (by decide) rfl ?_
            refine wp_goto 8 dX12_holds_114 (by decide) ?_
            refine wx_sub (ls' := [(0, .ref 57), (1, .int x1), (2, .int x2), (3, .int (1 : Int32)), (4, .int (x4 + 1))]) [0, 1, 2, 3, 4] rfl ?_
            exact hv Q hq
        · replace hv := hv.2 q
          refine wp_iload dX12_holds_88 rfl ?_
          refine wp_iload dX12_holds_90 rfl ?_
          refine wp_icmp_ge 109 dX12_holds_92 (by decide) (fun q => ?_) (fun q => ?_)
          · replace hv := hv.1 q
            refine wp_iconst (v := 0) dX12_holds_109 (by decide) ?_
            refine wx_istore_n (ls' := [(0, .ref 57), (1, .int x1), (2, .int x2), (3, .int (0 : Int32)), (4, .int x4), (5, .int (V 58 ((((4 : Int32) * x2) + (V 63 (x4).toNatClampNeg))).toNatClampNeg)), (6, .int v4)]) (i := 3) dX12_holds_110 rfl (by decide) rfl ?_
            refine wx_iinc (v := 1) (ls' := [(0, .ref 57), (1, .int x1), (2, .int x2), (3, .int (0 : Int32)), (4, .int (x4 + 1)), (5, .int (V 58 ((((4 : Int32) * x2) + (V 63 (x4).toNatClampNeg))).toNatClampNeg)), (6, .int v4)]) dX12_holds_111 rfl (by decide) (by decide) rfl ?_
            refine wp_goto 8 dX12_holds_114 (by decide) ?_
            refine wx_sub (ls' := [(0, .ref 57), (1, .int x1), (2, .int x2), (3, .int (0 : Int32)), (4, .int (x4 + 1))]) [0, 1, 2, 3, 4] rfl ?_
            exact hv Q hq
          · replace hv := hv.2 q
            refine wp_goto 105 dX12_holds_95 (by decide) ?_
            refine wp_iconst (v := 1) dX12_holds_105 (by decide) ?_
            refine wp_goto 110 dX12_holds_106 (by decide) ?_
            refine wx_istore_n (ls' := [(0, .ref 57), (1, .int x1), (2, .int x2), (3, .int (1 : Int32)), (4, .int x4), (5, .int (V 58 ((((4 : Int32) * x2) + (V 63 (x4).toNatClampNeg))).toNatClampNeg)), (6, .int v4)]) (i := 3) dX12_holds_110 rfl (by decide) rfl ?_
            refine wx_iinc (v := 1) (ls' := [(0, .ref 57), (1, .int x1), (2, .int x2), (3, .int (1 : Int32)), (4, .int (x4 + 1)), (5, .int (V 58 ((((4 : Int32) * x2) + (V 63 (x4).toNatClampNeg))).toNatClampNeg)), (6, .int v4)]) dX12_holds_111 rfl (by decide) (by decide) rfl ?_
            refine wp_goto 8 dX12_holds_114 (by decide) ?_
            refine wx_sub (ls' := [(0, .ref 57), (1, .int x1), (2, .int x2), (3, .int (1 : Int32)), (4, .int (x4 + 1))]) [0, 1, 2, 3, 4] rfl ?_
            exact hv Q hq
      · replace hv := hv.2 q
        refine wp_iload dX12_holds_66 rfl ?_
        refine wp_iload dX12_holds_68 rfl ?_
        refine wp_icmp_ne 109 dX12_holds_70 (by decide) (fun q => ?_) (fun q => ?_)
        · replace hv := hv.1 q
          refine wp_iconst (v := 0) dX12_holds_109 (by decide) ?_
          refine wx_istore_n (ls' := [(0, .ref 57), (1, .int x1), (2, .int x2), (3, .int (0 : Int32)), (4, .int x4), (5, .int (V 58 ((((4 : Int32) * x2) + (V 63 (x4).toNatClampNeg))).toNatClampNeg)), (6, .int v4)]) (i := 3) dX12_holds_110 rfl (by decide) rfl ?_
          refine wx_iinc (v := 1) (ls' := [(0, .ref 57), (1, .int x1), (2, .int x2), (3, .int (0 : Int32)), (4, .int (x4 + 1)), (5, .int (V 58 ((((4 : Int32) * x2) + (V 63 (x4).toNatClampNeg))).toNatClampNeg)), (6, .int v4)]) dX12_holds_111 rfl (by decide) (by decide) rfl ?_
          refine wp_goto 8 dX12_holds_114 (by decide) ?_
          refine wx_sub (ls' := [(0, .ref 57), (1, .int x1), (2, .int x2), (3, .int (0 : Int32)), (4, .int (x4 + 1))]) [0, 1, 2, 3, 4] rfl ?_
          exact hv Q hq
        · replace hv := hv.2 q
          refine wp_goto 105 dX12_holds_73 (by decide) ?_
          refine wp_iconst (v := 1) dX12_holds_105 (by decide) ?_
          refine wp_goto 110 dX12_holds_106 (by decide) ?_
          refine wx_istore_n (ls' := [(0, .ref 57), (1, .int x1), (2, .int x2), (3, .int (1 : Int32)), (4, .int x4), (5, .int (V 58 ((((4 : Int32) * x2) + (V 63 (x4).toNatClampNeg))).toNatClampNeg)), (6, .int v4)]) (i := 3) dX12_holds_110 rfl (by decide) rfl ?_
          refine wx_iinc (v := 1) (ls' := [(0, .ref 57), (1, .int x1), (2, .int x2), (3, .int (1 : Int32)), (4, .int (x4 + 1)), (5, .int (V 58 ((((4 : Int32) * x2) + (V 63 (x4).toNatClampNeg))).toNatClampNeg)), (6, .int v4)]) dX12_holds_111 rfl (by decide) (by decide) rfl ?_
          refine wp_goto 8 dX12_holds_114 (by decide) ?_
          refine wx_sub (ls' := [(0, .ref 57), (1, .int x1), (2, .int x2), (3, .int (1 : Int32)), (4, .int (x4 + 1))]) [0, 1, 2, 3, 4] rfl ?_
          exact hv Q hq
theorem wX12_begin_0 {x1 : Int32} {x2 : Int32} (hK : StK K)  (hv : (r = none ∧ V' = (up2 (up2 (up2 (up2 (up2 (up2 V 57 27 x1) 57 28 x2) 57 29 (0 : Int32)) 57 30 (-1 : Int32)) 57 31 (0 : Int32)) 57 33 (0 : Int32)))) : Ev G d mX12_begin 0 [(0, .ref 57), (1, .int x1), (2, .int x2)] (K, n, V, J, O) r (K, n, V', J, O) := by
  refine Ev.mk fun Q hq => ?_
  refine wp_aload_n (i := 0) dX12_begin_0 rfl rfl ?_
  refine wp_iload_n (i := 1) dX12_begin_1 rfl rfl ?_
  refine wz_putI dX12_begin_2 (k57 hK) (w12_207 _ (by decide)) rfl ?_
  refine wp_aload_n (i := 0) dX12_begin_5 rfl rfl ?_
  refine wp_iload_n (i := 2) dX12_begin_6 rfl rfl ?_
  refine wz_putI dX12_begin_7 (k57 hK) (w12_210 _ (by decide)) rfl ?_
  refine wp_aload_n (i := 0) dX12_begin_10 rfl rfl ?_
  refine wp_iconst (v := 0) dX12_begin_11 (by decide) ?_
  refine wz_putI dX12_begin_12 (k57 hK) (w12_216 _ (by decide)) rfl ?_
  refine wp_aload_n (i := 0) dX12_begin_15 rfl rfl ?_
  refine wp_iconst (v := -1) dX12_begin_16 (by decide) ?_
  refine wz_putI dX12_begin_17 (k57 hK) (w12_219 _ (by decide)) rfl ?_
  refine wp_aload_n (i := 0) dX12_begin_20 rfl rfl ?_
  refine wp_iconst (v := 0) dX12_begin_21 (by decide) ?_
  refine wz_putI dX12_begin_22 (k57 hK) (w12_222 _ (by decide)) rfl ?_
  refine wp_aload_n (i := 0) dX12_begin_25 rfl rfl ?_
  refine wp_iconst (v := 0) dX12_begin_26 (by decide) ?_
  refine wz_putI dX12_begin_27 (k57 hK) (w12_225 _ (by decide)) rfl ?_
  obtain ⟨rfl, rfl⟩ := hv
  exact wp_return dX12_begin_30 rfl rfl hq
theorem wX12_see_0 {x1 : Int32} {x2 : Int32} (hK : StK K)  (hv : (∃ (v1 : Int32), Ev G d mX12_holds 0 [(0, .ref 57), (1, .int x1), (2, .int x2)] (K, n, V, J, O) (some (.int v1)) (K, n, V, J, O) ∧ ((v1 ≠ 0 → (vp_in x1 10 ∧ (vp_in (((4 : Int32) * x2) + (V 68 (x1).toNatClampNeg)) 320 ∧ ((0 ≤ (V 57 30) → (vp_in x1 10 ∧ (vp_in (((4 : Int32) * (V 57 30)) + (V 68 (x1).toNatClampNeg)) 320 ∧ (((V 57 30) < 0 → Ev G (d + 1) mX12_see 123 [(0, .ref 57), (1, .int x1), (2, .int x2), (3, .int (V 58 ((((4 : Int32) * x2) + (V 68 (x1).toNatClampNeg))).toNatClampNeg)), (4, .int ((V 58 ((((4 : Int32) * x2) + (V 68 (x1).toNatClampNeg))).toNatClampNeg) - (V 58 ((((4 : Int32) * (V 57 30)) + (V 68 (x1).toNatClampNeg))).toNatClampNeg)))] (K, n, (up2 (up2 V 57 29 ((V 57 29) + (1 : Int32))) 57 31 ((V 57 31) + (V 58 ((((4 : Int32) * x2) + (V 68 (x1).toNatClampNeg))).toNatClampNeg))), J, O) r (K, n, V', J, O)) ∧ (¬ (V 57 30) < 0 → (vp_in x1 10 ∧ (((V 67 (x1).toNatClampNeg) ≠ (109 : Int32) → ((0 < ((V 58 ((((4 : Int32) * x2) + (V 68 (x1).toNatClampNeg))).toNatClampNeg) - (V 58 ((((4 : Int32) * (V 57 30)) + (V 68 (x1).toNatClampNeg))).toNatClampNeg)) → Ev G (d + 1) mX12_see 123 [(0, .ref 57), (1, .int x1), (2, .int x2), (3, .int (V 58 ((((4 : Int32) * x2) + (V 68 (x1).toNatClampNeg))).toNatClampNeg)), (4, .int ((V 58 ((((4 : Int32) * x2) + (V 68 (x1).toNatClampNeg))).toNatClampNeg) - (V 58 ((((4 : Int32) * (V 57 30)) + (V 68 (x1).toNatClampNeg))).toNatClampNeg)))] (K, n, (up2 (up2 V 57 29 ((V 57 29) + (1 : Int32))) 57 31 ((V 57 31) + (V 58 ((((4 : Int32) * x2) + (V 68 (x1).toNatClampNeg))).toNatClampNeg))), J, O) r (K, n, V', J, O)) ∧ (¬ 0 < ((V 58 ((((4 : Int32) * x2) + (V 68 (x1).toNatClampNeg))).toNatClampNeg) - (V 58 ((((4 : Int32) * (V 57 30)) + (V 68 (x1).toNatClampNeg))).toNatClampNeg)) → Ev G (d + 1) mX12_see 110 [(0, .ref 57), (1, .int x1), (2, .int x2), (3, .int (V 58 ((((4 : Int32) * x2) + (V 68 (x1).toNatClampNeg))).toNatClampNeg)), (4, .int ((V 58 ((((4 : Int32) * x2) + (V 68 (x1).toNatClampNeg))).toNatClampNeg) - (V 58 ((((4 : Int32) * (V 57 30)) + (V 68 (x1).toNatClampNeg))).toNatClampNeg)))] (K, n, (up2 (up2 V 57 29 ((V 57 29) + (1 : Int32))) 57 31 ((V 57 31) + (V 58 ((((4 : Int32) * x2) + (V 68 (x1).toNatClampNeg))).toNatClampNeg))), J, O) r (K, n, V', J, O)))) ∧ ((V 67 (x1).toNatClampNeg) = (109 : Int32) → ((0 ≤ ((V 58 ((((4 : Int32) * x2) + (V 68 (x1).toNatClampNeg))).toNatClampNeg) - (V 58 ((((4 : Int32) * (V 57 30)) + (V 68 (x1).toNatClampNeg))).toNatClampNeg)) → Ev G (d + 1) mX12_see 110 [(0, .ref 57), (1, .int x1), (2, .int x2), (3, .int (V 58 ((((4 : Int32) * x2) + (V 68 (x1).toNatClampNeg))).toNatClampNeg)), (4, .int ((V 58 ((((4 : Int32) * x2) + (V 68 (x1).toNatClampNeg))).toNatClampNeg) - (V 58 ((((4 : Int32) * (V 57 30)) + (V 68 (x1).toNatClampNeg))).toNatClampNeg)))] (K, n, (up2 (up2 V 57 29 ((V 57 29) + (1 : Int32))) 57 31 ((V 57 31) + (V 58 ((((4 : Int32) * x2) + (V 68 (x1).toNatClampNeg))).toNatClampNeg))), J, O) r (K, n, V', J, O)) ∧ (¬ 0 ≤ ((V 58 ((((4 : Int32) * x2) + (V 68 (x1).toNatClampNeg))).toNatClampNeg) - (V 58 ((((4 : Int32) * (V 57 30)) + (V 68 (x1).toNatClampNeg))).toNatClampNeg)) → Ev G (d + 1) mX12_see 123 [(0, .ref 57), (1, .int x1), (2, .int x2), (3, .int (V 58 ((((4 : Int32) * x2) + (V 68 (x1).toNatClampNeg))).toNatClampNeg)), (4, .int ((V 58 ((((4 : Int32) * x2) + (V 68 (x1).toNatClampNeg))).toNatClampNeg) - (V 58 ((((4 : Int32) * (V 57 30)) + (V 68 (x1).toNatClampNeg))).toNatClampNeg)))] (K, n, (up2 (up2 V 57 29 ((V 57 29) + (1 : Int32))) 57 31 ((V 57 31) + (V 58 ((((4 : Int32) * x2) + (V 68 (x1).toNatClampNeg))).toNatClampNeg))), J, O) r (K, n, V', J, O))))))))))) ∧ (¬ 0 ≤ (V 57 30) → (((V 57 30) < 0 → Ev G (d + 1) mX12_see 123 [(0, .ref 57), (1, .int x1), (2, .int x2), (3, .int (V 58 ((((4 : Int32) * x2) + (V 68 (x1).toNatClampNeg))).toNatClampNeg)), (4, .int (0 : Int32))] (K, n, (up2 (up2 V 57 29 ((V 57 29) + (1 : Int32))) 57 31 ((V 57 31) + (V 58 ((((4 : Int32) * x2) + (V 68 (x1).toNatClampNeg))).toNatClampNeg))), J, O) r (K, n, V', J, O)) ∧ (¬ (V 57 30) < 0 → (vp_in x1 10 ∧ (((V 67 (x1).toNatClampNeg) ≠ (109 : Int32) → Ev G (d + 1) mX12_see 110 [(0, .ref 57), (1, .int x1), (2, .int x2), (3, .int (V 58 ((((4 : Int32) * x2) + (V 68 (x1).toNatClampNeg))).toNatClampNeg)), (4, .int (0 : Int32))] (K, n, (up2 (up2 V 57 29 ((V 57 29) + (1 : Int32))) 57 31 ((V 57 31) + (V 58 ((((4 : Int32) * x2) + (V 68 (x1).toNatClampNeg))).toNatClampNeg))), J, O) r (K, n, V', J, O)) ∧ ((V 67 (x1).toNatClampNeg) = (109 : Int32) → Ev G (d + 1) mX12_see 110 [(0, .ref 57), (1, .int x1), (2, .int x2), (3, .int (V 58 ((((4 : Int32) * x2) + (V 68 (x1).toNatClampNeg))).toNatClampNeg)), (4, .int (0 : Int32))] (K, n, (up2 (up2 V 57 29 ((V 57 29) + (1 : Int32))) 57 31 ((V 57 31) + (V 58 ((((4 : Int32) * x2) + (V 68 (x1).toNatClampNeg))).toNatClampNeg))), J, O) r (K, n, V', J, O))))))))))) ∧ (v1 = 0 → (r = none ∧ V' = V))))) : Ev G (d + 1) mX12_see 0 [(0, .ref 57), (1, .int x1), (2, .int x2)] (K, n, V, J, O) r (K, n, V', J, O) := by
  refine Ev.mk fun Q hq => ?_
  refine wp_aload_n (i := 0) dX12_see_0 rfl rfl ?_
  refine wp_iload_n (i := 1) dX12_see_1 rfl rfl ?_
  refine wp_iload_n (i := 2) dX12_see_2 rfl rfl ?_
  obtain ⟨v1, hE, hv⟩ := hv
  refine wz_callV (vs := [.int x1, .int x2]) (st := []) dX12_see_3 (k57 hK) rfl k12_228_12 hE rfl (Nat.le_of_ble_eq_true rfl) (Nat.le_of_ble_eq_true rfl) ?_
  change wp _ _ _ _ _ [.int v1] _ _ _
  refine wp_if_ne 10 dX12_see_6 (by decide) (fun q => ?_) (fun q => ?_)
  · replace hv := hv.1 q
    refine wp_aload_n (i := 0) dX12_see_10 rfl rfl ?_
    refine wp_dupR dX12_see_11 ?_
    refine wz_getI dX12_see_12 (k57 hK) (f12_216 _ (by decide)) rfl ?_
    refine wp_iconst (v := 1) dX12_see_15 (by decide) ?_
    refine wp_iadd dX12_see_16 ?_
    refine wz_putI dX12_see_17 (k57 hK) (w12_216 _ (by decide)) rfl ?_
    refine wp_aload_n (i := 0) dX12_see_20 rfl rfl ?_
    refine wz_getR (b := 58) dX12_see_21 (k57 hK) (f12_9 _ (by decide)) rfl ?_
    refine wp_iconst (v := 4) dX12_see_24 (by decide) ?_
    refine wp_iload_n (i := 2) dX12_see_25 rfl rfl ?_
    refine wp_imul dX12_see_26 ?_
    refine wp_aload_n (i := 0) dX12_see_27 rfl rfl ?_
    refine wz_getR (b := 68) dX12_see_28 (k57 hK) (f12_41 _ (by decide)) rfl ?_
    refine wp_iload_n (i := 1) dX12_see_31 rfl rfl ?_
    obtain ⟨z2, hv⟩ := hv
    refine wz_ialoade (v := (V 68 (x1).toNatClampNeg)) dX12_see_32 (k68 hK) z2 (up2_a (by decide)) ?_
    refine wp_iadd dX12_see_33 ?_
    obtain ⟨z3, hv⟩ := hv
    refine wz_ialoade (v := (V 58 ((((4 : Int32) * x2) + (V 68 (x1).toNatClampNeg))).toNatClampNeg)) dX12_see_34 (k58 hK) z3 (up2_a (by decide)) ?_
    refine wx_istore_n (ls' := [(0, .ref 57), (1, .int x1), (2, .int x2), (3, .int (V 58 ((((4 : Int32) * x2) + (V 68 (x1).toNatClampNeg))).toNatClampNeg))]) (i := 3) dX12_see_35 rfl (by decide) rfl ?_
    refine wp_aload_n (i := 0) dX12_see_36 rfl rfl ?_
    refine wp_dupR dX12_see_37 ?_
    refine wz_getIe (v := (V 57 31)) dX12_see_38 (k57 hK) (f12_222 _ (by decide)) rfl (up2_k (by decide)) ?_
    refine wp_iload_n (i := 3) dX12_see_41 rfl rfl ?_
    refine wp_iadd dX12_see_42 ?_
    refine wz_putI dX12_see_43 (k57 hK) (w12_222 _ (by decide)) rfl ?_
    refine wp_aload_n (i := 0) dX12_see_46 rfl rfl ?_
    refine wz_getIe (v := (V 57 30)) dX12_see_47 (k57 hK) (f12_219 _ (by decide)) rfl (Eq.trans (up2_k (by decide)) (up2_k (by decide))) ?_
    refine wp_if_ge 57 dX12_see_50 (by decide) (fun q => ?_) (fun q => ?_)
    · replace hv := hv.1 q
      refine wp_iload_n (i := 3) dX12_see_57 rfl rfl ?_
      refine wp_aload_n (i := 0) dX12_see_58 rfl rfl ?_
      refine wz_getR (b := 58) dX12_see_59 (k57 hK) (f12_9 _ (by decide)) rfl ?_
      refine wp_iconst (v := 4) dX12_see_62 (by decide) ?_
      refine wp_aload_n (i := 0) dX12_see_63 rfl rfl ?_
      refine wz_getIe (v := (V 57 30)) dX12_see_64 (k57 hK) (f12_219 _ (by decide)) rfl (Eq.trans (up2_k (by decide)) (up2_k (by decide))) ?_
      refine wp_imul dX12_see_67 ?_
      refine wp_aload_n (i := 0) dX12_see_68 rfl rfl ?_
      refine wz_getR (b := 68) dX12_see_69 (k57 hK) (f12_41 _ (by decide)) rfl ?_
      refine wp_iload_n (i := 1) dX12_see_72 rfl rfl ?_
      obtain ⟨z4, hv⟩ := hv
      refine wz_ialoade (v := (V 68 (x1).toNatClampNeg)) dX12_see_73 (k68 hK) z4 (Eq.trans (up2_a (by decide)) (up2_a (by decide))) ?_
      refine wp_iadd dX12_see_74 ?_
      obtain ⟨z5, hv⟩ := hv
      refine wz_ialoade (v := (V 58 ((((4 : Int32) * (V 57 30)) + (V 68 (x1).toNatClampNeg))).toNatClampNeg)) dX12_see_75 (k58 hK) z5 (Eq.trans (up2_a (by decide)) (up2_a (by decide))) ?_
      refine wp_isub dX12_see_76 ?_
      refine wx_istore (ls' := [(0, .ref 57), (1, .int x1), (2, .int x2), (3, .int (V 58 ((((4 : Int32) * x2) + (V 68 (x1).toNatClampNeg))).toNatClampNeg)), (4, .int ((V 58 ((((4 : Int32) * x2) + (V 68 (x1).toNatClampNeg))).toNatClampNeg) - (V 58 ((((4 : Int32) * (V 57 30)) + (V 68 (x1).toNatClampNeg))).toNatClampNeg)))]) dX12_see_77 (by decide) rfl ?_
      refine wp_aload_n (i := 0) dX12_see_79 rfl rfl ?_
      refine wz_getIe (v := (V 57 30)) dX12_see_80 (k57 hK) (f12_219 _ (by decide)) rfl (Eq.trans (up2_k (by decide)) (up2_k (by decide))) ?_
      refine wp_if_lt 123 dX12_see_83 (by decide) (fun q => ?_) (fun q => ?_)
      · replace hv := hv.1 q
        exact hv Q hq
      · replace hv := hv.2 q
        refine wp_aload_n (i := 0) dX12_see_86 rfl rfl ?_
        refine wz_getR (b := 67) dX12_see_87 (k57 hK) (f12_38 _ (by decide)) rfl ?_
        refine wp_iload_n (i := 1) dX12_see_90 rfl rfl ?_
        obtain ⟨z6, hv⟩ := hv
        refine wz_ialoade (v := (V 67 (x1).toNatClampNeg)) dX12_see_91 (k67 hK) z6 (Eq.trans (up2_a (by decide)) (up2_a (by decide))) ?_
        refine wp_bipush (v := 109) dX12_see_92 (by decide) ?_
        refine wp_icmp_ne 105 dX12_see_94 (by decide) (fun q => ?_) (fun q => ?_)
        · replace hv := hv.1 q
          refine wp_iload dX12_see_105 rfl ?_
          refine wp_if_gt 123 dX12_see_107 (by decide) (fun q => ?_) (fun q => ?_)
          · replace hv := hv.1 q
            exact hv Q hq
          · replace hv := hv.2 q
            exact hv Q hq
        · replace hv := hv.2 q
          refine wp_iload dX12_see_97 rfl ?_
          refine wp_if_ge 110 dX12_see_99 (by decide) (fun q => ?_) (fun q => ?_)
          · replace hv := hv.1 q
            exact hv Q hq
          · replace hv := hv.2 q
            refine wp_goto 123 dX12_see_102 (by decide) ?_
            exact hv Q hq
    · replace hv := hv.2 q
      refine wp_iconst (v := 0) dX12_see_53 (by decide) ?_
      refine wp_goto 77 dX12_see_54 (by decide) ?_
      refine wx_istore (ls' := [(0, .ref 57), (1, .int x1), (2, .int x2), (3, .int (V 58 ((((4 : Int32) * x2) + (V 68 (x1).toNatClampNeg))).toNatClampNeg)), (4, .int (0 : Int32))]) dX12_see_77 (by decide) rfl ?_
      refine wp_aload_n (i := 0) dX12_see_79 rfl rfl ?_
      refine wz_getIe (v := (V 57 30)) dX12_see_80 (k57 hK) (f12_219 _ (by decide)) rfl (Eq.trans (up2_k (by decide)) (up2_k (by decide))) ?_
      refine wp_if_lt 123 dX12_see_83 (by decide) (fun q => ?_) (fun q => ?_)
      · replace hv := hv.1 q
        exact hv Q hq
      · replace hv := hv.2 q
        refine wp_aload_n (i := 0) dX12_see_86 rfl rfl ?_
        refine wz_getR (b := 67) dX12_see_87 (k57 hK) (f12_38 _ (by decide)) rfl ?_
        refine wp_iload_n (i := 1) dX12_see_90 rfl rfl ?_
        obtain ⟨z7, hv⟩ := hv
        refine wz_ialoade (v := (V 67 (x1).toNatClampNeg)) dX12_see_91 (k67 hK) z7 (Eq.trans (up2_a (by decide)) (up2_a (by decide))) ?_
        refine wp_bipush (v := 109) dX12_see_92 (by decide) ?_
        refine wp_icmp_ne 105 dX12_see_94 (by decide) (fun q => ?_) (fun q => ?_)
        · replace hv := hv.1 q
          refine wp_iload dX12_see_105 rfl ?_
          refine wp_if_gt 123 dX12_see_107 (by decide) (fun q => absurd q (by decide)) (fun _ => ?_)
          exact hv Q hq
        · replace hv := hv.2 q
          refine wp_iload dX12_see_97 rfl ?_
          refine wp_if_ge 110 dX12_see_99 (by decide) (fun _ => ?_) (fun q => absurd q (by decide))
          exact hv Q hq
  · replace hv := hv.2 q
    obtain ⟨rfl, rfl⟩ := hv
    exact wp_return dX12_see_9 rfl rfl hq
theorem wX12_see_110 {x1 : Int32} {x2 : Int32} {x3 : Int32} {x4 : Int32} (hK : StK K)  (hv : ((x4 ≠ 0 → Ev G (d + 1) mX12_see 127 [(0, .ref 57), (1, .int x1), (2, .int x2), (3, .int x3), (4, .int x4)] (K, n, V, J, O) r (K, n, V', J, O)) ∧ (x4 = 0 → (((V 57 30) ≤ x2 → Ev G (d + 1) mX12_see 127 [(0, .ref 57), (1, .int x1), (2, .int x2), (3, .int x3), (4, .int x4)] (K, n, V, J, O) r (K, n, V', J, O)) ∧ (¬ (V 57 30) ≤ x2 → Ev G (d + 1) mX12_see 123 [(0, .ref 57), (1, .int x1), (2, .int x2), (3, .int x3), (4, .int x4)] (K, n, V, J, O) r (K, n, V', J, O)))))) : Ev G (d + 1) mX12_see 110 [(0, .ref 57), (1, .int x1), (2, .int x2), (3, .int x3), (4, .int x4)] (K, n, V, J, O) r (K, n, V', J, O) := by
  refine Ev.mk fun Q hq => ?_
  refine wp_iload dX12_see_110 rfl ?_
  refine wp_if_ne 127 dX12_see_112 (by decide) (fun q => ?_) (fun q => ?_)
  · replace hv := hv.1 q
    exact hv Q hq
  · replace hv := hv.2 q
    refine wp_iload_n (i := 2) dX12_see_115 rfl rfl ?_
    refine wp_aload_n (i := 0) dX12_see_116 rfl rfl ?_
    refine wz_getI dX12_see_117 (k57 hK) (f12_219 _ (by decide)) rfl ?_
    refine wp_icmp_ge 127 dX12_see_120 (by decide) (fun q => ?_) (fun q => ?_)
    · replace hv := hv.1 q
      exact hv Q hq
    · replace hv := hv.2 q
      exact hv Q hq
theorem wX12_see_123 {x1 : Int32} {x2 : Int32} {x3 : Int32} {x4 : Int32} (hK : StK K)  (hv : (r = none ∧ V' = (up2 V 57 30 x2))) : Ev G (d + 1) mX12_see 123 [(0, .ref 57), (1, .int x1), (2, .int x2), (3, .int x3), (4, .int x4)] (K, n, V, J, O) r (K, n, V', J, O) := by
  refine Ev.mk fun Q hq => ?_
  refine wp_iconst (v := 1) dX12_see_123 (by decide) ?_
  refine wp_goto 128 dX12_see_124 (by decide) ?_
  refine wx_istore (ls' := [(0, .ref 57), (1, .int x1), (2, .int x2), (3, .int x3), (4, .int x4), (5, .int (1 : Int32))]) dX12_see_128 (by decide) rfl ?_
  refine wp_aload_n (i := 0) dX12_see_130 rfl rfl ?_
  refine wp_iload dX12_see_131 rfl ?_
  refine wp_if_eq 140 dX12_see_133 (by decide) (fun q => absurd q (by decide)) (fun _ => ?_)
  refine wp_iload_n (i := 2) dX12_see_136 rfl rfl ?_
  refine wp_goto 144 dX12_see_137 (by decide) ?_
  refine wz_putI dX12_see_144 (k57 hK) (w12_219 _ (by decide)) rfl ?_
  obtain ⟨rfl, rfl⟩ := hv
  exact wp_return dX12_see_147 rfl rfl hq
theorem wX12_see_127 {x1 : Int32} {x2 : Int32} {x3 : Int32} {x4 : Int32} (hK : StK K)  (hv : (r = none ∧ V' = (up2 V 57 30 (V 57 30)))) : Ev G (d + 1) mX12_see 127 [(0, .ref 57), (1, .int x1), (2, .int x2), (3, .int x3), (4, .int x4)] (K, n, V, J, O) r (K, n, V', J, O) := by
  refine Ev.mk fun Q hq => ?_
  refine wp_iconst (v := 0) dX12_see_127 (by decide) ?_
  refine wx_istore (ls' := [(0, .ref 57), (1, .int x1), (2, .int x2), (3, .int x3), (4, .int x4), (5, .int (0 : Int32))]) dX12_see_128 (by decide) rfl ?_
  refine wp_aload_n (i := 0) dX12_see_130 rfl rfl ?_
  refine wp_iload dX12_see_131 rfl ?_
  refine wp_if_eq 140 dX12_see_133 (by decide) (fun _ => ?_) (fun q => absurd q (by decide))
  refine wp_aload_n (i := 0) dX12_see_140 rfl rfl ?_
  refine wz_getI dX12_see_141 (k57 hK) (f12_219 _ (by decide)) rfl ?_
  refine wz_putI dX12_see_144 (k57 hK) (w12_219 _ (by decide)) rfl ?_
  obtain ⟨rfl, rfl⟩ := hv
  exact wp_return dX12_see_147 rfl rfl hq
theorem wX12_told_0 {x1 : Int32} (hK : StK K)  (hv : (vp_in x1 10 ∧ (((V 67 (x1).toNatClampNeg) ≠ (110 : Int32) → (vp_in x1 10 ∧ (((V 67 (x1).toNatClampNeg) ≠ (115 : Int32) → r = some (.int (V 57 30))) ∧ ((V 67 (x1).toNatClampNeg) = (115 : Int32) → r = some (.int (V 57 31)))))) ∧ ((V 67 (x1).toNatClampNeg) = (110 : Int32) → r = some (.int (V 57 29)))))) : Ev G d mX12_told 0 [(0, .ref 57), (1, .int x1)] (K, n, V, J, O) r (K, n, V, J, O) := by
  refine Ev.mk fun Q hq => ?_
  refine wp_aload_n (i := 0) dX12_told_0 rfl rfl ?_
  refine wz_getR (b := 67) dX12_told_1 (k57 hK) (f12_38 _ (by decide)) rfl ?_
  refine wp_iload_n (i := 1) dX12_told_4 rfl rfl ?_
  obtain ⟨z1, hv⟩ := hv
  refine wz_iaload dX12_told_5 (k67 hK) z1 ?_
  refine wp_bipush (v := 110) dX12_told_6 (by decide) ?_
  refine wp_icmp_ne 18 dX12_told_8 (by decide) (fun q => ?_) (fun q => ?_)
  · replace hv := hv.1 q
    refine wp_aload_n (i := 0) dX12_told_18 rfl rfl ?_
    refine wz_getR (b := 67) dX12_told_19 (k57 hK) (f12_38 _ (by decide)) rfl ?_
    refine wp_iload_n (i := 1) dX12_told_22 rfl rfl ?_
    obtain ⟨z2, hv⟩ := hv
    refine wz_iaload dX12_told_23 (k67 hK) z2 ?_
    refine wp_bipush (v := 115) dX12_told_24 (by decide) ?_
    refine wp_icmp_ne 36 dX12_told_26 (by decide) (fun q => ?_) (fun q => ?_)
    · replace hv := hv.1 q
      refine wp_aload_n (i := 0) dX12_told_36 rfl rfl ?_
      refine wz_getI dX12_told_37 (k57 hK) (f12_219 _ (by decide)) rfl ?_
      obtain rfl := hv
      exact wp_ireturn dX12_told_40 rfl rfl rfl hq
    · replace hv := hv.2 q
      refine wp_aload_n (i := 0) dX12_told_29 rfl rfl ?_
      refine wz_getI dX12_told_30 (k57 hK) (f12_222 _ (by decide)) rfl ?_
      refine wp_goto 40 dX12_told_33 (by decide) ?_
      obtain rfl := hv
      exact wp_ireturn dX12_told_40 rfl rfl rfl hq
  · replace hv := hv.2 q
    refine wp_aload_n (i := 0) dX12_told_11 rfl rfl ?_
    refine wz_getI dX12_told_12 (k57 hK) (f12_216 _ (by decide)) rfl ?_
    refine wp_goto 40 dX12_told_15 (by decide) ?_
    obtain rfl := hv
    exact wp_ireturn dX12_told_40 rfl rfl rfl hq
theorem wX12_answerOf_0 {x1 : Int32} {x2 : Int32} {x3 : Int32} (hK : StK K)  (hv : (∃ (V1 : SV), Ev G d mX12_begin 0 [(0, .ref 57), (1, .int x2), (2, .int x3)] (K, n, V, J, O) none (K, n, V1, J, O) ∧ Ev G (d + 1) mX12_answerOf 9 [(0, .ref 57), (1, .int x1), (2, .int x2), (3, .int x3), (4, .int (0 : Int32))] (K, n, V1, J, O) r (K, n, V', J, O))) : Ev G (d + 1) mX12_answerOf 0 [(0, .ref 57), (1, .int x1), (2, .int x2), (3, .int x3)] (K, n, V, J, O) r (K, n, V', J, O) := by
  refine Ev.mk fun Q hq => ?_
  refine wp_aload_n (i := 0) dX12_answerOf_0 rfl rfl ?_
  refine wp_iload_n (i := 2) dX12_answerOf_1 rfl rfl ?_
  refine wp_iload_n (i := 3) dX12_answerOf_2 rfl rfl ?_
  obtain ⟨V1, hE, hv⟩ := hv
  refine wz_callV (vs := [.int x2, .int x3]) (st := []) dX12_answerOf_3 (k57 hK) rfl k12_231_12 hE rfl (Nat.le_of_ble_eq_true rfl) (Nat.le_of_ble_eq_true rfl) ?_
  change wp _ _ _ _ _ [] _ _ _
  refine wp_iconst (v := 0) dX12_answerOf_6 (by decide) ?_
  refine wx_istore (ls' := [(0, .ref 57), (1, .int x1), (2, .int x2), (3, .int x3), (4, .int (0 : Int32))]) dX12_answerOf_7 (by decide) rfl ?_
  exact hv Q hq
theorem wX12_answerOf_9 {x1 : Int32} {x2 : Int32} {x3 : Int32} {x4 : Int32} (hK : StK K)  (hv : (((V 57 2) ≤ x4 → (∃ (v1 : Int32), Ev G d mX12_told 0 [(0, .ref 57), (1, .int x1)] (K, n, V, J, O) (some (.int v1)) (K, n, V, J, O) ∧ (r = some (.int v1) ∧ V' = V))) ∧ (¬ (V 57 2) ≤ x4 → (vp_in x4 80 ∧ (((V 59 (x4).toNatClampNeg) = 0 → Ev G (d + 1) mX12_answerOf 9 [(0, .ref 57), (1, .int x1), (2, .int x2), (3, .int x3), (4, .int (x4 + 1))] (K, n, V, J, O) r (K, n, V', J, O)) ∧ (¬ (V 59 (x4).toNatClampNeg) = 0 → (∃ (V3 : SV), Ev G d mX12_see 0 [(0, .ref 57), (1, .int x1), (2, .int x4)] (K, n, V, J, O) none (K, n, V3, J, O) ∧ Ev G (d + 1) mX12_answerOf 9 [(0, .ref 57), (1, .int x1), (2, .int x2), (3, .int x3), (4, .int (x4 + 1))] (K, n, V3, J, O) r (K, n, V', J, O)))))))) : Ev G (d + 1) mX12_answerOf 9 [(0, .ref 57), (1, .int x1), (2, .int x2), (3, .int x3), (4, .int x4)] (K, n, V, J, O) r (K, n, V', J, O) := by
  refine Ev.mk fun Q hq => ?_
  refine wp_iload dX12_answerOf_9 rfl ?_
  refine wp_aload_n (i := 0) dX12_answerOf_11 rfl rfl ?_
  refine wz_getI dX12_answerOf_12 (k57 hK) (f12_130 _ (by decide)) rfl ?_
  refine wp_icmp_ge 41 dX12_answerOf_15 (by decide) (fun q => ?_) (fun q => ?_)
  · replace hv := hv.1 q
    refine wp_aload_n (i := 0) dX12_answerOf_41 rfl rfl ?_
    refine wp_iload_n (i := 1) dX12_answerOf_42 rfl rfl ?_
    obtain ⟨v1, hE, hv⟩ := hv
    refine wz_callV (vs := [.int x1]) (st := []) dX12_answerOf_43 (k57 hK) rfl k12_237_12 hE rfl (Nat.le_of_ble_eq_true rfl) (Nat.le_of_ble_eq_true rfl) ?_
    change wp _ _ _ _ _ [.int v1] _ _ _
    obtain ⟨rfl, rfl⟩ := hv
    exact wp_ireturn dX12_answerOf_46 rfl rfl rfl hq
  · replace hv := hv.2 q
    refine wp_aload_n (i := 0) dX12_answerOf_18 rfl rfl ?_
    refine wz_getR (b := 59) dX12_answerOf_19 (k57 hK) (f12_13 _ (by decide)) rfl ?_
    refine wp_iload dX12_answerOf_22 rfl ?_
    obtain ⟨z2, hv⟩ := hv
    refine wz_baload dX12_answerOf_24 (k59 hK) z2 ?_
    refine wp_if_eq 35 dX12_answerOf_25 (by decide) (fun q => ?_) (fun q => ?_)
    · replace hv := hv.1 q
      refine wx_iinc (v := 1) (ls' := [(0, .ref 57), (1, .int x1), (2, .int x2), (3, .int x3), (4, .int (x4 + 1))]) dX12_answerOf_35 rfl (by decide) (by decide) rfl ?_
      refine wp_goto 9 dX12_answerOf_38 (by decide) ?_
      exact hv Q hq
    · replace hv := hv.2 q
      refine wp_aload_n (i := 0) dX12_answerOf_28 rfl rfl ?_
      refine wp_iload_n (i := 1) dX12_answerOf_29 rfl rfl ?_
      refine wp_iload dX12_answerOf_30 rfl ?_
      obtain ⟨V3, hE, hv⟩ := hv
      refine wz_callV (vs := [.int x1, .int x4]) (st := []) dX12_answerOf_32 (k57 hK) rfl k12_234_12 hE rfl (Nat.le_of_ble_eq_true rfl) (Nat.le_of_ble_eq_true rfl) ?_
      change wp _ _ _ _ _ [] _ _ _
      refine wx_iinc (v := 1) (ls' := [(0, .ref 57), (1, .int x1), (2, .int x2), (3, .int x3), (4, .int (x4 + 1))]) dX12_answerOf_35 rfl (by decide) (by decide) rfl ?_
      refine wp_goto 9 dX12_answerOf_38 (by decide) ?_
      exact hv Q hq
theorem wX12_answer_0 {x1 : Int32} {x2 : Int32} {x3 : Int32} (hK : StK K)  (hv : (∃ (v1 : Int32), Ev G d mX12_isAsk 0 [(0, .ref 57), (1, .int x1)] (K, n, V, J, O) (some (.int v1)) (K, n, V, J, O) ∧ ((v1 = 0 → (r = some (.int (-2000000000 : Int32)) ∧ V' = (up2 V 57 33 (V 57 33)))) ∧ (¬ v1 = 0 → (∃ (v2 : Int32), Ev G d mX12_isValue 0 [(0, .int x2)] (K, n, V, J, O) (some (.int v2)) (K, n, V, J, O) ∧ ((v2 = 0 → (r = some (.int (-2000000000 : Int32)) ∧ V' = (up2 V 57 33 (V 57 33)))) ∧ (¬ v2 = 0 → (∃ (v3 : Int32), Ev G d mX12_isValue 0 [(0, .int x3)] (K, n, V, J, O) (some (.int v3)) (K, n, V, J, O) ∧ ((v3 = 0 → (r = some (.int (-2000000000 : Int32)) ∧ V' = (up2 V 57 33 (V 57 33)))) ∧ (¬ v3 = 0 → (∃ (v5 : Int32) (V4 : SV), Ev G d mX12_answerOf 0 [(0, .ref 57), (1, .int x1), (2, .int x2), (3, .int x3)] (K, n, V, J, O) (some (.int v5)) (K, n, V4, J, O) ∧ (r = some (.int v5) ∧ V' = (up2 V4 57 33 (V 57 33)))))))))))))) : Ev G (d + 1) mX12_answer 0 [(0, .ref 57), (1, .int x1), (2, .int x2), (3, .int x3)] (K, n, V, J, O) r (K, n, V', J, O) := by
  refine Ev.mk fun Q hq => ?_
  refine wp_aload_n (i := 0) dX12_answer_0 rfl rfl ?_
  refine wz_getI dX12_answer_1 (k57 hK) (f12_225 _ (by decide)) rfl ?_
  refine wx_istore (ls' := [(0, .ref 57), (1, .int x1), (2, .int x2), (3, .int x3), (4, .int (V 57 33))]) dX12_answer_4 (by decide) rfl ?_
  refine wp_aload_n (i := 0) dX12_answer_6 rfl rfl ?_
  refine wp_iload_n (i := 1) dX12_answer_7 rfl rfl ?_
  obtain ⟨v1, hE, hv⟩ := hv
  refine wz_callV (vs := [.int x1]) (st := []) dX12_answer_8 (k57 hK) rfl k12_204_12 hE rfl (Nat.le_of_ble_eq_true rfl) (Nat.le_of_ble_eq_true rfl) ?_
  change wp _ _ _ _ _ [.int v1] _ _ _
  refine wp_if_eq 38 dX12_answer_11 (by decide) (fun q => ?_) (fun q => ?_)
  · replace hv := hv.1 q
    refine wp_ldc (v := -2000000000) dX12_answer_38 q12_175 ?_
    refine wx_istore (ls' := [(0, .ref 57), (1, .int x1), (2, .int x2), (3, .int x3), (4, .int (V 57 33)), (5, .int (-2000000000 : Int32))]) dX12_answer_40 (by decide) rfl ?_
    refine wp_aload_n (i := 0) dX12_answer_42 rfl rfl ?_
    refine wp_iload dX12_answer_43 rfl ?_
    refine wz_putI dX12_answer_45 (k57 hK) (w12_225 _ (by decide)) rfl ?_
    refine wp_iload dX12_answer_48 rfl ?_
    obtain ⟨rfl, rfl⟩ := hv
    exact wp_ireturn dX12_answer_50 rfl rfl rfl hq
  · replace hv := hv.2 q
    refine wp_iload_n (i := 2) dX12_answer_14 rfl rfl ?_
    obtain ⟨v2, hE, hv⟩ := hv
    refine wz_callS (vs := [.int x2]) (st := []) dX12_answer_15 k12_145 hE rfl (Nat.le_of_ble_eq_true rfl) (Nat.le_of_ble_eq_true rfl) ?_
    change wp _ _ _ _ _ [.int v2] _ _ _
    refine wp_if_eq 38 dX12_answer_18 (by decide) (fun q => ?_) (fun q => ?_)
    · replace hv := hv.1 q
      refine wp_ldc (v := -2000000000) dX12_answer_38 q12_175 ?_
      refine wx_istore (ls' := [(0, .ref 57), (1, .int x1), (2, .int x2), (3, .int x3), (4, .int (V 57 33)), (5, .int (-2000000000 : Int32))]) dX12_answer_40 (by decide) rfl ?_
      refine wp_aload_n (i := 0) dX12_answer_42 rfl rfl ?_
      refine wp_iload dX12_answer_43 rfl ?_
      refine wz_putI dX12_answer_45 (k57 hK) (w12_225 _ (by decide)) rfl ?_
      refine wp_iload dX12_answer_48 rfl ?_
      obtain ⟨rfl, rfl⟩ := hv
      exact wp_ireturn dX12_answer_50 rfl rfl rfl hq
    · replace hv := hv.2 q
      refine wp_iload_n (i := 3) dX12_answer_21 rfl rfl ?_
      obtain ⟨v3, hE, hv⟩ := hv
      refine wz_callS (vs := [.int x3]) (st := []) dX12_answer_22 k12_145 hE rfl (Nat.le_of_ble_eq_true rfl) (Nat.le_of_ble_eq_true rfl) ?_
      change wp _ _ _ _ _ [.int v3] _ _ _
      refine wp_if_eq 38 dX12_answer_25 (by decide) (fun q => ?_) (fun q => ?_)
      · replace hv := hv.1 q
        refine wp_ldc (v := -2000000000) dX12_answer_38 q12_175 ?_
        refine wx_istore (ls' := [(0, .ref 57), (1, .int x1), (2, .int x2), (3, .int x3), (4, .int (V 57 33)), (5, .int (-2000000000 : Int32))]) dX12_answer_40 (by decide) rfl ?_
        refine wp_aload_n (i := 0) dX12_answer_42 rfl rfl ?_
        refine wp_iload dX12_answer_43 rfl ?_
        refine wz_putI dX12_answer_45 (k57 hK) (w12_225 _ (by decide)) rfl ?_
        refine wp_iload dX12_answer_48 rfl ?_
        obtain ⟨rfl, rfl⟩ := hv
        exact wp_ireturn dX12_answer_50 rfl rfl rfl hq
      · replace hv := hv.2 q
        refine wp_aload_n (i := 0) dX12_answer_28 rfl rfl ?_
        refine wp_iload_n (i := 1) dX12_answer_29 rfl rfl ?_
        refine wp_iload_n (i := 2) dX12_answer_30 rfl rfl ?_
        refine wp_iload_n (i := 3) dX12_answer_31 rfl rfl ?_
        obtain ⟨v5, V4, hE, hv⟩ := hv
        refine wz_callV (vs := [.int x1, .int x2, .int x3]) (st := []) dX12_answer_32 (k57 hK) rfl k12_240_12 hE rfl (Nat.le_of_ble_eq_true rfl) (Nat.le_of_ble_eq_true rfl) ?_
        change wp _ _ _ _ _ [.int v5] _ _ _
        refine wp_goto 40 dX12_answer_35 (by decide) ?_
        refine wx_istore (ls' := [(0, .ref 57), (1, .int x1), (2, .int x2), (3, .int x3), (4, .int (V 57 33)), (5, .int v5)]) dX12_answer_40 (by decide) rfl ?_
        refine wp_aload_n (i := 0) dX12_answer_42 rfl rfl ?_
        refine wp_iload dX12_answer_43 rfl ?_
        refine wz_putI dX12_answer_45 (k57 hK) (w12_225 _ (by decide)) rfl ?_
        refine wp_iload dX12_answer_48 rfl ?_
        obtain ⟨rfl, rfl⟩ := hv
        exact wp_ireturn dX12_answer_50 rfl rfl rfl hq
theorem wX12_keyIn_0 {x1 : Int32} {x2 : Int32} (hK : StK K)  (hv : (vp_in x1 10 ∧ (vp_in (((4 : Int32) * x2) + (V 71 (x1).toNatClampNeg)) 320 ∧ r = some (.int (V 58 ((((4 : Int32) * x2) + (V 71 (x1).toNatClampNeg))).toNatClampNeg))))) : Ev G d mX12_keyIn 0 [(0, .ref 57), (1, .int x1), (2, .int x2)] (K, n, V, J, O) r (K, n, V, J, O) := by
  refine Ev.mk fun Q hq => ?_
  refine wp_aload_n (i := 0) dX12_keyIn_0 rfl rfl ?_
  refine wz_getR (b := 58) dX12_keyIn_1 (k57 hK) (f12_9 _ (by decide)) rfl ?_
  refine wp_iconst (v := 4) dX12_keyIn_4 (by decide) ?_
  refine wp_iload_n (i := 2) dX12_keyIn_5 rfl rfl ?_
  refine wp_imul dX12_keyIn_6 ?_
  refine wp_aload_n (i := 0) dX12_keyIn_7 rfl rfl ?_
  refine wz_getR (b := 71) dX12_keyIn_8 (k57 hK) (f12_50 _ (by decide)) rfl ?_
  refine wp_iload_n (i := 1) dX12_keyIn_11 rfl rfl ?_
  obtain ⟨z1, hv⟩ := hv
  refine wz_iaload dX12_keyIn_12 (k71 hK) z1 ?_
  refine wp_iadd dX12_keyIn_13 ?_
  obtain ⟨z2, hv⟩ := hv
  refine wz_iaload dX12_keyIn_14 (k58 hK) z2 ?_
  obtain rfl := hv
  exact wp_ireturn dX12_keyIn_15 rfl rfl rfl hq
theorem wX12_isAhead_0 {x1 : Int32} {x2 : Int32} {x3 : Int32} {x4 : Int32} (hK : StK K)  (hv : (∃ (v1 : Int32), Ev G d mX12_keyIn 0 [(0, .ref 57), (1, .int x1), (2, .int x2)] (K, n, V, J, O) (some (.int v1)) (K, n, V, J, O) ∧ ((v1 < x3 → r = some (.int (1 : Int32))) ∧ (¬ v1 < x3 → (∃ (v2 : Int32), Ev G d mX12_keyIn 0 [(0, .ref 57), (1, .int x1), (2, .int x2)] (K, n, V, J, O) (some (.int v2)) (K, n, V, J, O) ∧ ((v2 ≠ x3 → r = some (.int (0 : Int32))) ∧ (v2 = x3 → ((x4 ≤ x2 → r = some (.int (0 : Int32))) ∧ (¬ x4 ≤ x2 → r = some (.int (1 : Int32))))))))))) : Ev G (d + 1) mX12_isAhead 0 [(0, .ref 57), (1, .int x1), (2, .int x2), (3, .int x3), (4, .int x4)] (K, n, V, J, O) r (K, n, V, J, O) := by
  refine Ev.mk fun Q hq => ?_
  refine wp_aload_n (i := 0) dX12_isAhead_0 rfl rfl ?_
  refine wp_iload_n (i := 1) dX12_isAhead_1 rfl rfl ?_
  refine wp_iload_n (i := 2) dX12_isAhead_2 rfl rfl ?_
  obtain ⟨v1, hE, hv⟩ := hv
  refine wz_callV (vs := [.int x1, .int x2]) (st := []) dX12_isAhead_3 (k57 hK) rfl k12_244_12 hE rfl (Nat.le_of_ble_eq_true rfl) (Nat.le_of_ble_eq_true rfl) ?_
  change wp _ _ _ _ _ [.int v1] _ _ _
  refine wp_iload_n (i := 3) dX12_isAhead_6 rfl rfl ?_
  refine wp_icmp_lt 26 dX12_isAhead_7 (by decide) (fun q => ?_) (fun q => ?_)
  · replace hv := hv.1 q
    refine wp_iconst (v := 1) dX12_isAhead_26 (by decide) ?_
    refine wp_goto 31 dX12_isAhead_27 (by decide) ?_
    obtain rfl := hv
    exact wp_ireturn dX12_isAhead_31 rfl (by decide) rfl hq
  · replace hv := hv.2 q
    refine wp_aload_n (i := 0) dX12_isAhead_10 rfl rfl ?_
    refine wp_iload_n (i := 1) dX12_isAhead_11 rfl rfl ?_
    refine wp_iload_n (i := 2) dX12_isAhead_12 rfl rfl ?_
    obtain ⟨v2, hE, hv⟩ := hv
    refine wz_callV (vs := [.int x1, .int x2]) (st := []) dX12_isAhead_13 (k57 hK) rfl k12_244_12 hE rfl (Nat.le_of_ble_eq_true rfl) (Nat.le_of_ble_eq_true rfl) ?_
    change wp _ _ _ _ _ [.int v2] _ _ _
    refine wp_iload_n (i := 3) dX12_isAhead_16 rfl rfl ?_
    refine wp_icmp_ne 30 dX12_isAhead_17 (by decide) (fun q => ?_) (fun q => ?_)
    · replace hv := hv.1 q
      refine wp_iconst (v := 0) dX12_isAhead_30 (by decide) ?_
      obtain rfl := hv
      exact wp_ireturn dX12_isAhead_31 rfl (by decide) rfl hq
    · replace hv := hv.2 q
      refine wp_iload_n (i := 2) dX12_isAhead_20 rfl rfl ?_
      refine wp_iload dX12_isAhead_21 rfl ?_
      refine wp_icmp_ge 30 dX12_isAhead_23 (by decide) (fun q => ?_) (fun q => ?_)
      · replace hv := hv.1 q
        refine wp_iconst (v := 0) dX12_isAhead_30 (by decide) ?_
        obtain rfl := hv
        exact wp_ireturn dX12_isAhead_31 rfl (by decide) rfl hq
      · replace hv := hv.2 q
        refine wp_iconst (v := 1) dX12_isAhead_26 (by decide) ?_
        refine wp_goto 31 dX12_isAhead_27 (by decide) ?_
        obtain rfl := hv
        exact wp_ireturn dX12_isAhead_31 rfl (by decide) rfl hq
theorem wX12_isLess_0 {x1 : Int32} {x2 : Int32} {x3 : Int32} (hK : StK K)  (hv : (∃ (v1 : Int32), Ev G d mX12_keyIn 0 [(0, .ref 57), (1, .int x1), (2, .int x3)] (K, n, V, J, O) (some (.int v1)) (K, n, V, J, O) ∧ (∃ (v2 : Int32), Ev G d mX12_isAhead 0 [(0, .ref 57), (1, .int x1), (2, .int x2), (3, .int v1), (4, .int x3)] (K, n, V, J, O) (some (.int v2)) (K, n, V, J, O) ∧ ((v2 = 0 ∨ v2 = 1) ∧ r = some (.int v2))))) : Ev G (d + 1) mX12_isLess 0 [(0, .ref 57), (1, .int x1), (2, .int x2), (3, .int x3)] (K, n, V, J, O) r (K, n, V, J, O) := by
  refine Ev.mk fun Q hq => ?_
  refine wp_aload_n (i := 0) dX12_isLess_0 rfl rfl ?_
  refine wp_iload_n (i := 1) dX12_isLess_1 rfl rfl ?_
  refine wp_iload_n (i := 2) dX12_isLess_2 rfl rfl ?_
  refine wp_aload_n (i := 0) dX12_isLess_3 rfl rfl ?_
  refine wp_iload_n (i := 1) dX12_isLess_4 rfl rfl ?_
  refine wp_iload_n (i := 3) dX12_isLess_5 rfl rfl ?_
  obtain ⟨v1, hE, hv⟩ := hv
  refine wz_callV (vs := [.int x1, .int x3]) (st := [.int x2, .int x1, .ref 57]) dX12_isLess_6 (k57 hK) rfl k12_244_12 hE rfl (Nat.le_of_ble_eq_true rfl) (Nat.le_of_ble_eq_true rfl) ?_
  change wp _ _ _ _ _ [.int v1, .int x2, .int x1, .ref 57] _ _ _
  refine wp_iload_n (i := 3) dX12_isLess_9 rfl rfl ?_
  obtain ⟨v2, hE, hv⟩ := hv
  refine wz_callV (vs := [.int x1, .int x2, .int v1, .int x3]) (st := []) dX12_isLess_10 (k57 hK) rfl k12_248_12 hE rfl (Nat.le_of_ble_eq_true rfl) (Nat.le_of_ble_eq_true rfl) ?_
  change wp _ _ _ _ _ [.int v2] _ _ _
  obtain ⟨z, hv⟩ := hv
  obtain rfl := hv
  exact wp_ireturn dX12_isLess_13 rfl (by rcases z with z | z <;> rw [z] <;> decide) rfl hq
theorem wX12_placeOf_0 {x1 : Int32} {x2 : Int32} {x3 : Int32} (hK : StK K)  (hv : (vp_in x1 10 ∧ Ev G (d + 1) mX12_placeOf 11 [(0, .ref 57), (1, .int x1), (2, .int x2), (3, .int x3), (4, .int (0 : Int32)), (5, .int (V 73 (x1).toNatClampNeg))] (K, n, V, J, O) r (K, n, V', J, O))) : Ev G (d + 1) mX12_placeOf 0 [(0, .ref 57), (1, .int x1), (2, .int x2), (3, .int x3)] (K, n, V, J, O) r (K, n, V', J, O) := by
  refine Ev.mk fun Q hq => ?_
  refine wp_iconst (v := 0) dX12_placeOf_0 (by decide) ?_
  refine wx_istore (ls' := [(0, .ref 57), (1, .int x1), (2, .int x2), (3, .int x3), (4, .int (0 : Int32))]) dX12_placeOf_1 (by decide) rfl ?_
  refine wp_aload_n (i := 0) dX12_placeOf_3 rfl rfl ?_
  refine wz_getR (b := 73) dX12_placeOf_4 (k57 hK) (f12_56 _ (by decide)) rfl ?_
  refine wp_iload_n (i := 1) dX12_placeOf_7 rfl rfl ?_
  obtain ⟨z1, hv⟩ := hv
  refine wz_iaload dX12_placeOf_8 (k73 hK) z1 ?_
  refine wx_istore (ls' := [(0, .ref 57), (1, .int x1), (2, .int x2), (3, .int x3), (4, .int (0 : Int32)), (5, .int (V 73 (x1).toNatClampNeg))]) dX12_placeOf_9 (by decide) rfl ?_
  exact hv Q hq
theorem wX12_placeOf_11 {x1 : Int32} {x2 : Int32} {x3 : Int32} {x4 : Int32} {x5 : Int32} (hK : StK K)  (hv : ((x5 ≤ x4 → (r = some (.int x4) ∧ V' = V)) ∧ (¬ x5 ≤ x4 → (vp_in (((80 : Int32) * x1) + ((x4 + x5) / (2 : Int32))) 800 ∧ (∃ (v2 : Int32), Ev G d mX12_isAhead 0 [(0, .ref 57), (1, .int x1), (2, .int (V 72 ((((80 : Int32) * x1) + ((x4 + x5) / (2 : Int32)))).toNatClampNeg)), (3, .int x2), (4, .int x3)] (K, n, (up2 V 57 32 ((V 57 32) + (1 : Int32))), J, O) (some (.int v2)) (K, n, (up2 V 57 32 ((V 57 32) + (1 : Int32))), J, O) ∧ ((v2 = 0 → Ev G (d + 1) mX12_placeOf 11 [(0, .ref 57), (1, .int x1), (2, .int x2), (3, .int x3), (4, .int x4), (5, .int ((x4 + x5) / (2 : Int32)))] (K, n, (up2 V 57 32 ((V 57 32) + (1 : Int32))), J, O) r (K, n, V', J, O)) ∧ (¬ v2 = 0 → Ev G (d + 1) mX12_placeOf 11 [(0, .ref 57), (1, .int x1), (2, .int x2), (3, .int x3), (4, .int (((x4 + x5) / (2 : Int32)) + (1 : Int32))), (5, .int x5)] (K, n, (up2 V 57 32 ((V 57 32) + (1 : Int32))), J, O) r (K, n, V', J, O)))))))) : Ev G (d + 1) mX12_placeOf 11 [(0, .ref 57), (1, .int x1), (2, .int x2), (3, .int x3), (4, .int x4), (5, .int x5)] (K, n, V, J, O) r (K, n, V', J, O) := by
  refine Ev.mk fun Q hq => ?_
  refine wp_iload dX12_placeOf_11 rfl ?_
  refine wp_iload dX12_placeOf_13 rfl ?_
  refine wp_icmp_ge 75 dX12_placeOf_15 (by decide) (fun q => ?_) (fun q => ?_)
  · replace hv := hv.1 q
    refine wp_iload dX12_placeOf_75 rfl ?_
    obtain ⟨rfl, rfl⟩ := hv
    exact wp_ireturn dX12_placeOf_77 rfl rfl rfl hq
  · replace hv := hv.2 q
    refine wp_iload dX12_placeOf_18 rfl ?_
    refine wp_iload dX12_placeOf_20 rfl ?_
    refine wp_iadd dX12_placeOf_22 ?_
    refine wp_iconst (v := 2) dX12_placeOf_23 (by decide) ?_
    refine wp_idiv dX12_placeOf_24 (by decide) ?_
    refine wx_istore (ls' := [(0, .ref 57), (1, .int x1), (2, .int x2), (3, .int x3), (4, .int x4), (5, .int x5), (6, .int ((x4 + x5) / (2 : Int32)))]) dX12_placeOf_25 (by decide) rfl ?_
    refine wp_aload_n (i := 0) dX12_placeOf_27 rfl rfl ?_
    refine wp_dupR dX12_placeOf_28 ?_
    refine wz_getI dX12_placeOf_29 (k57 hK) (f12_252 _ (by decide)) rfl ?_
    refine wp_iconst (v := 1) dX12_placeOf_32 (by decide) ?_
    refine wp_iadd dX12_placeOf_33 ?_
    refine wz_putI dX12_placeOf_34 (k57 hK) (w12_252 _ (by decide)) rfl ?_
    refine wp_aload_n (i := 0) dX12_placeOf_37 rfl rfl ?_
    refine wp_iload_n (i := 1) dX12_placeOf_38 rfl rfl ?_
    refine wp_aload_n (i := 0) dX12_placeOf_39 rfl rfl ?_
    refine wz_getR (b := 72) dX12_placeOf_40 (k57 hK) (f12_53 _ (by decide)) rfl ?_
    refine wp_bipush (v := 80) dX12_placeOf_43 (by decide) ?_
    refine wp_iload_n (i := 1) dX12_placeOf_45 rfl rfl ?_
    refine wp_imul dX12_placeOf_46 ?_
    refine wp_iload dX12_placeOf_47 rfl ?_
    refine wp_iadd dX12_placeOf_49 ?_
    obtain ⟨z1, hv⟩ := hv
    refine wz_ialoade (v := (V 72 ((((80 : Int32) * x1) + ((x4 + x5) / (2 : Int32)))).toNatClampNeg)) dX12_placeOf_50 (k72 hK) z1 (up2_a (by decide)) ?_
    refine wp_iload_n (i := 2) dX12_placeOf_51 rfl rfl ?_
    refine wp_iload_n (i := 3) dX12_placeOf_52 rfl rfl ?_
    obtain ⟨v2, hE, hv⟩ := hv
    refine wz_callV (vs := [.int x1, .int (V 72 ((((80 : Int32) * x1) + ((x4 + x5) / (2 : Int32)))).toNatClampNeg), .int x2, .int x3]) (st := []) dX12_placeOf_53 (k57 hK) rfl k12_248_12 hE rfl (Nat.le_of_ble_eq_true rfl) (Nat.le_of_ble_eq_true rfl) ?_
    change wp _ _ _ _ _ [.int v2] _ _ _
    refine wp_if_eq 68 dX12_placeOf_56 (by decide) (fun q => ?_) (fun q => ?_)
    · replace hv := hv.1 q
      refine wp_iload dX12_placeOf_68 rfl ?_
      refine wx_istore (ls' := [(0, .ref 57), (1, .int x1), (2, .int x2), (3, .int x3), (4, .int x4), (5, .int ((x4 + x5) / (2 : Int32))), (6, .int ((x4 + x5) / (2 : Int32)))]) dX12_placeOf_70 (by decide) rfl ?_
      refine wp_goto 11 dX12_placeOf_72 (by decide) ?_
      refine wx_sub (ls' := [(0, .ref 57), (1, .int x1), (2, .int x2), (3, .int x3), (4, .int x4), (5, .int ((x4 + x5) / (2 : Int32)))]) [0, 1, 2, 3, 4, 5] rfl ?_
      exact hv Q hq
    · replace hv := hv.2 q
      refine wp_iload dX12_placeOf_59 rfl ?_
      refine wp_iconst (v := 1) dX12_placeOf_61 (by decide) ?_
      refine wp_iadd dX12_placeOf_62 ?_
      refine wx_istore (ls' := [(0, .ref 57), (1, .int x1), (2, .int x2), (3, .int x3), (4, .int (((x4 + x5) / (2 : Int32)) + (1 : Int32))), (5, .int x5), (6, .int ((x4 + x5) / (2 : Int32)))]) dX12_placeOf_63 (by decide) rfl ?_
      refine wp_goto 72 dX12_placeOf_65 (by decide) ?_
      refine wp_goto 11 dX12_placeOf_72 (by decide) ?_
      refine wx_sub (ls' := [(0, .ref 57), (1, .int x1), (2, .int x2), (3, .int x3), (4, .int (((x4 + x5) / (2 : Int32)) + (1 : Int32))), (5, .int x5)]) [0, 1, 2, 3, 4, 5] rfl ?_
      exact hv Q hq
theorem wX12_insert_0 {x1 : Int32} {x2 : Int32} {x3 : Int32} (hK : StK K)  (hv : (vp_in x1 10 ∧ Ev G d mX12_insert 8 [(0, .ref 57), (1, .int x1), (2, .int x2), (3, .int x3), (4, .int (V 73 (x1).toNatClampNeg))] (K, n, V, J, O) r (K, n, V', J, O))) : Ev G d mX12_insert 0 [(0, .ref 57), (1, .int x1), (2, .int x2), (3, .int x3)] (K, n, V, J, O) r (K, n, V', J, O) := by
  refine Ev.mk fun Q hq => ?_
  refine wp_aload_n (i := 0) dX12_insert_0 rfl rfl ?_
  refine wz_getR (b := 73) dX12_insert_1 (k57 hK) (f12_56 _ (by decide)) rfl ?_
  refine wp_iload_n (i := 1) dX12_insert_4 rfl rfl ?_
  obtain ⟨z1, hv⟩ := hv
  refine wz_iaload dX12_insert_5 (k73 hK) z1 ?_
  refine wx_istore (ls' := [(0, .ref 57), (1, .int x1), (2, .int x2), (3, .int x3), (4, .int (V 73 (x1).toNatClampNeg))]) dX12_insert_6 (by decide) rfl ?_
  exact hv Q hq
theorem wX12_insert_8 {x1 : Int32} {x2 : Int32} {x3 : Int32} {x4 : Int32} (hK : StK K)  (hv : ((x4 ≤ x2 → (vp_in (((80 : Int32) * x1) + x2) 800 ∧ (vp_in x1 10 ∧ (vp_in x1 10 ∧ (r = none ∧ V' = (up2 (up2 V 72 ((((80 : Int32) * x1) + x2)).toNatClampNeg x3) 73 (x1).toNatClampNeg ((V 73 (x1).toNatClampNeg) + (1 : Int32)))))))) ∧ (¬ x4 ≤ x2 → (vp_in ((((80 : Int32) * x1) + x4) - (1 : Int32)) 800 ∧ (vp_in (((80 : Int32) * x1) + x4) 800 ∧ Ev G d mX12_insert 8 [(0, .ref 57), (1, .int x1), (2, .int x2), (3, .int x3), (4, .int (x4 + (-1)))] (K, n, (up2 V 72 ((((80 : Int32) * x1) + x4)).toNatClampNeg (V 72 (((((80 : Int32) * x1) + x4) - (1 : Int32))).toNatClampNeg)), J, O) r (K, n, V', J, O)))))) : Ev G d mX12_insert 8 [(0, .ref 57), (1, .int x1), (2, .int x2), (3, .int x3), (4, .int x4)] (K, n, V, J, O) r (K, n, V', J, O) := by
  refine Ev.mk fun Q hq => ?_
  refine wp_iload dX12_insert_8 rfl ?_
  refine wp_iload_n (i := 2) dX12_insert_10 rfl rfl ?_
  refine wp_icmp_le 46 dX12_insert_11 (by decide) (fun q => ?_) (fun q => ?_)
  · replace hv := hv.1 q
    refine wp_aload_n (i := 0) dX12_insert_46 rfl rfl ?_
    refine wz_getR (b := 72) dX12_insert_47 (k57 hK) (f12_53 _ (by decide)) rfl ?_
    refine wp_bipush (v := 80) dX12_insert_50 (by decide) ?_
    refine wp_iload_n (i := 1) dX12_insert_52 rfl rfl ?_
    refine wp_imul dX12_insert_53 ?_
    refine wp_iload_n (i := 2) dX12_insert_54 rfl rfl ?_
    refine wp_iadd dX12_insert_55 ?_
    refine wp_iload_n (i := 3) dX12_insert_56 rfl rfl ?_
    obtain ⟨z1, hv⟩ := hv
    refine wz_iastore dX12_insert_57 (k72 hK) z1 ?_
    refine wp_aload_n (i := 0) dX12_insert_58 rfl rfl ?_
    refine wz_getR (b := 73) dX12_insert_59 (k57 hK) (f12_56 _ (by decide)) rfl ?_
    refine wp_iload_n (i := 1) dX12_insert_62 rfl rfl ?_
    refine wp_dup2 dX12_insert_63 ?_
    obtain ⟨z2, hv⟩ := hv
    refine wz_ialoade (v := (V 73 (x1).toNatClampNeg)) dX12_insert_64 (k73 hK) z2 (up2_a (by decide)) ?_
    refine wp_iconst (v := 1) dX12_insert_65 (by decide) ?_
    refine wp_iadd dX12_insert_66 ?_
    obtain ⟨z3, hv⟩ := hv
    refine wz_iastore dX12_insert_67 (k73 hK) z3 ?_
    obtain ⟨rfl, rfl⟩ := hv
    exact wp_return dX12_insert_68 rfl rfl hq
  · replace hv := hv.2 q
    refine wp_aload_n (i := 0) dX12_insert_14 rfl rfl ?_
    refine wz_getR (b := 72) dX12_insert_15 (k57 hK) (f12_53 _ (by decide)) rfl ?_
    refine wp_bipush (v := 80) dX12_insert_18 (by decide) ?_
    refine wp_iload_n (i := 1) dX12_insert_20 rfl rfl ?_
    refine wp_imul dX12_insert_21 ?_
    refine wp_iload dX12_insert_22 rfl ?_
    refine wp_iadd dX12_insert_24 ?_
    refine wp_aload_n (i := 0) dX12_insert_25 rfl rfl ?_
    refine wz_getR (b := 72) dX12_insert_26 (k57 hK) (f12_53 _ (by decide)) rfl ?_
    refine wp_bipush (v := 80) dX12_insert_29 (by decide) ?_
    refine wp_iload_n (i := 1) dX12_insert_31 rfl rfl ?_
    refine wp_imul dX12_insert_32 ?_
    refine wp_iload dX12_insert_33 rfl ?_
    refine wp_iadd dX12_insert_35 ?_
    refine wp_iconst (v := 1) dX12_insert_36 (by decide) ?_
    refine wp_isub dX12_insert_37 ?_
    obtain ⟨z4, hv⟩ := hv
    refine wz_iaload dX12_insert_38 (k72 hK) z4 ?_
    obtain ⟨z5, hv⟩ := hv
    refine wz_iastore dX12_insert_39 (k72 hK) z5 ?_
    refine wx_iinc (v := -1) (ls' := [(0, .ref 57), (1, .int x1), (2, .int x2), (3, .int x3), (4, .int (x4 + (-1)))]) dX12_insert_40 rfl (by decide) (by decide) rfl ?_
    refine wp_goto 8 dX12_insert_43 (by decide) ?_
    exact hv Q hq
theorem wX12_remove_0 {x1 : Int32} {x2 : Int32} (hK : StK K)  (hv : (vp_in x1 10 ∧ (vp_in x1 10 ∧ Ev G d mX12_remove 12 [(0, .ref 57), (1, .int x1), (2, .int x2), (3, .int x2)] (K, n, (up2 V 73 (x1).toNatClampNeg ((V 73 (x1).toNatClampNeg) - (1 : Int32))), J, O) r (K, n, V', J, O)))) : Ev G d mX12_remove 0 [(0, .ref 57), (1, .int x1), (2, .int x2)] (K, n, V, J, O) r (K, n, V', J, O) := by
  refine Ev.mk fun Q hq => ?_
  refine wp_aload_n (i := 0) dX12_remove_0 rfl rfl ?_
  refine wz_getR (b := 73) dX12_remove_1 (k57 hK) (f12_56 _ (by decide)) rfl ?_
  refine wp_iload_n (i := 1) dX12_remove_4 rfl rfl ?_
  refine wp_dup2 dX12_remove_5 ?_
  obtain ⟨z1, hv⟩ := hv
  refine wz_iaload dX12_remove_6 (k73 hK) z1 ?_
  refine wp_iconst (v := 1) dX12_remove_7 (by decide) ?_
  refine wp_isub dX12_remove_8 ?_
  obtain ⟨z2, hv⟩ := hv
  refine wz_iastore dX12_remove_9 (k73 hK) z2 ?_
  refine wp_iload_n (i := 2) dX12_remove_10 rfl rfl ?_
  refine wx_istore_n (ls' := [(0, .ref 57), (1, .int x1), (2, .int x2), (3, .int x2)]) (i := 3) dX12_remove_11 rfl (by decide) rfl ?_
  exact hv Q hq
theorem wX12_remove_12 {x1 : Int32} {x2 : Int32} {x3 : Int32} (hK : StK K)  (hv : (vp_in x1 10 ∧ (((V 73 (x1).toNatClampNeg) ≤ x3 → (r = none ∧ V' = V)) ∧ (¬ (V 73 (x1).toNatClampNeg) ≤ x3 → (vp_in ((((80 : Int32) * x1) + x3) + (1 : Int32)) 800 ∧ (vp_in (((80 : Int32) * x1) + x3) 800 ∧ Ev G d mX12_remove 12 [(0, .ref 57), (1, .int x1), (2, .int x2), (3, .int (x3 + 1))] (K, n, (up2 V 72 ((((80 : Int32) * x1) + x3)).toNatClampNeg (V 72 (((((80 : Int32) * x1) + x3) + (1 : Int32))).toNatClampNeg)), J, O) r (K, n, V', J, O))))))) : Ev G d mX12_remove 12 [(0, .ref 57), (1, .int x1), (2, .int x2), (3, .int x3)] (K, n, V, J, O) r (K, n, V', J, O) := by
  refine Ev.mk fun Q hq => ?_
  refine wp_iload_n (i := 3) dX12_remove_12 rfl rfl ?_
  refine wp_aload_n (i := 0) dX12_remove_13 rfl rfl ?_
  refine wz_getR (b := 73) dX12_remove_14 (k57 hK) (f12_56 _ (by decide)) rfl ?_
  refine wp_iload_n (i := 1) dX12_remove_17 rfl rfl ?_
  obtain ⟨z1, hv⟩ := hv
  refine wz_iaload dX12_remove_18 (k73 hK) z1 ?_
  refine wp_icmp_ge 52 dX12_remove_19 (by decide) (fun q => ?_) (fun q => ?_)
  · replace hv := hv.1 q
    obtain ⟨rfl, rfl⟩ := hv
    exact wp_return dX12_remove_52 rfl rfl hq
  · replace hv := hv.2 q
    refine wp_aload_n (i := 0) dX12_remove_22 rfl rfl ?_
    refine wz_getR (b := 72) dX12_remove_23 (k57 hK) (f12_53 _ (by decide)) rfl ?_
    refine wp_bipush (v := 80) dX12_remove_26 (by decide) ?_
    refine wp_iload_n (i := 1) dX12_remove_28 rfl rfl ?_
    refine wp_imul dX12_remove_29 ?_
    refine wp_iload_n (i := 3) dX12_remove_30 rfl rfl ?_
    refine wp_iadd dX12_remove_31 ?_
    refine wp_aload_n (i := 0) dX12_remove_32 rfl rfl ?_
    refine wz_getR (b := 72) dX12_remove_33 (k57 hK) (f12_53 _ (by decide)) rfl ?_
    refine wp_bipush (v := 80) dX12_remove_36 (by decide) ?_
    refine wp_iload_n (i := 1) dX12_remove_38 rfl rfl ?_
    refine wp_imul dX12_remove_39 ?_
    refine wp_iload_n (i := 3) dX12_remove_40 rfl rfl ?_
    refine wp_iadd dX12_remove_41 ?_
    refine wp_iconst (v := 1) dX12_remove_42 (by decide) ?_
    refine wp_iadd dX12_remove_43 ?_
    obtain ⟨z2, hv⟩ := hv
    refine wz_iaload dX12_remove_44 (k72 hK) z2 ?_
    obtain ⟨z3, hv⟩ := hv
    refine wz_iastore dX12_remove_45 (k72 hK) z3 ?_
    refine wx_iinc (v := 1) (ls' := [(0, .ref 57), (1, .int x1), (2, .int x2), (3, .int (x3 + 1))]) dX12_remove_46 rfl (by decide) (by decide) rfl ?_
    refine wp_goto 12 dX12_remove_49 (by decide) ?_
    exact hv Q hq
theorem wX12_placeIn_0 {x1 : Int32} {x2 : Int32} (hK : StK K)  (hv : Ev G d mX12_placeIn 2 [(0, .ref 57), (1, .int x1), (2, .int x2), (3, .int (0 : Int32))] (K, n, V, J, O) r (K, n, V, J, O)) : Ev G d mX12_placeIn 0 [(0, .ref 57), (1, .int x1), (2, .int x2)] (K, n, V, J, O) r (K, n, V, J, O) := by
  refine Ev.mk fun Q hq => ?_
  refine wp_iconst (v := 0) dX12_placeIn_0 (by decide) ?_
  refine wx_istore_n (ls' := [(0, .ref 57), (1, .int x1), (2, .int x2), (3, .int (0 : Int32))]) (i := 3) dX12_placeIn_1 rfl (by decide) rfl ?_
  exact hv Q hq
theorem wX12_placeIn_2 {x1 : Int32} {x2 : Int32} {x3 : Int32} (hK : StK K)  (hv : (vp_in (((80 : Int32) * x1) + x3) 800 ∧ (((V 72 ((((80 : Int32) * x1) + x3)).toNatClampNeg) = x2 → r = some (.int x3)) ∧ (¬ (V 72 ((((80 : Int32) * x1) + x3)).toNatClampNeg) = x2 → Ev G d mX12_placeIn 2 [(0, .ref 57), (1, .int x1), (2, .int x2), (3, .int (x3 + 1))] (K, n, V, J, O) r (K, n, V, J, O))))) : Ev G d mX12_placeIn 2 [(0, .ref 57), (1, .int x1), (2, .int x2), (3, .int x3)] (K, n, V, J, O) r (K, n, V, J, O) := by
  refine Ev.mk fun Q hq => ?_
  refine wp_aload_n (i := 0) dX12_placeIn_2 rfl rfl ?_
  refine wz_getR (b := 72) dX12_placeIn_3 (k57 hK) (f12_53 _ (by decide)) rfl ?_
  refine wp_bipush (v := 80) dX12_placeIn_6 (by decide) ?_
  refine wp_iload_n (i := 1) dX12_placeIn_8 rfl rfl ?_
  refine wp_imul dX12_placeIn_9 ?_
  refine wp_iload_n (i := 3) dX12_placeIn_10 rfl rfl ?_
  refine wp_iadd dX12_placeIn_11 ?_
  obtain ⟨z1, hv⟩ := hv
  refine wz_iaload dX12_placeIn_12 (k72 hK) z1 ?_
  refine wp_iload_n (i := 2) dX12_placeIn_13 rfl rfl ?_
  refine wp_icmp_eq 23 dX12_placeIn_14 (by decide) (fun q => ?_) (fun q => ?_)
  · replace hv := hv.1 q
    refine wp_iload_n (i := 3) dX12_placeIn_23 rfl rfl ?_
    obtain rfl := hv
    exact wp_ireturn dX12_placeIn_24 rfl rfl rfl hq
  · replace hv := hv.2 q
    refine wx_iinc (v := 1) (ls' := [(0, .ref 57), (1, .int x1), (2, .int x2), (3, .int (x3 + 1))]) dX12_placeIn_17 rfl (by decide) (by decide) rfl ?_
    refine wp_goto 2 dX12_placeIn_20 (by decide) ?_
    exact hv Q hq
theorem wX12_change_0 {x1 : Int32} {x2 : Int32} {x3 : Int32} (hK : StK K)  (hv : (vp_in (((80 : Int32) * x1) + x2) 800 ∧ (vp_in (((80 : Int32) * x1) + x3) 800 ∧ (vp_in (((80 : Int32) * x1) + x2) 800 ∧ (vp_in (((80 : Int32) * x1) + x3) 800 ∧ (r = none ∧ V' = (up2 (up2 V 72 ((((80 : Int32) * x1) + x2)).toNatClampNeg (V 72 ((((80 : Int32) * x1) + x3)).toNatClampNeg)) 72 ((((80 : Int32) * x1) + x3)).toNatClampNeg (V 72 ((((80 : Int32) * x1) + x2)).toNatClampNeg)))))))) : Ev G d mX12_change 0 [(0, .ref 57), (1, .int x1), (2, .int x2), (3, .int x3)] (K, n, V, J, O) r (K, n, V', J, O) := by
  refine Ev.mk fun Q hq => ?_
  refine wp_aload_n (i := 0) dX12_change_0 rfl rfl ?_
  refine wz_getR (b := 72) dX12_change_1 (k57 hK) (f12_53 _ (by decide)) rfl ?_
  refine wp_bipush (v := 80) dX12_change_4 (by decide) ?_
  refine wp_iload_n (i := 1) dX12_change_6 rfl rfl ?_
  refine wp_imul dX12_change_7 ?_
  refine wp_iload_n (i := 2) dX12_change_8 rfl rfl ?_
  refine wp_iadd dX12_change_9 ?_
  obtain ⟨z1, hv⟩ := hv
  refine wz_iaload dX12_change_10 (k72 hK) z1 ?_
  refine wx_istore (ls' := [(0, .ref 57), (1, .int x1), (2, .int x2), (3, .int x3), (4, .int (V 72 ((((80 : Int32) * x1) + x2)).toNatClampNeg))]) dX12_change_11 (by decide) rfl ?_
  refine wp_aload_n (i := 0) dX12_change_13 rfl rfl ?_
  refine wz_getR (b := 72) dX12_change_14 (k57 hK) (f12_53 _ (by decide)) rfl ?_
  refine wp_bipush (v := 80) dX12_change_17 (by decide) ?_
  refine wp_iload_n (i := 1) dX12_change_19 rfl rfl ?_
  refine wp_imul dX12_change_20 ?_
  refine wp_iload_n (i := 2) dX12_change_21 rfl rfl ?_
  refine wp_iadd dX12_change_22 ?_
  refine wp_aload_n (i := 0) dX12_change_23 rfl rfl ?_
  refine wz_getR (b := 72) dX12_change_24 (k57 hK) (f12_53 _ (by decide)) rfl ?_
  refine wp_bipush (v := 80) dX12_change_27 (by decide) ?_
  refine wp_iload_n (i := 1) dX12_change_29 rfl rfl ?_
  refine wp_imul dX12_change_30 ?_
  refine wp_iload_n (i := 3) dX12_change_31 rfl rfl ?_
  refine wp_iadd dX12_change_32 ?_
  obtain ⟨z2, hv⟩ := hv
  refine wz_iaload dX12_change_33 (k72 hK) z2 ?_
  obtain ⟨z3, hv⟩ := hv
  refine wz_iastore dX12_change_34 (k72 hK) z3 ?_
  refine wp_aload_n (i := 0) dX12_change_35 rfl rfl ?_
  refine wz_getR (b := 72) dX12_change_36 (k57 hK) (f12_53 _ (by decide)) rfl ?_
  refine wp_bipush (v := 80) dX12_change_39 (by decide) ?_
  refine wp_iload_n (i := 1) dX12_change_41 rfl rfl ?_
  refine wp_imul dX12_change_42 ?_
  refine wp_iload_n (i := 3) dX12_change_43 rfl rfl ?_
  refine wp_iadd dX12_change_44 ?_
  refine wp_iload dX12_change_45 rfl ?_
  obtain ⟨z4, hv⟩ := hv
  refine wz_iastore dX12_change_47 (k72 hK) z4 ?_
  obtain ⟨rfl, rfl⟩ := hv
  exact wp_return dX12_change_48 rfl rfl hq
theorem wX12_goUp_0 {x1 : Int32} {x2 : Int32} (hK : StK K)  (hv : ((x2 ≤ 0 → Ev G (d + 1) mX12_goUp 13 [(0, .ref 57), (1, .int x1), (2, .int x2), (3, .int x2), (4, .int (0 : Int32))] (K, n, V, J, O) r (K, n, V', J, O)) ∧ (¬ x2 ≤ 0 → Ev G (d + 1) mX12_goUp 13 [(0, .ref 57), (1, .int x1), (2, .int x2), (3, .int x2), (4, .int (1 : Int32))] (K, n, V, J, O) r (K, n, V', J, O)))) : Ev G (d + 1) mX12_goUp 0 [(0, .ref 57), (1, .int x1), (2, .int x2)] (K, n, V, J, O) r (K, n, V', J, O) := by
  refine Ev.mk fun Q hq => ?_
  refine wp_iload_n (i := 2) dX12_goUp_0 rfl rfl ?_
  refine wx_istore_n (ls' := [(0, .ref 57), (1, .int x1), (2, .int x2), (3, .int x2)]) (i := 3) dX12_goUp_1 rfl (by decide) rfl ?_
  refine wp_iload_n (i := 3) dX12_goUp_2 rfl rfl ?_
  refine wp_if_le 10 dX12_goUp_3 (by decide) (fun q => ?_) (fun q => ?_)
  · replace hv := hv.1 q
    refine wp_iconst (v := 0) dX12_goUp_10 (by decide) ?_
    refine wx_istore (ls' := [(0, .ref 57), (1, .int x1), (2, .int x2), (3, .int x2), (4, .int (0 : Int32))]) dX12_goUp_11 (by decide) rfl ?_
    exact hv Q hq
  · replace hv := hv.2 q
    refine wp_iconst (v := 1) dX12_goUp_6 (by decide) ?_
    refine wp_goto 11 dX12_goUp_7 (by decide) ?_
    refine wx_istore (ls' := [(0, .ref 57), (1, .int x1), (2, .int x2), (3, .int x2), (4, .int (1 : Int32))]) dX12_goUp_11 (by decide) rfl ?_
    exact hv Q hq
theorem wX12_goUp_13 {x1 : Int32} {x2 : Int32} {x3 : Int32} {x4 : Int32} (hK : StK K)  (hv : ((x4 = 0 → (r = some (.int x3) ∧ V' = V)) ∧ (¬ x4 = 0 → (vp_in (((80 : Int32) * x1) + x3) 800 ∧ (vp_in (((80 : Int32) * x1) + ((x3 - (1 : Int32)) / (2 : Int32))) 800 ∧ (∃ (v3 : Int32), Ev G d mX12_isLess 0 [(0, .ref 57), (1, .int x1), (2, .int (V 72 ((((80 : Int32) * x1) + x3)).toNatClampNeg)), (3, .int (V 72 ((((80 : Int32) * x1) + ((x3 - (1 : Int32)) / (2 : Int32)))).toNatClampNeg))] (K, n, (up2 V 57 32 ((V 57 32) + (1 : Int32))), J, O) (some (.int v3)) (K, n, (up2 V 57 32 ((V 57 32) + (1 : Int32))), J, O) ∧ ((v3 = 0 → ((v3 = 0 → Ev G (d + 1) mX12_goUp 13 [(0, .ref 57), (1, .int x1), (2, .int x2), (3, .int x3), (4, .int (0 : Int32))] (K, n, (up2 V 57 32 ((V 57 32) + (1 : Int32))), J, O) r (K, n, V', J, O)) ∧ (¬ v3 = 0 → ((x3 ≤ 0 → Ev G (d + 1) mX12_goUp 13 [(0, .ref 57), (1, .int x1), (2, .int x2), (3, .int x3), (4, .int (0 : Int32))] (K, n, (up2 V 57 32 ((V 57 32) + (1 : Int32))), J, O) r (K, n, V', J, O)) ∧ (¬ x3 ≤ 0 → Ev G (d + 1) mX12_goUp 13 [(0, .ref 57), (1, .int x1), (2, .int x2), (3, .int x3), (4, .int (1 : Int32))] (K, n, (up2 V 57 32 ((V 57 32) + (1 : Int32))), J, O) r (K, n, V', J, O)))))) ∧ (¬ v3 = 0 → (∃ (V4 : SV), Ev G d mX12_change 0 [(0, .ref 57), (1, .int x1), (2, .int x3), (3, .int ((x3 - (1 : Int32)) / (2 : Int32)))] (K, n, (up2 V 57 32 ((V 57 32) + (1 : Int32))), J, O) none (K, n, V4, J, O) ∧ ((v3 = 0 → Ev G (d + 1) mX12_goUp 13 [(0, .ref 57), (1, .int x1), (2, .int x2), (3, .int ((x3 - (1 : Int32)) / (2 : Int32))), (4, .int (0 : Int32))] (K, n, V4, J, O) r (K, n, V', J, O)) ∧ (¬ v3 = 0 → ((((x3 - (1 : Int32)) / (2 : Int32)) ≤ 0 → Ev G (d + 1) mX12_goUp 13 [(0, .ref 57), (1, .int x1), (2, .int x2), (3, .int ((x3 - (1 : Int32)) / (2 : Int32))), (4, .int (0 : Int32))] (K, n, V4, J, O) r (K, n, V', J, O)) ∧ (¬ ((x3 - (1 : Int32)) / (2 : Int32)) ≤ 0 → Ev G (d + 1) mX12_goUp 13 [(0, .ref 57), (1, .int x1), (2, .int x2), (3, .int ((x3 - (1 : Int32)) / (2 : Int32))), (4, .int (1 : Int32))] (K, n, V4, J, O) r (K, n, V', J, O)))))))))))))) : Ev G (d + 1) mX12_goUp 13 [(0, .ref 57), (1, .int x1), (2, .int x2), (3, .int x3), (4, .int x4)] (K, n, V, J, O) r (K, n, V', J, O) := by
  refine Ev.mk fun Q hq => ?_
  refine wp_iload dX12_goUp_13 rfl ?_
  refine wp_if_eq 100 dX12_goUp_15 (by decide) (fun q => ?_) (fun q => ?_)
  · replace hv := hv.1 q
    refine wp_iload_n (i := 3) dX12_goUp_100 rfl rfl ?_
    obtain ⟨rfl, rfl⟩ := hv
    exact wp_ireturn dX12_goUp_101 rfl rfl rfl hq
  · replace hv := hv.2 q
    refine wp_iload_n (i := 3) dX12_goUp_18 rfl rfl ?_
    refine wp_iconst (v := 1) dX12_goUp_19 (by decide) ?_
    refine wp_isub dX12_goUp_20 ?_
    refine wp_iconst (v := 2) dX12_goUp_21 (by decide) ?_
    refine wp_idiv dX12_goUp_22 (by decide) ?_
    refine wx_istore (ls' := [(0, .ref 57), (1, .int x1), (2, .int x2), (3, .int x3), (4, .int x4), (5, .int ((x3 - (1 : Int32)) / (2 : Int32)))]) dX12_goUp_23 (by decide) rfl ?_
    refine wp_aload_n (i := 0) dX12_goUp_25 rfl rfl ?_
    refine wp_dupR dX12_goUp_26 ?_
    refine wz_getI dX12_goUp_27 (k57 hK) (f12_252 _ (by decide)) rfl ?_
    refine wp_iconst (v := 1) dX12_goUp_30 (by decide) ?_
    refine wp_iadd dX12_goUp_31 ?_
    refine wz_putI dX12_goUp_32 (k57 hK) (w12_252 _ (by decide)) rfl ?_
    refine wp_aload_n (i := 0) dX12_goUp_35 rfl rfl ?_
    refine wp_iload_n (i := 1) dX12_goUp_36 rfl rfl ?_
    refine wp_aload_n (i := 0) dX12_goUp_37 rfl rfl ?_
    refine wz_getR (b := 72) dX12_goUp_38 (k57 hK) (f12_53 _ (by decide)) rfl ?_
    refine wp_bipush (v := 80) dX12_goUp_41 (by decide) ?_
    refine wp_iload_n (i := 1) dX12_goUp_43 rfl rfl ?_
    refine wp_imul dX12_goUp_44 ?_
    refine wp_iload_n (i := 3) dX12_goUp_45 rfl rfl ?_
    refine wp_iadd dX12_goUp_46 ?_
    obtain ⟨z1, hv⟩ := hv
    refine wz_ialoade (v := (V 72 ((((80 : Int32) * x1) + x3)).toNatClampNeg)) dX12_goUp_47 (k72 hK) z1 (up2_a (by decide)) ?_
    refine wp_aload_n (i := 0) dX12_goUp_48 rfl rfl ?_
    refine wz_getR (b := 72) dX12_goUp_49 (k57 hK) (f12_53 _ (by decide)) rfl ?_
    refine wp_bipush (v := 80) dX12_goUp_52 (by decide) ?_
    refine wp_iload_n (i := 1) dX12_goUp_54 rfl rfl ?_
    refine wp_imul dX12_goUp_55 ?_
    refine wp_iload dX12_goUp_56 rfl ?_
    refine wp_iadd dX12_goUp_58 ?_
    obtain ⟨z2, hv⟩ := hv
    refine wz_ialoade (v := (V 72 ((((80 : Int32) * x1) + ((x3 - (1 : Int32)) / (2 : Int32)))).toNatClampNeg)) dX12_goUp_59 (k72 hK) z2 (up2_a (by decide)) ?_
    obtain ⟨v3, hE, hv⟩ := hv
    refine wz_callV (vs := [.int x1, .int (V 72 ((((80 : Int32) * x1) + x3)).toNatClampNeg), .int (V 72 ((((80 : Int32) * x1) + ((x3 - (1 : Int32)) / (2 : Int32)))).toNatClampNeg)]) (st := []) dX12_goUp_60 (k57 hK) rfl k12_255_12 hE rfl (Nat.le_of_ble_eq_true rfl) (Nat.le_of_ble_eq_true rfl) ?_
    change wp _ _ _ _ _ [.int v3] _ _ _
    refine wx_istore (ls' := [(0, .ref 57), (1, .int x1), (2, .int x2), (3, .int x3), (4, .int v3), (5, .int ((x3 - (1 : Int32)) / (2 : Int32)))]) dX12_goUp_63 (by decide) rfl ?_
    refine wp_iload dX12_goUp_65 rfl ?_
    refine wp_if_eq 81 dX12_goUp_67 (by decide) (fun q => ?_) (fun q => ?_)
    · replace hv := hv.1 q
      refine wp_iload dX12_goUp_81 rfl ?_
      refine wp_if_eq 94 dX12_goUp_83 (by decide) (fun q => ?_) (fun q => ?_)
      · replace hv := hv.1 q
        refine wp_iconst (v := 0) dX12_goUp_94 (by decide) ?_
        refine wx_istore (ls' := [(0, .ref 57), (1, .int x1), (2, .int x2), (3, .int x3), (4, .int (0 : Int32)), (5, .int ((x3 - (1 : Int32)) / (2 : Int32)))]) dX12_goUp_95 (by decide) rfl ?_
        refine wp_goto 13 dX12_goUp_97 (by decide) ?_
        refine wx_sub (ls' := [(0, .ref 57), (1, .int x1), (2, .int x2), (3, .int x3), (4, .int (0 : Int32))]) [0, 1, 2, 3, 4] rfl ?_
        exact hv Q hq
      · replace hv := hv.2 q
        refine wp_iload_n (i := 3) dX12_goUp_86 rfl rfl ?_
        refine wp_if_le 94 dX12_goUp_87 (by decide) (fun q => ?_) (fun q => ?_)
        · replace hv := hv.1 q
          refine wp_iconst (v := 0) dX12_goUp_94 (by decide) ?_
          refine wx_istore (ls' := [(0, .ref 57), (1, .int x1), (2, .int x2), (3, .int x3), (4, .int (0 : Int32)), (5, .int ((x3 - (1 : Int32)) / (2 : Int32)))]) dX12_goUp_95 (by decide) rfl ?_
          refine wp_goto 13 dX12_goUp_97 (by decide) ?_
          refine wx_sub (ls' := [(0, .ref 57), (1, .int x1), (2, .int x2), (3, .int x3), (4, .int (0 : Int32))]) [0, 1, 2, 3, 4] rfl ?_
          exact hv Q hq
        · replace hv := hv.2 q
          refine wp_iconst (v := 1) dX12_goUp_90 (by decide) ?_
          refine wp_goto 95 dX12_goUp_91 (by decide) ?_
          refine wx_istore (ls' := [(0, .ref 57), (1, .int x1), (2, .int x2), (3, .int x3), (4, .int (1 : Int32)), (5, .int ((x3 - (1 : Int32)) / (2 : Int32)))]) dX12_goUp_95 (by decide) rfl ?_
          refine wp_goto 13 dX12_goUp_97 (by decide) ?_
          refine wx_sub (ls' := [(0, .ref 57), (1, .int x1), (2, .int x2), (3, .int x3), (4, .int (1 : Int32))]) [0, 1, 2, 3, 4] rfl ?_
          exact hv Q hq
    · replace hv := hv.2 q
      refine wp_aload_n (i := 0) dX12_goUp_70 rfl rfl ?_
      refine wp_iload_n (i := 1) dX12_goUp_71 rfl rfl ?_
      refine wp_iload_n (i := 3) dX12_goUp_72 rfl rfl ?_
      refine wp_iload dX12_goUp_73 rfl ?_
      obtain ⟨V4, hE, hv⟩ := hv
      refine wz_callV (vs := [.int x1, .int x3, .int ((x3 - (1 : Int32)) / (2 : Int32))]) (st := []) dX12_goUp_75 (k57 hK) rfl k12_259_12 hE rfl (Nat.le_of_ble_eq_true rfl) (Nat.le_of_ble_eq_true rfl) ?_
      change wp _ _ _ _ _ [] _ _ _
      refine wp_iload dX12_goUp_78 rfl ?_
      refine wx_istore_n (ls' := [(0, .ref 57), (1, .int x1), (2, .int x2), (3, .int ((x3 - (1 : Int32)) / (2 : Int32))), (4, .int v3), (5, .int ((x3 - (1 : Int32)) / (2 : Int32)))]) (i := 3) dX12_goUp_80 rfl (by decide) rfl ?_
      refine wp_iload dX12_goUp_81 rfl ?_
      refine wp_if_eq 94 dX12_goUp_83 (by decide) (fun q => ?_) (fun q => ?_)
      · replace hv := hv.1 q
        refine wp_iconst (v := 0) dX12_goUp_94 (by decide) ?_
        refine wx_istore (ls' := [(0, .ref 57), (1, .int x1), (2, .int x2), (3, .int ((x3 - (1 : Int32)) / (2 : Int32))), (4, .int (0 : Int32)), (5, .int ((x3 - (1 : Int32)) / (2 : Int32)))]) dX12_goUp_95 (by decide) rfl ?_
        refine wp_goto 13 dX12_goUp_97 (by decide) ?_
        refine wx_sub (ls' := [(0, .ref 57), (1, .int x1), (2, .int x2), (3, .int ((x3 - (1 : Int32)) / (2 : Int32))), (4, .int (0 : Int32))]) [0, 1, 2, 3, 4] rfl ?_
        exact hv Q hq
      · replace hv := hv.2 q
        refine wp_iload_n (i := 3) dX12_goUp_86 rfl rfl ?_
        refine wp_if_le 94 dX12_goUp_87 (by decide) (fun q => ?_) (fun q => ?_)
        · replace hv := hv.1 q
          refine wp_iconst (v := 0) dX12_goUp_94 (by decide) ?_
          refine wx_istore (ls' := [(0, .ref 57), (1, .int x1), (2, .int x2), (3, .int ((x3 - (1 : Int32)) / (2 : Int32))), (4, .int (0 : Int32)), (5, .int ((x3 - (1 : Int32)) / (2 : Int32)))]) dX12_goUp_95 (by decide) rfl ?_
          refine wp_goto 13 dX12_goUp_97 (by decide) ?_
          refine wx_sub (ls' := [(0, .ref 57), (1, .int x1), (2, .int x2), (3, .int ((x3 - (1 : Int32)) / (2 : Int32))), (4, .int (0 : Int32))]) [0, 1, 2, 3, 4] rfl ?_
          exact hv Q hq
        · replace hv := hv.2 q
          refine wp_iconst (v := 1) dX12_goUp_90 (by decide) ?_
          refine wp_goto 95 dX12_goUp_91 (by decide) ?_
          refine wx_istore (ls' := [(0, .ref 57), (1, .int x1), (2, .int x2), (3, .int ((x3 - (1 : Int32)) / (2 : Int32))), (4, .int (1 : Int32)), (5, .int ((x3 - (1 : Int32)) / (2 : Int32)))]) dX12_goUp_95 (by decide) rfl ?_
          refine wp_goto 13 dX12_goUp_97 (by decide) ?_
          refine wx_sub (ls' := [(0, .ref 57), (1, .int x1), (2, .int x2), (3, .int ((x3 - (1 : Int32)) / (2 : Int32))), (4, .int (1 : Int32))]) [0, 1, 2, 3, 4] rfl ?_
          exact hv Q hq
theorem wX12_goDown_0 {x1 : Int32} {x2 : Int32} (hK : StK K)  (hv : (vp_in x1 10 ∧ (((V 73 (x1).toNatClampNeg) ≤ (((2 : Int32) * x2) + (1 : Int32)) → Ev G (d + 1) mX12_goDown 23 [(0, .ref 57), (1, .int x1), (2, .int x2), (3, .int x2), (4, .int (0 : Int32))] (K, n, V, J, O) r (K, n, V', J, O)) ∧ (¬ (V 73 (x1).toNatClampNeg) ≤ (((2 : Int32) * x2) + (1 : Int32)) → Ev G (d + 1) mX12_goDown 23 [(0, .ref 57), (1, .int x1), (2, .int x2), (3, .int x2), (4, .int (1 : Int32))] (K, n, V, J, O) r (K, n, V', J, O))))) : Ev G (d + 1) mX12_goDown 0 [(0, .ref 57), (1, .int x1), (2, .int x2)] (K, n, V, J, O) r (K, n, V', J, O) := by
  refine Ev.mk fun Q hq => ?_
  refine wp_iload_n (i := 2) dX12_goDown_0 rfl rfl ?_
  refine wx_istore_n (ls' := [(0, .ref 57), (1, .int x1), (2, .int x2), (3, .int x2)]) (i := 3) dX12_goDown_1 rfl (by decide) rfl ?_
  refine wp_iconst (v := 2) dX12_goDown_2 (by decide) ?_
  refine wp_iload_n (i := 3) dX12_goDown_3 rfl rfl ?_
  refine wp_imul dX12_goDown_4 ?_
  refine wp_iconst (v := 1) dX12_goDown_5 (by decide) ?_
  refine wp_iadd dX12_goDown_6 ?_
  refine wp_aload_n (i := 0) dX12_goDown_7 rfl rfl ?_
  refine wz_getR (b := 73) dX12_goDown_8 (k57 hK) (f12_56 _ (by decide)) rfl ?_
  refine wp_iload_n (i := 1) dX12_goDown_11 rfl rfl ?_
  obtain ⟨z1, hv⟩ := hv
  refine wz_iaload dX12_goDown_12 (k73 hK) z1 ?_
  refine wp_icmp_ge 20 dX12_goDown_13 (by decide) (fun q => ?_) (fun q => ?_)
  · replace hv := hv.1 q
    refine wp_iconst (v := 0) dX12_goDown_20 (by decide) ?_
    refine wx_istore (ls' := [(0, .ref 57), (1, .int x1), (2, .int x2), (3, .int x2), (4, .int (0 : Int32))]) dX12_goDown_21 (by decide) rfl ?_
    exact hv Q hq
  · replace hv := hv.2 q
    refine wp_iconst (v := 1) dX12_goDown_16 (by decide) ?_
    refine wp_goto 21 dX12_goDown_17 (by decide) ?_
    refine wx_istore (ls' := [(0, .ref 57), (1, .int x1), (2, .int x2), (3, .int x2), (4, .int (1 : Int32))]) dX12_goDown_21 (by decide) rfl ?_
    exact hv Q hq
theorem wX12_goDown_23 {x1 : Int32} {x2 : Int32} {x3 : Int32} {x4 : Int32} (hK : StK K)  (hv : ((x4 = 0 → (r = none ∧ V' = V)) ∧ (¬ x4 = 0 → (vp_in x1 10 ∧ (((V 73 (x1).toNatClampNeg) ≤ ((((2 : Int32) * x3) + (1 : Int32)) + (1 : Int32)) → Ev G (d + 1) mX12_goDown 102 [(0, .ref 57), (1, .int x1), (2, .int x2), (3, .int x3), (4, .int x4), (5, .int (((2 : Int32) * x3) + (1 : Int32)))] (K, n, V, J, O) r (K, n, V', J, O)) ∧ (¬ (V 73 (x1).toNatClampNeg) ≤ ((((2 : Int32) * x3) + (1 : Int32)) + (1 : Int32)) → (vp_in ((((80 : Int32) * x1) + (((2 : Int32) * x3) + (1 : Int32))) + (1 : Int32)) 800 ∧ (vp_in (((80 : Int32) * x1) + (((2 : Int32) * x3) + (1 : Int32))) 800 ∧ (∃ (v4 : Int32), Ev G d mX12_isLess 0 [(0, .ref 57), (1, .int x1), (2, .int (V 72 (((((80 : Int32) * x1) + (((2 : Int32) * x3) + (1 : Int32))) + (1 : Int32))).toNatClampNeg)), (3, .int (V 72 ((((80 : Int32) * x1) + (((2 : Int32) * x3) + (1 : Int32)))).toNatClampNeg))] (K, n, (up2 V 57 32 ((V 57 32) + (1 : Int32))), J, O) (some (.int v4)) (K, n, (up2 V 57 32 ((V 57 32) + (1 : Int32))), J, O) ∧ ((v4 = 0 → Ev G (d + 1) mX12_goDown 102 [(0, .ref 57), (1, .int x1), (2, .int x2), (3, .int x3), (4, .int x4), (5, .int ((((2 : Int32) * x3) + (1 : Int32)) + (0 : Int32)))] (K, n, (up2 V 57 32 ((V 57 32) + (1 : Int32))), J, O) r (K, n, V', J, O)) ∧ (¬ v4 = 0 → Ev G (d + 1) mX12_goDown 102 [(0, .ref 57), (1, .int x1), (2, .int x2), (3, .int x3), (4, .int x4), (5, .int ((((2 : Int32) * x3) + (1 : Int32)) + (1 : Int32)))] (K, n, (up2 V 57 32 ((V 57 32) + (1 : Int32))), J, O) r (K, n, V', J, O)))))))))))) : Ev G (d + 1) mX12_goDown 23 [(0, .ref 57), (1, .int x1), (2, .int x2), (3, .int x3), (4, .int x4)] (K, n, V, J, O) r (K, n, V', J, O) := by
  refine Ev.mk fun Q hq => ?_
  refine wp_iload dX12_goDown_23 rfl ?_
  refine wp_if_eq 187 dX12_goDown_25 (by decide) (fun q => ?_) (fun q => ?_)
  · replace hv := hv.1 q
    obtain ⟨rfl, rfl⟩ := hv
    exact wp_return dX12_goDown_187 rfl rfl hq
  · replace hv := hv.2 q
    refine wp_iconst (v := 2) dX12_goDown_28 (by decide) ?_
    refine wp_iload_n (i := 3) dX12_goDown_29 rfl rfl ?_
    refine wp_imul dX12_goDown_30 ?_
    refine wp_iconst (v := 1) dX12_goDown_31 (by decide) ?_
    refine wp_iadd dX12_goDown_32 ?_
    refine wx_istore (ls' := [(0, .ref 57), (1, .int x1), (2, .int x2), (3, .int x3), (4, .int x4), (5, .int (((2 : Int32) * x3) + (1 : Int32)))]) dX12_goDown_33 (by decide) rfl ?_
    refine wp_iload dX12_goDown_35 rfl ?_
    refine wp_iconst (v := 1) dX12_goDown_37 (by decide) ?_
    refine wp_iadd dX12_goDown_38 ?_
    refine wp_aload_n (i := 0) dX12_goDown_39 rfl rfl ?_
    refine wz_getR (b := 73) dX12_goDown_40 (k57 hK) (f12_56 _ (by decide)) rfl ?_
    refine wp_iload_n (i := 1) dX12_goDown_43 rfl rfl ?_
    obtain ⟨z1, hv⟩ := hv
    refine wz_iaload dX12_goDown_44 (k73 hK) z1 ?_
    refine wp_icmp_ge 102 dX12_goDown_45 (by decide) (fun q => ?_) (fun q => ?_)
    · replace hv := hv.1 q
      exact hv Q hq
    · replace hv := hv.2 q
      refine wp_aload_n (i := 0) dX12_goDown_48 rfl rfl ?_
      refine wp_dupR dX12_goDown_49 ?_
      refine wz_getI dX12_goDown_50 (k57 hK) (f12_252 _ (by decide)) rfl ?_
      refine wp_iconst (v := 1) dX12_goDown_53 (by decide) ?_
      refine wp_iadd dX12_goDown_54 ?_
      refine wz_putI dX12_goDown_55 (k57 hK) (w12_252 _ (by decide)) rfl ?_
      refine wp_iload dX12_goDown_58 rfl ?_
      refine wp_aload_n (i := 0) dX12_goDown_60 rfl rfl ?_
      refine wp_iload_n (i := 1) dX12_goDown_61 rfl rfl ?_
      refine wp_aload_n (i := 0) dX12_goDown_62 rfl rfl ?_
      refine wz_getR (b := 72) dX12_goDown_63 (k57 hK) (f12_53 _ (by decide)) rfl ?_
      refine wp_bipush (v := 80) dX12_goDown_66 (by decide) ?_
      refine wp_iload_n (i := 1) dX12_goDown_68 rfl rfl ?_
      refine wp_imul dX12_goDown_69 ?_
      refine wp_iload dX12_goDown_70 rfl ?_
      refine wp_iadd dX12_goDown_72 ?_
      refine wp_iconst (v := 1) dX12_goDown_73 (by decide) ?_
      refine wp_iadd dX12_goDown_74 ?_
      obtain ⟨z2, hv⟩ := hv
      refine wz_ialoade (v := (V 72 (((((80 : Int32) * x1) + (((2 : Int32) * x3) + (1 : Int32))) + (1 : Int32))).toNatClampNeg)) dX12_goDown_75 (k72 hK) z2 (up2_a (by decide)) ?_
      refine wp_aload_n (i := 0) dX12_goDown_76 rfl rfl ?_
      refine wz_getR (b := 72) dX12_goDown_77 (k57 hK) (f12_53 _ (by decide)) rfl ?_
      refine wp_bipush (v := 80) dX12_goDown_80 (by decide) ?_
      refine wp_iload_n (i := 1) dX12_goDown_82 rfl rfl ?_
      refine wp_imul dX12_goDown_83 ?_
      refine wp_iload dX12_goDown_84 rfl ?_
      refine wp_iadd dX12_goDown_86 ?_
      obtain ⟨z3, hv⟩ := hv
      refine wz_ialoade (v := (V 72 ((((80 : Int32) * x1) + (((2 : Int32) * x3) + (1 : Int32)))).toNatClampNeg)) dX12_goDown_87 (k72 hK) z3 (up2_a (by decide)) ?_
      obtain ⟨v4, hE, hv⟩ := hv
      refine wz_callV (vs := [.int x1, .int (V 72 (((((80 : Int32) * x1) + (((2 : Int32) * x3) + (1 : Int32))) + (1 : Int32))).toNatClampNeg), .int (V 72 ((((80 : Int32) * x1) + (((2 : Int32) * x3) + (1 : Int32)))).toNatClampNeg)]) (st := [.int (((2 : Int32) * x3) + (1 : Int32))]) dX12_goDown_88 (k57 hK) rfl k12_255_12 hE rfl (Nat.le_of_ble_eq_true rfl) (Nat.le_of_ble_eq_true rfl) ?_
      change wp _ _ _ _ _ [.int v4, .int (((2 : Int32) * x3) + (1 : Int32))] _ _ _
      refine wp_if_eq 98 dX12_goDown_91 (by decide) (fun q => ?_) (fun q => ?_)
      · replace hv := hv.1 q
        refine wp_iconst (v := 0) dX12_goDown_98 (by decide) ?_
        refine wp_iadd dX12_goDown_99 ?_
        refine wx_istore (ls' := [(0, .ref 57), (1, .int x1), (2, .int x2), (3, .int x3), (4, .int x4), (5, .int ((((2 : Int32) * x3) + (1 : Int32)) + (0 : Int32)))]) dX12_goDown_100 (by decide) rfl ?_
        exact hv Q hq
      · replace hv := hv.2 q
        refine wp_iconst (v := 1) dX12_goDown_94 (by decide) ?_
        refine wp_goto 99 dX12_goDown_95 (by decide) ?_
        refine wp_iadd dX12_goDown_99 ?_
        refine wx_istore (ls' := [(0, .ref 57), (1, .int x1), (2, .int x2), (3, .int x3), (4, .int x4), (5, .int ((((2 : Int32) * x3) + (1 : Int32)) + (1 : Int32)))]) dX12_goDown_100 (by decide) rfl ?_
        exact hv Q hq
theorem wX12_goDown_102 {x1 : Int32} {x2 : Int32} {x3 : Int32} {x4 : Int32} {x5 : Int32} (hK : StK K)  (hv : (vp_in (((80 : Int32) * x1) + x5) 800 ∧ (vp_in (((80 : Int32) * x1) + x3) 800 ∧ (∃ (v3 : Int32), Ev G d mX12_isLess 0 [(0, .ref 57), (1, .int x1), (2, .int (V 72 ((((80 : Int32) * x1) + x5)).toNatClampNeg)), (3, .int (V 72 ((((80 : Int32) * x1) + x3)).toNatClampNeg))] (K, n, (up2 V 57 32 ((V 57 32) + (1 : Int32))), J, O) (some (.int v3)) (K, n, (up2 V 57 32 ((V 57 32) + (1 : Int32))), J, O) ∧ ((v3 = 0 → Ev G (d + 1) mX12_goDown 158 [(0, .ref 57), (1, .int x1), (2, .int x2), (3, .int x3), (4, .int v3), (5, .int x5)] (K, n, (up2 V 57 32 ((V 57 32) + (1 : Int32))), J, O) r (K, n, V', J, O)) ∧ (¬ v3 = 0 → (∃ (V4 : SV), Ev G d mX12_change 0 [(0, .ref 57), (1, .int x1), (2, .int x3), (3, .int x5)] (K, n, (up2 V 57 32 ((V 57 32) + (1 : Int32))), J, O) none (K, n, V4, J, O) ∧ Ev G (d + 1) mX12_goDown 158 [(0, .ref 57), (1, .int x1), (2, .int x2), (3, .int x5), (4, .int v3), (5, .int x5)] (K, n, V4, J, O) r (K, n, V', J, O)))))))) : Ev G (d + 1) mX12_goDown 102 [(0, .ref 57), (1, .int x1), (2, .int x2), (3, .int x3), (4, .int x4), (5, .int x5)] (K, n, V, J, O) r (K, n, V', J, O) := by
  refine Ev.mk fun Q hq => ?_
  refine wp_aload_n (i := 0) dX12_goDown_102 rfl rfl ?_
  refine wp_dupR dX12_goDown_103 ?_
  refine wz_getI dX12_goDown_104 (k57 hK) (f12_252 _ (by decide)) rfl ?_
  refine wp_iconst (v := 1) dX12_goDown_107 (by decide) ?_
  refine wp_iadd dX12_goDown_108 ?_
  refine wz_putI dX12_goDown_109 (k57 hK) (w12_252 _ (by decide)) rfl ?_
  refine wp_aload_n (i := 0) dX12_goDown_112 rfl rfl ?_
  refine wp_iload_n (i := 1) dX12_goDown_113 rfl rfl ?_
  refine wp_aload_n (i := 0) dX12_goDown_114 rfl rfl ?_
  refine wz_getR (b := 72) dX12_goDown_115 (k57 hK) (f12_53 _ (by decide)) rfl ?_
  refine wp_bipush (v := 80) dX12_goDown_118 (by decide) ?_
  refine wp_iload_n (i := 1) dX12_goDown_120 rfl rfl ?_
  refine wp_imul dX12_goDown_121 ?_
  refine wp_iload dX12_goDown_122 rfl ?_
  refine wp_iadd dX12_goDown_124 ?_
  obtain ⟨z1, hv⟩ := hv
  refine wz_ialoade (v := (V 72 ((((80 : Int32) * x1) + x5)).toNatClampNeg)) dX12_goDown_125 (k72 hK) z1 (up2_a (by decide)) ?_
  refine wp_aload_n (i := 0) dX12_goDown_126 rfl rfl ?_
  refine wz_getR (b := 72) dX12_goDown_127 (k57 hK) (f12_53 _ (by decide)) rfl ?_
  refine wp_bipush (v := 80) dX12_goDown_130 (by decide) ?_
  refine wp_iload_n (i := 1) dX12_goDown_132 rfl rfl ?_
  refine wp_imul dX12_goDown_133 ?_
  refine wp_iload_n (i := 3) dX12_goDown_134 rfl rfl ?_
  refine wp_iadd dX12_goDown_135 ?_
  obtain ⟨z2, hv⟩ := hv
  refine wz_ialoade (v := (V 72 ((((80 : Int32) * x1) + x3)).toNatClampNeg)) dX12_goDown_136 (k72 hK) z2 (up2_a (by decide)) ?_
  obtain ⟨v3, hE, hv⟩ := hv
  refine wz_callV (vs := [.int x1, .int (V 72 ((((80 : Int32) * x1) + x5)).toNatClampNeg), .int (V 72 ((((80 : Int32) * x1) + x3)).toNatClampNeg)]) (st := []) dX12_goDown_137 (k57 hK) rfl k12_255_12 hE rfl (Nat.le_of_ble_eq_true rfl) (Nat.le_of_ble_eq_true rfl) ?_
  change wp _ _ _ _ _ [.int v3] _ _ _
  refine wx_istore (ls' := [(0, .ref 57), (1, .int x1), (2, .int x2), (3, .int x3), (4, .int v3), (5, .int x5)]) dX12_goDown_140 (by decide) rfl ?_
  refine wp_iload dX12_goDown_142 rfl ?_
  refine wp_if_eq 158 dX12_goDown_144 (by decide) (fun q => ?_) (fun q => ?_)
  · replace hv := hv.1 q
    exact hv Q hq
  · replace hv := hv.2 q
    refine wp_aload_n (i := 0) dX12_goDown_147 rfl rfl ?_
    refine wp_iload_n (i := 1) dX12_goDown_148 rfl rfl ?_
    refine wp_iload_n (i := 3) dX12_goDown_149 rfl rfl ?_
    refine wp_iload dX12_goDown_150 rfl ?_
    obtain ⟨V4, hE, hv⟩ := hv
    refine wz_callV (vs := [.int x1, .int x3, .int x5]) (st := []) dX12_goDown_152 (k57 hK) rfl k12_259_12 hE rfl (Nat.le_of_ble_eq_true rfl) (Nat.le_of_ble_eq_true rfl) ?_
    change wp _ _ _ _ _ [] _ _ _
    refine wp_iload dX12_goDown_155 rfl ?_
    refine wx_istore_n (ls' := [(0, .ref 57), (1, .int x1), (2, .int x2), (3, .int x5), (4, .int v3), (5, .int x5)]) (i := 3) dX12_goDown_157 rfl (by decide) rfl ?_
    exact hv Q hq
theorem wX12_goDown_158 {x1 : Int32} {x2 : Int32} {x3 : Int32} {x4 : Int32} {x5 : Int32} (hK : StK K)  (hv : ((x4 = 0 → Ev G (d + 1) mX12_goDown 181 [(0, .ref 57), (1, .int x1), (2, .int x2), (3, .int x3), (4, .int x4), (5, .int x5)] (K, n, V, J, O) r (K, n, V', J, O)) ∧ (¬ x4 = 0 → (vp_in x1 10 ∧ (((V 73 (x1).toNatClampNeg) ≤ (((2 : Int32) * x3) + (1 : Int32)) → Ev G (d + 1) mX12_goDown 181 [(0, .ref 57), (1, .int x1), (2, .int x2), (3, .int x3), (4, .int x4), (5, .int x5)] (K, n, V, J, O) r (K, n, V', J, O)) ∧ (¬ (V 73 (x1).toNatClampNeg) ≤ (((2 : Int32) * x3) + (1 : Int32)) → Ev G (d + 1) mX12_goDown 23 [(0, .ref 57), (1, .int x1), (2, .int x2), (3, .int x3), (4, .int (1 : Int32))] (K, n, V, J, O) r (K, n, V', J, O))))))) : Ev G (d + 1) mX12_goDown 158 [(0, .ref 57), (1, .int x1), (2, .int x2), (3, .int x3), (4, .int x4), (5, .int x5)] (K, n, V, J, O) r (K, n, V', J, O) := by
  refine Ev.mk fun Q hq => ?_
  refine wp_iload dX12_goDown_158 rfl ?_
  refine wp_if_eq 181 dX12_goDown_160 (by decide) (fun q => ?_) (fun q => ?_)
  · replace hv := hv.1 q
    exact hv Q hq
  · replace hv := hv.2 q
    refine wp_iconst (v := 2) dX12_goDown_163 (by decide) ?_
    refine wp_iload_n (i := 3) dX12_goDown_164 rfl rfl ?_
    refine wp_imul dX12_goDown_165 ?_
    refine wp_iconst (v := 1) dX12_goDown_166 (by decide) ?_
    refine wp_iadd dX12_goDown_167 ?_
    refine wp_aload_n (i := 0) dX12_goDown_168 rfl rfl ?_
    refine wz_getR (b := 73) dX12_goDown_169 (k57 hK) (f12_56 _ (by decide)) rfl ?_
    refine wp_iload_n (i := 1) dX12_goDown_172 rfl rfl ?_
    obtain ⟨z1, hv⟩ := hv
    refine wz_iaload dX12_goDown_173 (k73 hK) z1 ?_
    refine wp_icmp_ge 181 dX12_goDown_174 (by decide) (fun q => ?_) (fun q => ?_)
    · replace hv := hv.1 q
      exact hv Q hq
    · replace hv := hv.2 q
      refine wp_iconst (v := 1) dX12_goDown_177 (by decide) ?_
      refine wp_goto 182 dX12_goDown_178 (by decide) ?_
      refine wx_istore (ls' := [(0, .ref 57), (1, .int x1), (2, .int x2), (3, .int x3), (4, .int (1 : Int32)), (5, .int x5)]) dX12_goDown_182 (by decide) rfl ?_
      refine wp_goto 23 dX12_goDown_184 (by decide) ?_
      refine wx_sub (ls' := [(0, .ref 57), (1, .int x1), (2, .int x2), (3, .int x3), (4, .int (1 : Int32))]) [0, 1, 2, 3, 4] rfl ?_
      exact hv Q hq
theorem wX12_goDown_181 {x1 : Int32} {x2 : Int32} {x3 : Int32} {x4 : Int32} {x5 : Int32} (hK : StK K)  (hv : Ev G (d + 1) mX12_goDown 23 [(0, .ref 57), (1, .int x1), (2, .int x2), (3, .int x3), (4, .int (0 : Int32))] (K, n, V, J, O) r (K, n, V', J, O)) : Ev G (d + 1) mX12_goDown 181 [(0, .ref 57), (1, .int x1), (2, .int x2), (3, .int x3), (4, .int x4), (5, .int x5)] (K, n, V, J, O) r (K, n, V', J, O) := by
  refine Ev.mk fun Q hq => ?_
  refine wp_iconst (v := 0) dX12_goDown_181 (by decide) ?_
  refine wx_istore (ls' := [(0, .ref 57), (1, .int x1), (2, .int x2), (3, .int x3), (4, .int (0 : Int32)), (5, .int x5)]) dX12_goDown_182 (by decide) rfl ?_
  refine wp_goto 23 dX12_goDown_184 (by decide) ?_
  refine wx_sub (ls' := [(0, .ref 57), (1, .int x1), (2, .int x2), (3, .int x3), (4, .int (0 : Int32))]) [0, 1, 2, 3, 4] rfl ?_
  exact hv Q hq
theorem wX12_bitsOf_0 {x0 : Int32} (hK : StK K)  (hv : r = some (.int (((1 : Int32) <<< (((x0 * (7 : Int32)) - (x0 * (7 : Int32)) / (32 : Int32) * (32 : Int32)) &&& 31)) ||| ((1 : Int32) <<< (((x0 * (11 : Int32)) - (x0 * (11 : Int32)) / (32 : Int32) * (32 : Int32)) &&& 31))))) : Ev G d mX12_bitsOf 0 [(0, .int x0)] (K, n, V, J, O) r (K, n, V, J, O) := by
  refine Ev.mk fun Q hq => ?_
  refine wp_iconst (v := 1) dX12_bitsOf_0 (by decide) ?_
  refine wp_iload_n (i := 0) dX12_bitsOf_1 rfl rfl ?_
  refine wp_bipush (v := 7) dX12_bitsOf_2 (by decide) ?_
  refine wp_imul dX12_bitsOf_4 ?_
  refine wp_bipush (v := 32) dX12_bitsOf_5 (by decide) ?_
  refine wp_irem dX12_bitsOf_7 (by decide) ?_
  refine wp_ishl dX12_bitsOf_8 ?_
  refine wp_iconst (v := 1) dX12_bitsOf_9 (by decide) ?_
  refine wp_iload_n (i := 0) dX12_bitsOf_10 rfl rfl ?_
  refine wp_bipush (v := 11) dX12_bitsOf_11 (by decide) ?_
  refine wp_imul dX12_bitsOf_13 ?_
  refine wp_bipush (v := 32) dX12_bitsOf_14 (by decide) ?_
  refine wp_irem dX12_bitsOf_16 (by decide) ?_
  refine wp_ishl dX12_bitsOf_17 ?_
  refine wp_ior dX12_bitsOf_18 ?_
  obtain rfl := hv
  exact wp_ireturn dX12_bitsOf_19 rfl rfl rfl hq
theorem wX12_putInTree_0 {x1 : Int32} {x2 : Int32} (hK : StK K)  (hv : (vp_in (((80 : Int32) * x1) + x2) 800 ∧ (vp_in (((80 : Int32) * x1) + x2) 800 ∧ (vp_in x1 10 ∧ (vp_in x1 10 ∧ (vp_in x1 10 ∧ ((0 ≤ (V 76 (x1).toNatClampNeg) → (vp_in x1 10 ∧ Ev G (d + 1) mX12_putInTree 61 [(0, .ref 57), (1, .int x1), (2, .int x2), (3, .int (V 76 (x1).toNatClampNeg)), (4, .int (1 : Int32))] (K, n, (up2 (up2 (up2 V 74 ((((80 : Int32) * x1) + x2)).toNatClampNeg (-1 : Int32)) 75 ((((80 : Int32) * x1) + x2)).toNatClampNeg (-1 : Int32)) 73 (x1).toNatClampNeg ((V 73 (x1).toNatClampNeg) + (1 : Int32))), J, O) r (K, n, V', J, O))) ∧ (¬ 0 ≤ (V 76 (x1).toNatClampNeg) → (vp_in x1 10 ∧ (r = none ∧ V' = (up2 (up2 (up2 (up2 V 74 ((((80 : Int32) * x1) + x2)).toNatClampNeg (-1 : Int32)) 75 ((((80 : Int32) * x1) + x2)).toNatClampNeg (-1 : Int32)) 73 (x1).toNatClampNeg ((V 73 (x1).toNatClampNeg) + (1 : Int32))) 76 (x1).toNatClampNeg x2))))))))))) : Ev G (d + 1) mX12_putInTree 0 [(0, .ref 57), (1, .int x1), (2, .int x2)] (K, n, V, J, O) r (K, n, V', J, O) := by
  refine Ev.mk fun Q hq => ?_
  refine wp_aload_n (i := 0) dX12_putInTree_0 rfl rfl ?_
  refine wz_getR (b := 74) dX12_putInTree_1 (k57 hK) (f12_59 _ (by decide)) rfl ?_
  refine wp_bipush (v := 80) dX12_putInTree_4 (by decide) ?_
  refine wp_iload_n (i := 1) dX12_putInTree_6 rfl rfl ?_
  refine wp_imul dX12_putInTree_7 ?_
  refine wp_iload_n (i := 2) dX12_putInTree_8 rfl rfl ?_
  refine wp_iadd dX12_putInTree_9 ?_
  refine wp_iconst (v := -1) dX12_putInTree_10 (by decide) ?_
  obtain ⟨z1, hv⟩ := hv
  refine wz_iastore dX12_putInTree_11 (k74 hK) z1 ?_
  refine wp_aload_n (i := 0) dX12_putInTree_12 rfl rfl ?_
  refine wz_getR (b := 75) dX12_putInTree_13 (k57 hK) (f12_62 _ (by decide)) rfl ?_
  refine wp_bipush (v := 80) dX12_putInTree_16 (by decide) ?_
  refine wp_iload_n (i := 1) dX12_putInTree_18 rfl rfl ?_
  refine wp_imul dX12_putInTree_19 ?_
  refine wp_iload_n (i := 2) dX12_putInTree_20 rfl rfl ?_
  refine wp_iadd dX12_putInTree_21 ?_
  refine wp_iconst (v := -1) dX12_putInTree_22 (by decide) ?_
  obtain ⟨z2, hv⟩ := hv
  refine wz_iastore dX12_putInTree_23 (k75 hK) z2 ?_
  refine wp_aload_n (i := 0) dX12_putInTree_24 rfl rfl ?_
  refine wz_getR (b := 73) dX12_putInTree_25 (k57 hK) (f12_56 _ (by decide)) rfl ?_
  refine wp_iload_n (i := 1) dX12_putInTree_28 rfl rfl ?_
  refine wp_dup2 dX12_putInTree_29 ?_
  obtain ⟨z3, hv⟩ := hv
  refine wz_ialoade (v := (V 73 (x1).toNatClampNeg)) dX12_putInTree_30 (k73 hK) z3 (Eq.trans (up2_a (by decide)) (up2_a (by decide))) ?_
  refine wp_iconst (v := 1) dX12_putInTree_31 (by decide) ?_
  refine wp_iadd dX12_putInTree_32 ?_
  obtain ⟨z4, hv⟩ := hv
  refine wz_iastore dX12_putInTree_33 (k73 hK) z4 ?_
  refine wp_aload_n (i := 0) dX12_putInTree_34 rfl rfl ?_
  refine wz_getR (b := 76) dX12_putInTree_35 (k57 hK) (f12_65 _ (by decide)) rfl ?_
  refine wp_iload_n (i := 1) dX12_putInTree_38 rfl rfl ?_
  obtain ⟨z5, hv⟩ := hv
  refine wz_ialoade (v := (V 76 (x1).toNatClampNeg)) dX12_putInTree_39 (k76 hK) z5 (Eq.trans (up2_a (by decide)) (Eq.trans (up2_a (by decide)) (up2_a (by decide)))) ?_
  refine wp_if_ge 51 dX12_putInTree_40 (by decide) (fun q => ?_) (fun q => ?_)
  · replace hv := hv.1 q
    refine wp_aload_n (i := 0) dX12_putInTree_51 rfl rfl ?_
    refine wz_getR (b := 76) dX12_putInTree_52 (k57 hK) (f12_65 _ (by decide)) rfl ?_
    refine wp_iload_n (i := 1) dX12_putInTree_55 rfl rfl ?_
    obtain ⟨z6, hv⟩ := hv
    refine wz_ialoade (v := (V 76 (x1).toNatClampNeg)) dX12_putInTree_56 (k76 hK) z6 (Eq.trans (up2_a (by decide)) (Eq.trans (up2_a (by decide)) (up2_a (by decide)))) ?_
    refine wx_istore_n (ls' := [(0, .ref 57), (1, .int x1), (2, .int x2), (3, .int (V 76 (x1).toNatClampNeg))]) (i := 3) dX12_putInTree_57 rfl (by decide) rfl ?_
    refine wp_iconst (v := 1) dX12_putInTree_58 (by decide) ?_
    refine wx_istore (ls' := [(0, .ref 57), (1, .int x1), (2, .int x2), (3, .int (V 76 (x1).toNatClampNeg)), (4, .int (1 : Int32))]) dX12_putInTree_59 (by decide) rfl ?_
    exact hv Q hq
  · replace hv := hv.2 q
    refine wp_aload_n (i := 0) dX12_putInTree_43 rfl rfl ?_
    refine wz_getR (b := 76) dX12_putInTree_44 (k57 hK) (f12_65 _ (by decide)) rfl ?_
    refine wp_iload_n (i := 1) dX12_putInTree_47 rfl rfl ?_
    refine wp_iload_n (i := 2) dX12_putInTree_48 rfl rfl ?_
    obtain ⟨z7, hv⟩ := hv
    refine wz_iastore dX12_putInTree_49 (k76 hK) z7 ?_
    obtain ⟨rfl, rfl⟩ := hv
    exact wp_return dX12_putInTree_50 rfl rfl hq
theorem wX12_putInTree_61 {x1 : Int32} {x2 : Int32} {x3 : Int32} {x4 : Int32} (hK : StK K)  (hv : ((x4 = 0 → (r = none ∧ V' = V)) ∧ (¬ x4 = 0 → (∃ (v1 : Int32), Ev G d mX12_isLess 0 [(0, .ref 57), (1, .int x1), (2, .int x2), (3, .int x3)] (K, n, (up2 V 57 32 ((V 57 32) + (1 : Int32))), J, O) (some (.int v1)) (K, n, (up2 V 57 32 ((V 57 32) + (1 : Int32))), J, O) ∧ ((v1 = 0 → (vp_in (((80 : Int32) * x1) + x3) 800 ∧ (((V 75 ((((80 : Int32) * x1) + x3)).toNatClampNeg) < 0 → ((v1 = 0 → (vp_in (((80 : Int32) * x1) + x3) 800 ∧ Ev G (d + 1) mX12_putInTree 172 [(0, .ref 57), (1, .int x1), (2, .int x2), (3, .int x3), (4, .int (0 : Int32)), (5, .int v1), (6, .int (V 75 ((((80 : Int32) * x1) + x3)).toNatClampNeg))] (K, n, (up2 (up2 V 57 32 ((V 57 32) + (1 : Int32))) 75 ((((80 : Int32) * x1) + x3)).toNatClampNeg x2), J, O) r (K, n, V', J, O))) ∧ (¬ v1 = 0 → (vp_in (((80 : Int32) * x1) + x3) 800 ∧ Ev G (d + 1) mX12_putInTree 172 [(0, .ref 57), (1, .int x1), (2, .int x2), (3, .int x3), (4, .int (0 : Int32)), (5, .int v1), (6, .int (V 75 ((((80 : Int32) * x1) + x3)).toNatClampNeg))] (K, n, (up2 (up2 V 57 32 ((V 57 32) + (1 : Int32))) 74 ((((80 : Int32) * x1) + x3)).toNatClampNeg x2), J, O) r (K, n, V', J, O))))) ∧ (¬ (V 75 ((((80 : Int32) * x1) + x3)).toNatClampNeg) < 0 → Ev G (d + 1) mX12_putInTree 172 [(0, .ref 57), (1, .int x1), (2, .int x2), (3, .int (V 75 ((((80 : Int32) * x1) + x3)).toNatClampNeg)), (4, .int (1 : Int32)), (5, .int v1), (6, .int (V 75 ((((80 : Int32) * x1) + x3)).toNatClampNeg))] (K, n, (up2 V 57 32 ((V 57 32) + (1 : Int32))), J, O) r (K, n, V', J, O))))) ∧ (¬ v1 = 0 → (vp_in (((80 : Int32) * x1) + x3) 800 ∧ (((V 74 ((((80 : Int32) * x1) + x3)).toNatClampNeg) < 0 → ((v1 = 0 → (vp_in (((80 : Int32) * x1) + x3) 800 ∧ Ev G (d + 1) mX12_putInTree 172 [(0, .ref 57), (1, .int x1), (2, .int x2), (3, .int x3), (4, .int (0 : Int32)), (5, .int v1), (6, .int (V 74 ((((80 : Int32) * x1) + x3)).toNatClampNeg))] (K, n, (up2 (up2 V 57 32 ((V 57 32) + (1 : Int32))) 75 ((((80 : Int32) * x1) + x3)).toNatClampNeg x2), J, O) r (K, n, V', J, O))) ∧ (¬ v1 = 0 → (vp_in (((80 : Int32) * x1) + x3) 800 ∧ Ev G (d + 1) mX12_putInTree 172 [(0, .ref 57), (1, .int x1), (2, .int x2), (3, .int x3), (4, .int (0 : Int32)), (5, .int v1), (6, .int (V 74 ((((80 : Int32) * x1) + x3)).toNatClampNeg))] (K, n, (up2 (up2 V 57 32 ((V 57 32) + (1 : Int32))) 74 ((((80 : Int32) * x1) + x3)).toNatClampNeg x2), J, O) r (K, n, V', J, O))))) ∧ (¬ (V 74 ((((80 : Int32) * x1) + x3)).toNatClampNeg) < 0 → Ev G (d + 1) mX12_putInTree 172 [(0, .ref 57), (1, .int x1), (2, .int x2), (3, .int (V 74 ((((80 : Int32) * x1) + x3)).toNatClampNeg)), (4, .int (1 : Int32)), (5, .int v1), (6, .int (V 74 ((((80 : Int32) * x1) + x3)).toNatClampNeg))] (K, n, (up2 V 57 32 ((V 57 32) + (1 : Int32))), J, O) r (K, n, V', J, O)))))))))) : Ev G (d + 1) mX12_putInTree 61 [(0, .ref 57), (1, .int x1), (2, .int x2), (3, .int x3), (4, .int x4)] (K, n, V, J, O) r (K, n, V', J, O) := by
  refine Ev.mk fun Q hq => ?_
  refine wp_iload dX12_putInTree_61 rfl ?_
  refine wp_if_eq 175 dX12_putInTree_63 (by decide) (fun q => ?_) (fun q => ?_)
  · replace hv := hv.1 q
    obtain ⟨rfl, rfl⟩ := hv
    exact wp_return dX12_putInTree_175 rfl rfl hq
  · replace hv := hv.2 q
    refine wp_aload_n (i := 0) dX12_putInTree_66 rfl rfl ?_
    refine wp_dupR dX12_putInTree_67 ?_
    refine wz_getI dX12_putInTree_68 (k57 hK) (f12_252 _ (by decide)) rfl ?_
    refine wp_iconst (v := 1) dX12_putInTree_71 (by decide) ?_
    refine wp_iadd dX12_putInTree_72 ?_
    refine wz_putI dX12_putInTree_73 (k57 hK) (w12_252 _ (by decide)) rfl ?_
    refine wp_aload_n (i := 0) dX12_putInTree_76 rfl rfl ?_
    refine wp_iload_n (i := 1) dX12_putInTree_77 rfl rfl ?_
    refine wp_iload_n (i := 2) dX12_putInTree_78 rfl rfl ?_
    refine wp_iload_n (i := 3) dX12_putInTree_79 rfl rfl ?_
    obtain ⟨v1, hE, hv⟩ := hv
    refine wz_callV (vs := [.int x1, .int x2, .int x3]) (st := []) dX12_putInTree_80 (k57 hK) rfl k12_255_12 hE rfl (Nat.le_of_ble_eq_true rfl) (Nat.le_of_ble_eq_true rfl) ?_
    change wp _ _ _ _ _ [.int v1] _ _ _
    refine wx_istore (ls' := [(0, .ref 57), (1, .int x1), (2, .int x2), (3, .int x3), (4, .int x4), (5, .int v1)]) dX12_putInTree_83 (by decide) rfl ?_
    refine wp_iload dX12_putInTree_85 rfl ?_
    refine wp_if_eq 104 dX12_putInTree_87 (by decide) (fun q => ?_) (fun q => ?_)
    · replace hv := hv.1 q
      refine wp_aload_n (i := 0) dX12_putInTree_104 rfl rfl ?_
      refine wz_getR (b := 75) dX12_putInTree_105 (k57 hK) (f12_62 _ (by decide)) rfl ?_
      refine wp_bipush (v := 80) dX12_putInTree_108 (by decide) ?_
      refine wp_iload_n (i := 1) dX12_putInTree_110 rfl rfl ?_
      refine wp_imul dX12_putInTree_111 ?_
      refine wp_iload_n (i := 3) dX12_putInTree_112 rfl rfl ?_
      refine wp_iadd dX12_putInTree_113 ?_
      obtain ⟨z2, hv⟩ := hv
      refine wz_ialoade (v := (V 75 ((((80 : Int32) * x1) + x3)).toNatClampNeg)) dX12_putInTree_114 (k75 hK) z2 (up2_a (by decide)) ?_
      refine wx_istore (ls' := [(0, .ref 57), (1, .int x1), (2, .int x2), (3, .int x3), (4, .int x4), (5, .int v1), (6, .int (V 75 ((((80 : Int32) * x1) + x3)).toNatClampNeg))]) dX12_putInTree_115 (by decide) rfl ?_
      refine wp_iload dX12_putInTree_117 rfl ?_
      refine wp_if_lt 126 dX12_putInTree_119 (by decide) (fun q => ?_) (fun q => ?_)
      · replace hv := hv.1 q
        refine wp_iconst (v := 0) dX12_putInTree_126 (by decide) ?_
        refine wx_istore (ls' := [(0, .ref 57), (1, .int x1), (2, .int x2), (3, .int x3), (4, .int (0 : Int32)), (5, .int v1), (6, .int (V 75 ((((80 : Int32) * x1) + x3)).toNatClampNeg))]) dX12_putInTree_127 (by decide) rfl ?_
        refine wp_iload dX12_putInTree_129 rfl ?_
        refine wp_if_eq 140 dX12_putInTree_131 (by decide) (fun _ => ?_) (fun q => absurd q (by decide))
        refine wp_iload dX12_putInTree_140 rfl ?_
        refine wp_if_eq 160 dX12_putInTree_142 (by decide) (fun q => ?_) (fun q => ?_)
        · replace hv := hv.1 q
          refine wp_aload_n (i := 0) dX12_putInTree_160 rfl rfl ?_
          refine wz_getR (b := 75) dX12_putInTree_161 (k57 hK) (f12_62 _ (by decide)) rfl ?_
          refine wp_bipush (v := 80) dX12_putInTree_164 (by decide) ?_
          refine wp_iload_n (i := 1) dX12_putInTree_166 rfl rfl ?_
          refine wp_imul dX12_putInTree_167 ?_
          refine wp_iload_n (i := 3) dX12_putInTree_168 rfl rfl ?_
          refine wp_iadd dX12_putInTree_169 ?_
          refine wp_iload_n (i := 2) dX12_putInTree_170 rfl rfl ?_
          obtain ⟨z3, hv⟩ := hv
          refine wz_iastore dX12_putInTree_171 (k75 hK) z3 ?_
          exact hv Q hq
        · replace hv := hv.2 q
          refine wp_aload_n (i := 0) dX12_putInTree_145 rfl rfl ?_
          refine wz_getR (b := 74) dX12_putInTree_146 (k57 hK) (f12_59 _ (by decide)) rfl ?_
          refine wp_bipush (v := 80) dX12_putInTree_149 (by decide) ?_
          refine wp_iload_n (i := 1) dX12_putInTree_151 rfl rfl ?_
          refine wp_imul dX12_putInTree_152 ?_
          refine wp_iload_n (i := 3) dX12_putInTree_153 rfl rfl ?_
          refine wp_iadd dX12_putInTree_154 ?_
          refine wp_iload_n (i := 2) dX12_putInTree_155 rfl rfl ?_
          obtain ⟨z4, hv⟩ := hv
          refine wz_iastore dX12_putInTree_156 (k74 hK) z4 ?_
          refine wp_goto 172 dX12_putInTree_157 (by decide) ?_
          exact hv Q hq
      · replace hv := hv.2 q
        refine wp_iconst (v := 1) dX12_putInTree_122 (by decide) ?_
        refine wp_goto 127 dX12_putInTree_123 (by decide) ?_
        refine wx_istore (ls' := [(0, .ref 57), (1, .int x1), (2, .int x2), (3, .int x3), (4, .int (1 : Int32)), (5, .int v1), (6, .int (V 75 ((((80 : Int32) * x1) + x3)).toNatClampNeg))]) dX12_putInTree_127 (by decide) rfl ?_
        refine wp_iload dX12_putInTree_129 rfl ?_
        refine wp_if_eq 140 dX12_putInTree_131 (by decide) (fun q => absurd q (by decide)) (fun _ => ?_)
        refine wp_iload dX12_putInTree_134 rfl ?_
        refine wx_istore_n (ls' := [(0, .ref 57), (1, .int x1), (2, .int x2), (3, .int (V 75 ((((80 : Int32) * x1) + x3)).toNatClampNeg)), (4, .int (1 : Int32)), (5, .int v1), (6, .int (V 75 ((((80 : Int32) * x1) + x3)).toNatClampNeg))]) (i := 3) dX12_putInTree_136 rfl (by decide) rfl ?_
        refine wp_goto 172 dX12_putInTree_137 (by decide) ?_
        exact hv Q hq
    · replace hv := hv.2 q
      refine wp_aload_n (i := 0) dX12_putInTree_90 rfl rfl ?_
      refine wz_getR (b := 74) dX12_putInTree_91 (k57 hK) (f12_59 _ (by decide)) rfl ?_
      refine wp_bipush (v := 80) dX12_putInTree_94 (by decide) ?_
      refine wp_iload_n (i := 1) dX12_putInTree_96 rfl rfl ?_
      refine wp_imul dX12_putInTree_97 ?_
      refine wp_iload_n (i := 3) dX12_putInTree_98 rfl rfl ?_
      refine wp_iadd dX12_putInTree_99 ?_
      obtain ⟨z5, hv⟩ := hv
      refine wz_ialoade (v := (V 74 ((((80 : Int32) * x1) + x3)).toNatClampNeg)) dX12_putInTree_100 (k74 hK) z5 (up2_a (by decide)) ?_
      refine wp_goto 115 dX12_putInTree_101 (by decide) ?_
      refine wx_istore (ls' := [(0, .ref 57), (1, .int x1), (2, .int x2), (3, .int x3), (4, .int x4), (5, .int v1), (6, .int (V 74 ((((80 : Int32) * x1) + x3)).toNatClampNeg))]) dX12_putInTree_115 (by decide) rfl ?_
      refine wp_iload dX12_putInTree_117 rfl ?_
      refine wp_if_lt 126 dX12_putInTree_119 (by decide) (fun q => ?_) (fun q => ?_)
      · replace hv := hv.1 q
        refine wp_iconst (v := 0) dX12_putInTree_126 (by decide) ?_
        refine wx_istore (ls' := [(0, .ref 57), (1, .int x1), (2, .int x2), (3, .int x3), (4, .int (0 : Int32)), (5, .int v1), (6, .int (V 74 ((((80 : Int32) * x1) + x3)).toNatClampNeg))]) dX12_putInTree_127 (by decide) rfl ?_
        refine wp_iload dX12_putInTree_129 rfl ?_
        refine wp_if_eq 140 dX12_putInTree_131 (by decide) (fun _ => ?_) (fun q => absurd q (by decide))
        refine wp_iload dX12_putInTree_140 rfl ?_
        refine wp_if_eq 160 dX12_putInTree_142 (by decide) (fun q => ?_) (fun q => ?_)
        · replace hv := hv.1 q
          refine wp_aload_n (i := 0) dX12_putInTree_160 rfl rfl ?_
          refine wz_getR (b := 75) dX12_putInTree_161 (k57 hK) (f12_62 _ (by decide)) rfl ?_
          refine wp_bipush (v := 80) dX12_putInTree_164 (by decide) ?_
          refine wp_iload_n (i := 1) dX12_putInTree_166 rfl rfl ?_
          refine wp_imul dX12_putInTree_167 ?_
          refine wp_iload_n (i := 3) dX12_putInTree_168 rfl rfl ?_
          refine wp_iadd dX12_putInTree_169 ?_
          refine wp_iload_n (i := 2) dX12_putInTree_170 rfl rfl ?_
          obtain ⟨z6, hv⟩ := hv
          refine wz_iastore dX12_putInTree_171 (k75 hK) z6 ?_
          exact hv Q hq
        · replace hv := hv.2 q
          refine wp_aload_n (i := 0) dX12_putInTree_145 rfl rfl ?_
          refine wz_getR (b := 74) dX12_putInTree_146 (k57 hK) (f12_59 _ (by decide)) rfl ?_
          refine wp_bipush (v := 80) dX12_putInTree_149 (by decide) ?_
          refine wp_iload_n (i := 1) dX12_putInTree_151 rfl rfl ?_
          refine wp_imul dX12_putInTree_152 ?_
          refine wp_iload_n (i := 3) dX12_putInTree_153 rfl rfl ?_
          refine wp_iadd dX12_putInTree_154 ?_
          refine wp_iload_n (i := 2) dX12_putInTree_155 rfl rfl ?_
          obtain ⟨z7, hv⟩ := hv
          refine wz_iastore dX12_putInTree_156 (k74 hK) z7 ?_
          refine wp_goto 172 dX12_putInTree_157 (by decide) ?_
          exact hv Q hq
      · replace hv := hv.2 q
        refine wp_iconst (v := 1) dX12_putInTree_122 (by decide) ?_
        refine wp_goto 127 dX12_putInTree_123 (by decide) ?_
        refine wx_istore (ls' := [(0, .ref 57), (1, .int x1), (2, .int x2), (3, .int x3), (4, .int (1 : Int32)), (5, .int v1), (6, .int (V 74 ((((80 : Int32) * x1) + x3)).toNatClampNeg))]) dX12_putInTree_127 (by decide) rfl ?_
        refine wp_iload dX12_putInTree_129 rfl ?_
        refine wp_if_eq 140 dX12_putInTree_131 (by decide) (fun q => absurd q (by decide)) (fun _ => ?_)
        refine wp_iload dX12_putInTree_134 rfl ?_
        refine wx_istore_n (ls' := [(0, .ref 57), (1, .int x1), (2, .int x2), (3, .int (V 74 ((((80 : Int32) * x1) + x3)).toNatClampNeg)), (4, .int (1 : Int32)), (5, .int v1), (6, .int (V 74 ((((80 : Int32) * x1) + x3)).toNatClampNeg))]) (i := 3) dX12_putInTree_136 rfl (by decide) rfl ?_
        refine wp_goto 172 dX12_putInTree_137 (by decide) ?_
        exact hv Q hq
theorem wX12_putInTree_172 {x1 : Int32} {x2 : Int32} {x3 : Int32} {x4 : Int32} {x5 : Int32} {x6 : Int32} (hK : StK K)  (hv : Ev G (d + 1) mX12_putInTree 61 [(0, .ref 57), (1, .int x1), (2, .int x2), (3, .int x3), (4, .int x4)] (K, n, V, J, O) r (K, n, V', J, O)) : Ev G (d + 1) mX12_putInTree 172 [(0, .ref 57), (1, .int x1), (2, .int x2), (3, .int x3), (4, .int x4), (5, .int x5), (6, .int x6)] (K, n, V, J, O) r (K, n, V', J, O) := by
  refine Ev.mk fun Q hq => ?_
  refine wp_goto 61 dX12_putInTree_172 (by decide) ?_
  refine wx_sub (ls' := [(0, .ref 57), (1, .int x1), (2, .int x2), (3, .int x3), (4, .int x4)]) [0, 1, 2, 3, 4] rfl ?_
  exact hv Q hq
theorem wX12_hang_0 {x1 : Int32} {x2 : Int32} {x3 : Int32} {x4 : Int32} (hK : StK K)  (hv : ((0 ≤ x2 → (vp_in (((80 : Int32) * x1) + x2) 800 ∧ (((V 74 ((((80 : Int32) * x1) + x2)).toNatClampNeg) ≠ x3 → (vp_in (((80 : Int32) * x1) + x2) 800 ∧ (r = none ∧ V' = (up2 V 75 ((((80 : Int32) * x1) + x2)).toNatClampNeg x4)))) ∧ ((V 74 ((((80 : Int32) * x1) + x2)).toNatClampNeg) = x3 → (vp_in (((80 : Int32) * x1) + x2) 800 ∧ (r = none ∧ V' = (up2 V 74 ((((80 : Int32) * x1) + x2)).toNatClampNeg x4))))))) ∧ (¬ 0 ≤ x2 → (vp_in x1 10 ∧ (r = none ∧ V' = (up2 V 76 (x1).toNatClampNeg x4)))))) : Ev G d mX12_hang 0 [(0, .ref 57), (1, .int x1), (2, .int x2), (3, .int x3), (4, .int x4)] (K, n, V, J, O) r (K, n, V', J, O) := by
  refine Ev.mk fun Q hq => ?_
  refine wp_iload_n (i := 2) dX12_hang_0 rfl rfl ?_
  refine wp_if_ge 15 dX12_hang_1 (by decide) (fun q => ?_) (fun q => ?_)
  · replace hv := hv.1 q
    refine wp_aload_n (i := 0) dX12_hang_15 rfl rfl ?_
    refine wz_getR (b := 74) dX12_hang_16 (k57 hK) (f12_59 _ (by decide)) rfl ?_
    refine wp_bipush (v := 80) dX12_hang_19 (by decide) ?_
    refine wp_iload_n (i := 1) dX12_hang_21 rfl rfl ?_
    refine wp_imul dX12_hang_22 ?_
    refine wp_iload_n (i := 2) dX12_hang_23 rfl rfl ?_
    refine wp_iadd dX12_hang_24 ?_
    obtain ⟨z1, hv⟩ := hv
    refine wz_iaload dX12_hang_25 (k74 hK) z1 ?_
    refine wp_iload_n (i := 3) dX12_hang_26 rfl rfl ?_
    refine wp_icmp_ne 46 dX12_hang_27 (by decide) (fun q => ?_) (fun q => ?_)
    · replace hv := hv.1 q
      refine wp_aload_n (i := 0) dX12_hang_46 rfl rfl ?_
      refine wz_getR (b := 75) dX12_hang_47 (k57 hK) (f12_62 _ (by decide)) rfl ?_
      refine wp_bipush (v := 80) dX12_hang_50 (by decide) ?_
      refine wp_iload_n (i := 1) dX12_hang_52 rfl rfl ?_
      refine wp_imul dX12_hang_53 ?_
      refine wp_iload_n (i := 2) dX12_hang_54 rfl rfl ?_
      refine wp_iadd dX12_hang_55 ?_
      refine wp_iload dX12_hang_56 rfl ?_
      obtain ⟨z2, hv⟩ := hv
      refine wz_iastore dX12_hang_58 (k75 hK) z2 ?_
      obtain ⟨rfl, rfl⟩ := hv
      exact wp_return dX12_hang_59 rfl rfl hq
    · replace hv := hv.2 q
      refine wp_aload_n (i := 0) dX12_hang_30 rfl rfl ?_
      refine wz_getR (b := 74) dX12_hang_31 (k57 hK) (f12_59 _ (by decide)) rfl ?_
      refine wp_bipush (v := 80) dX12_hang_34 (by decide) ?_
      refine wp_iload_n (i := 1) dX12_hang_36 rfl rfl ?_
      refine wp_imul dX12_hang_37 ?_
      refine wp_iload_n (i := 2) dX12_hang_38 rfl rfl ?_
      refine wp_iadd dX12_hang_39 ?_
      refine wp_iload dX12_hang_40 rfl ?_
      obtain ⟨z3, hv⟩ := hv
      refine wz_iastore dX12_hang_42 (k74 hK) z3 ?_
      refine wp_goto 59 dX12_hang_43 (by decide) ?_
      obtain ⟨rfl, rfl⟩ := hv
      exact wp_return dX12_hang_59 rfl rfl hq
  · replace hv := hv.2 q
    refine wp_aload_n (i := 0) dX12_hang_4 rfl rfl ?_
    refine wz_getR (b := 76) dX12_hang_5 (k57 hK) (f12_65 _ (by decide)) rfl ?_
    refine wp_iload_n (i := 1) dX12_hang_8 rfl rfl ?_
    refine wp_iload dX12_hang_9 rfl ?_
    obtain ⟨z4, hv⟩ := hv
    refine wz_iastore dX12_hang_11 (k76 hK) z4 ?_
    refine wp_goto 59 dX12_hang_12 (by decide) ?_
    obtain ⟨rfl, rfl⟩ := hv
    exact wp_return dX12_hang_59 rfl rfl hq
theorem wX12_takeFromTree_0 {x1 : Int32} {x2 : Int32} (hK : StK K)  (hv : (vp_in x1 10 ∧ Ev G (d + 1) mX12_takeFromTree 20 [(0, .ref 57), (1, .int x1), (2, .int x2), (3, .int (-1 : Int32)), (4, .int (V 76 (x1).toNatClampNeg))] (K, n, (up2 V 57 32 ((V 57 32) + (1 : Int32))), J, O) r (K, n, V', J, O))) : Ev G (d + 1) mX12_takeFromTree 0 [(0, .ref 57), (1, .int x1), (2, .int x2)] (K, n, V, J, O) r (K, n, V', J, O) := by
  refine Ev.mk fun Q hq => ?_
  refine wp_iconst (v := -1) dX12_takeFromTree_0 (by decide) ?_
  refine wx_istore_n (ls' := [(0, .ref 57), (1, .int x1), (2, .int x2), (3, .int (-1 : Int32))]) (i := 3) dX12_takeFromTree_1 rfl (by decide) rfl ?_
  refine wp_aload_n (i := 0) dX12_takeFromTree_2 rfl rfl ?_
  refine wz_getR (b := 76) dX12_takeFromTree_3 (k57 hK) (f12_65 _ (by decide)) rfl ?_
  refine wp_iload_n (i := 1) dX12_takeFromTree_6 rfl rfl ?_
  obtain ⟨z1, hv⟩ := hv
  refine wz_iaload dX12_takeFromTree_7 (k76 hK) z1 ?_
  refine wx_istore (ls' := [(0, .ref 57), (1, .int x1), (2, .int x2), (3, .int (-1 : Int32)), (4, .int (V 76 (x1).toNatClampNeg))]) dX12_takeFromTree_8 (by decide) rfl ?_
  refine wp_aload_n (i := 0) dX12_takeFromTree_10 rfl rfl ?_
  refine wp_dupR dX12_takeFromTree_11 ?_
  refine wz_getI dX12_takeFromTree_12 (k57 hK) (f12_252 _ (by decide)) rfl ?_
  refine wp_iconst (v := 1) dX12_takeFromTree_15 (by decide) ?_
  refine wp_iadd dX12_takeFromTree_16 ?_
  refine wz_putI dX12_takeFromTree_17 (k57 hK) (w12_252 _ (by decide)) rfl ?_
  exact hv Q hq
theorem wX12_takeFromTree_20 {x1 : Int32} {x2 : Int32} {x3 : Int32} {x4 : Int32} (hK : StK K)  (hv : ((x4 = x2 → (vp_in x1 10 ∧ (vp_in x1 10 ∧ (vp_in (((80 : Int32) * x1) + x2) 800 ∧ (vp_in (((80 : Int32) * x1) + x2) 800 ∧ (((V 74 ((((80 : Int32) * x1) + x2)).toNatClampNeg) < 0 → Ev G (d + 1) mX12_takeFromTree 128 [(0, .ref 57), (1, .int x1), (2, .int x2), (3, .int x3), (4, .int x4), (5, .int (V 74 ((((80 : Int32) * x1) + x2)).toNatClampNeg)), (6, .int (V 75 ((((80 : Int32) * x1) + x2)).toNatClampNeg))] (K, n, (up2 V 73 (x1).toNatClampNeg ((V 73 (x1).toNatClampNeg) - (1 : Int32))), J, O) r (K, n, V', J, O)) ∧ (¬ (V 74 ((((80 : Int32) * x1) + x2)).toNatClampNeg) < 0 → ((0 ≤ (V 75 ((((80 : Int32) * x1) + x2)).toNatClampNeg) → Ev G (d + 1) mX12_takeFromTree 165 [(0, .ref 57), (1, .int x1), (2, .int x2), (3, .int x3), (4, .int x4), (5, .int (V 74 ((((80 : Int32) * x1) + x2)).toNatClampNeg)), (6, .int (V 75 ((((80 : Int32) * x1) + x2)).toNatClampNeg)), (7, .int x2), (8, .int (V 75 ((((80 : Int32) * x1) + x2)).toNatClampNeg))] (K, n, (up2 (up2 V 73 (x1).toNatClampNeg ((V 73 (x1).toNatClampNeg) - (1 : Int32))) 57 32 ((V 57 32) + (1 : Int32))), J, O) r (K, n, V', J, O)) ∧ (¬ 0 ≤ (V 75 ((((80 : Int32) * x1) + x2)).toNatClampNeg) → Ev G (d + 1) mX12_takeFromTree 128 [(0, .ref 57), (1, .int x1), (2, .int x2), (3, .int x3), (4, .int x4), (5, .int (V 74 ((((80 : Int32) * x1) + x2)).toNatClampNeg)), (6, .int (V 75 ((((80 : Int32) * x1) + x2)).toNatClampNeg))] (K, n, (up2 V 73 (x1).toNatClampNeg ((V 73 (x1).toNatClampNeg) - (1 : Int32))), J, O) r (K, n, V', J, O)))))))))) ∧ (¬ x4 = x2 → (∃ (v5 : Int32), Ev G d mX12_isLess 0 [(0, .ref 57), (1, .int x1), (2, .int x2), (3, .int x4)] (K, n, V, J, O) (some (.int v5)) (K, n, V, J, O) ∧ ((v5 = 0 → (vp_in (((80 : Int32) * x1) + x4) 800 ∧ Ev G (d + 1) mX12_takeFromTree 20 [(0, .ref 57), (1, .int x1), (2, .int x2), (3, .int x4), (4, .int (V 75 ((((80 : Int32) * x1) + x4)).toNatClampNeg))] (K, n, (up2 V 57 32 ((V 57 32) + (1 : Int32))), J, O) r (K, n, V', J, O))) ∧ (¬ v5 = 0 → (vp_in (((80 : Int32) * x1) + x4) 800 ∧ Ev G (d + 1) mX12_takeFromTree 20 [(0, .ref 57), (1, .int x1), (2, .int x2), (3, .int x4), (4, .int (V 74 ((((80 : Int32) * x1) + x4)).toNatClampNeg))] (K, n, (up2 V 57 32 ((V 57 32) + (1 : Int32))), J, O) r (K, n, V', J, O)))))))) : Ev G (d + 1) mX12_takeFromTree 20 [(0, .ref 57), (1, .int x1), (2, .int x2), (3, .int x3), (4, .int x4)] (K, n, V, J, O) r (K, n, V', J, O) := by
  refine Ev.mk fun Q hq => ?_
  refine wp_iload dX12_takeFromTree_20 rfl ?_
  refine wp_iload_n (i := 2) dX12_takeFromTree_22 rfl rfl ?_
  refine wp_icmp_eq 82 dX12_takeFromTree_23 (by decide) (fun q => ?_) (fun q => ?_)
  · replace hv := hv.1 q
    refine wp_aload_n (i := 0) dX12_takeFromTree_82 rfl rfl ?_
    refine wz_getR (b := 73) dX12_takeFromTree_83 (k57 hK) (f12_56 _ (by decide)) rfl ?_
    refine wp_iload_n (i := 1) dX12_takeFromTree_86 rfl rfl ?_
    refine wp_dup2 dX12_takeFromTree_87 ?_
    obtain ⟨z1, hv⟩ := hv
    refine wz_iaload dX12_takeFromTree_88 (k73 hK) z1 ?_
    refine wp_iconst (v := 1) dX12_takeFromTree_89 (by decide) ?_
    refine wp_isub dX12_takeFromTree_90 ?_
    obtain ⟨z2, hv⟩ := hv
    refine wz_iastore dX12_takeFromTree_91 (k73 hK) z2 ?_
    refine wp_aload_n (i := 0) dX12_takeFromTree_92 rfl rfl ?_
    refine wz_getR (b := 74) dX12_takeFromTree_93 (k57 hK) (f12_59 _ (by decide)) rfl ?_
    refine wp_bipush (v := 80) dX12_takeFromTree_96 (by decide) ?_
    refine wp_iload_n (i := 1) dX12_takeFromTree_98 rfl rfl ?_
    refine wp_imul dX12_takeFromTree_99 ?_
    refine wp_iload_n (i := 2) dX12_takeFromTree_100 rfl rfl ?_
    refine wp_iadd dX12_takeFromTree_101 ?_
    obtain ⟨z3, hv⟩ := hv
    refine wz_ialoade (v := (V 74 ((((80 : Int32) * x1) + x2)).toNatClampNeg)) dX12_takeFromTree_102 (k74 hK) z3 (up2_a (by decide)) ?_
    refine wx_istore (ls' := [(0, .ref 57), (1, .int x1), (2, .int x2), (3, .int x3), (4, .int x4), (5, .int (V 74 ((((80 : Int32) * x1) + x2)).toNatClampNeg))]) dX12_takeFromTree_103 (by decide) rfl ?_
    refine wp_aload_n (i := 0) dX12_takeFromTree_105 rfl rfl ?_
    refine wz_getR (b := 75) dX12_takeFromTree_106 (k57 hK) (f12_62 _ (by decide)) rfl ?_
    refine wp_bipush (v := 80) dX12_takeFromTree_109 (by decide) ?_
    refine wp_iload_n (i := 1) dX12_takeFromTree_111 rfl rfl ?_
    refine wp_imul dX12_takeFromTree_112 ?_
    refine wp_iload_n (i := 2) dX12_takeFromTree_113 rfl rfl ?_
    refine wp_iadd dX12_takeFromTree_114 ?_
    obtain ⟨z4, hv⟩ := hv
    refine wz_ialoade (v := (V 75 ((((80 : Int32) * x1) + x2)).toNatClampNeg)) dX12_takeFromTree_115 (k75 hK) z4 (up2_a (by decide)) ?_
    refine wx_istore (ls' := [(0, .ref 57), (1, .int x1), (2, .int x2), (3, .int x3), (4, .int x4), (5, .int (V 74 ((((80 : Int32) * x1) + x2)).toNatClampNeg)), (6, .int (V 75 ((((80 : Int32) * x1) + x2)).toNatClampNeg))]) dX12_takeFromTree_116 (by decide) rfl ?_
    refine wp_iload dX12_takeFromTree_118 rfl ?_
    refine wp_if_lt 128 dX12_takeFromTree_120 (by decide) (fun q => ?_) (fun q => ?_)
    · replace hv := hv.1 q
      exact hv Q hq
    · replace hv := hv.2 q
      refine wp_iload dX12_takeFromTree_123 rfl ?_
      refine wp_if_ge 148 dX12_takeFromTree_125 (by decide) (fun q => ?_) (fun q => ?_)
      · replace hv := hv.1 q
        refine wp_iload_n (i := 2) dX12_takeFromTree_148 rfl rfl ?_
        refine wx_istore (ls' := [(0, .ref 57), (1, .int x1), (2, .int x2), (3, .int x3), (4, .int x4), (5, .int (V 74 ((((80 : Int32) * x1) + x2)).toNatClampNeg)), (6, .int (V 75 ((((80 : Int32) * x1) + x2)).toNatClampNeg)), (7, .int x2)]) dX12_takeFromTree_149 (by decide) rfl ?_
        refine wp_iload dX12_takeFromTree_151 rfl ?_
        refine wx_istore (ls' := [(0, .ref 57), (1, .int x1), (2, .int x2), (3, .int x3), (4, .int x4), (5, .int (V 74 ((((80 : Int32) * x1) + x2)).toNatClampNeg)), (6, .int (V 75 ((((80 : Int32) * x1) + x2)).toNatClampNeg)), (7, .int x2), (8, .int (V 75 ((((80 : Int32) * x1) + x2)).toNatClampNeg))]) dX12_takeFromTree_153 (by decide) rfl ?_
        refine wp_aload_n (i := 0) dX12_takeFromTree_155 rfl rfl ?_
        refine wp_dupR dX12_takeFromTree_156 ?_
        refine wz_getIe (v := (V 57 32)) dX12_takeFromTree_157 (k57 hK) (f12_252 _ (by decide)) rfl (up2_a (by decide)) ?_
        refine wp_iconst (v := 1) dX12_takeFromTree_160 (by decide) ?_
        refine wp_iadd dX12_takeFromTree_161 ?_
        refine wz_putI dX12_takeFromTree_162 (k57 hK) (w12_252 _ (by decide)) rfl ?_
        exact hv Q hq
      · replace hv := hv.2 q
        exact hv Q hq
  · replace hv := hv.2 q
    refine wp_iload dX12_takeFromTree_26 rfl ?_
    refine wx_istore_n (ls' := [(0, .ref 57), (1, .int x1), (2, .int x2), (3, .int x4), (4, .int x4)]) (i := 3) dX12_takeFromTree_28 rfl (by decide) rfl ?_
    refine wp_aload_n (i := 0) dX12_takeFromTree_29 rfl rfl ?_
    refine wp_iload_n (i := 1) dX12_takeFromTree_30 rfl rfl ?_
    refine wp_iload_n (i := 2) dX12_takeFromTree_31 rfl rfl ?_
    refine wp_iload dX12_takeFromTree_32 rfl ?_
    obtain ⟨v5, hE, hv⟩ := hv
    refine wz_callV (vs := [.int x1, .int x2, .int x4]) (st := []) dX12_takeFromTree_34 (k57 hK) rfl k12_255_12 hE rfl (Nat.le_of_ble_eq_true rfl) (Nat.le_of_ble_eq_true rfl) ?_
    change wp _ _ _ _ _ [.int v5] _ _ _
    refine wp_if_eq 55 dX12_takeFromTree_37 (by decide) (fun q => ?_) (fun q => ?_)
    · replace hv := hv.1 q
      refine wp_aload_n (i := 0) dX12_takeFromTree_55 rfl rfl ?_
      refine wz_getR (b := 75) dX12_takeFromTree_56 (k57 hK) (f12_62 _ (by decide)) rfl ?_
      refine wp_bipush (v := 80) dX12_takeFromTree_59 (by decide) ?_
      refine wp_iload_n (i := 1) dX12_takeFromTree_61 rfl rfl ?_
      refine wp_imul dX12_takeFromTree_62 ?_
      refine wp_iload dX12_takeFromTree_63 rfl ?_
      refine wp_iadd dX12_takeFromTree_65 ?_
      obtain ⟨z6, hv⟩ := hv
      refine wz_iaload dX12_takeFromTree_66 (k75 hK) z6 ?_
      refine wx_istore (ls' := [(0, .ref 57), (1, .int x1), (2, .int x2), (3, .int x4), (4, .int (V 75 ((((80 : Int32) * x1) + x4)).toNatClampNeg))]) dX12_takeFromTree_67 (by decide) rfl ?_
      refine wp_aload_n (i := 0) dX12_takeFromTree_69 rfl rfl ?_
      refine wp_dupR dX12_takeFromTree_70 ?_
      refine wz_getI dX12_takeFromTree_71 (k57 hK) (f12_252 _ (by decide)) rfl ?_
      refine wp_iconst (v := 1) dX12_takeFromTree_74 (by decide) ?_
      refine wp_iadd dX12_takeFromTree_75 ?_
      refine wz_putI dX12_takeFromTree_76 (k57 hK) (w12_252 _ (by decide)) rfl ?_
      refine wp_goto 20 dX12_takeFromTree_79 (by decide) ?_
      exact hv Q hq
    · replace hv := hv.2 q
      refine wp_aload_n (i := 0) dX12_takeFromTree_40 rfl rfl ?_
      refine wz_getR (b := 74) dX12_takeFromTree_41 (k57 hK) (f12_59 _ (by decide)) rfl ?_
      refine wp_bipush (v := 80) dX12_takeFromTree_44 (by decide) ?_
      refine wp_iload_n (i := 1) dX12_takeFromTree_46 rfl rfl ?_
      refine wp_imul dX12_takeFromTree_47 ?_
      refine wp_iload dX12_takeFromTree_48 rfl ?_
      refine wp_iadd dX12_takeFromTree_50 ?_
      obtain ⟨z7, hv⟩ := hv
      refine wz_iaload dX12_takeFromTree_51 (k74 hK) z7 ?_
      refine wp_goto 67 dX12_takeFromTree_52 (by decide) ?_
      refine wx_istore (ls' := [(0, .ref 57), (1, .int x1), (2, .int x2), (3, .int x4), (4, .int (V 74 ((((80 : Int32) * x1) + x4)).toNatClampNeg))]) dX12_takeFromTree_67 (by decide) rfl ?_
      refine wp_aload_n (i := 0) dX12_takeFromTree_69 rfl rfl ?_
      refine wp_dupR dX12_takeFromTree_70 ?_
      refine wz_getI dX12_takeFromTree_71 (k57 hK) (f12_252 _ (by decide)) rfl ?_
      refine wp_iconst (v := 1) dX12_takeFromTree_74 (by decide) ?_
      refine wp_iadd dX12_takeFromTree_75 ?_
      refine wz_putI dX12_takeFromTree_76 (k57 hK) (w12_252 _ (by decide)) rfl ?_
      refine wp_goto 20 dX12_takeFromTree_79 (by decide) ?_
      exact hv Q hq
theorem wX12_takeFromTree_128 {x1 : Int32} {x2 : Int32} {x3 : Int32} {x4 : Int32} {x5 : Int32} {x6 : Int32} (hK : StK K)  (hv : ((0 ≤ x5 → (∃ (V1 : SV), Ev G d mX12_hang 0 [(0, .ref 57), (1, .int x1), (2, .int x3), (3, .int x2), (4, .int x5)] (K, n, V, J, O) none (K, n, V1, J, O) ∧ (r = none ∧ V' = V1))) ∧ (¬ 0 ≤ x5 → (∃ (V2 : SV), Ev G d mX12_hang 0 [(0, .ref 57), (1, .int x1), (2, .int x3), (3, .int x2), (4, .int x6)] (K, n, V, J, O) none (K, n, V2, J, O) ∧ (r = none ∧ V' = V2))))) : Ev G (d + 1) mX12_takeFromTree 128 [(0, .ref 57), (1, .int x1), (2, .int x2), (3, .int x3), (4, .int x4), (5, .int x5), (6, .int x6)] (K, n, V, J, O) r (K, n, V', J, O) := by
  refine Ev.mk fun Q hq => ?_
  refine wp_aload_n (i := 0) dX12_takeFromTree_128 rfl rfl ?_
  refine wp_iload_n (i := 1) dX12_takeFromTree_129 rfl rfl ?_
  refine wp_iload_n (i := 3) dX12_takeFromTree_130 rfl rfl ?_
  refine wp_iload_n (i := 2) dX12_takeFromTree_131 rfl rfl ?_
  refine wp_iload dX12_takeFromTree_132 rfl ?_
  refine wp_if_ge 142 dX12_takeFromTree_134 (by decide) (fun q => ?_) (fun q => ?_)
  · replace hv := hv.1 q
    refine wp_iload dX12_takeFromTree_142 rfl ?_
    obtain ⟨V1, hE, hv⟩ := hv
    refine wz_callV (vs := [.int x1, .int x3, .int x2, .int x5]) (st := []) dX12_takeFromTree_144 (k57 hK) rfl k12_263_12 hE rfl (Nat.le_of_ble_eq_true rfl) (Nat.le_of_ble_eq_true rfl) ?_
    change wp _ _ _ _ _ [] _ _ _
    obtain ⟨rfl, rfl⟩ := hv
    exact wp_return dX12_takeFromTree_147 rfl rfl hq
  · replace hv := hv.2 q
    refine wp_iload dX12_takeFromTree_137 rfl ?_
    refine wp_goto 144 dX12_takeFromTree_139 (by decide) ?_
    obtain ⟨V2, hE, hv⟩ := hv
    refine wz_callV (vs := [.int x1, .int x3, .int x2, .int x6]) (st := []) dX12_takeFromTree_144 (k57 hK) rfl k12_263_12 hE rfl (Nat.le_of_ble_eq_true rfl) (Nat.le_of_ble_eq_true rfl) ?_
    change wp _ _ _ _ _ [] _ _ _
    obtain ⟨rfl, rfl⟩ := hv
    exact wp_return dX12_takeFromTree_147 rfl rfl hq
theorem wX12_takeFromTree_165 {x1 : Int32} {x2 : Int32} {x3 : Int32} {x4 : Int32} {x5 : Int32} {x6 : Int32} {x7 : Int32} {x8 : Int32} (hK : StK K)  (hv : (vp_in (((80 : Int32) * x1) + x8) 800 ∧ (((V 74 ((((80 : Int32) * x1) + x8)).toNatClampNeg) < 0 → ((x7 = x2 → Ev G (d + 1) mX12_takeFromTree 255 [(0, .ref 57), (1, .int x1), (2, .int x2), (3, .int x3), (4, .int x4), (5, .int x5), (6, .int x6), (7, .int x7), (8, .int x8)] (K, n, V, J, O) r (K, n, V', J, O)) ∧ (¬ x7 = x2 → (vp_in (((80 : Int32) * x1) + x8) 800 ∧ (vp_in (((80 : Int32) * x1) + x7) 800 ∧ (vp_in (((80 : Int32) * x1) + x8) 800 ∧ Ev G (d + 1) mX12_takeFromTree 255 [(0, .ref 57), (1, .int x1), (2, .int x2), (3, .int x3), (4, .int x4), (5, .int x5), (6, .int x6), (7, .int x7), (8, .int x8)] (K, n, (up2 (up2 V 74 ((((80 : Int32) * x1) + x7)).toNatClampNeg (V 75 ((((80 : Int32) * x1) + x8)).toNatClampNeg)) 75 ((((80 : Int32) * x1) + x8)).toNatClampNeg x6), J, O) r (K, n, V', J, O))))))) ∧ (¬ (V 74 ((((80 : Int32) * x1) + x8)).toNatClampNeg) < 0 → (vp_in (((80 : Int32) * x1) + x8) 800 ∧ Ev G (d + 1) mX12_takeFromTree 165 [(0, .ref 57), (1, .int x1), (2, .int x2), (3, .int x3), (4, .int x4), (5, .int x5), (6, .int x6), (7, .int x8), (8, .int (V 74 ((((80 : Int32) * x1) + x8)).toNatClampNeg))] (K, n, (up2 V 57 32 ((V 57 32) + (1 : Int32))), J, O) r (K, n, V', J, O)))))) : Ev G (d + 1) mX12_takeFromTree 165 [(0, .ref 57), (1, .int x1), (2, .int x2), (3, .int x3), (4, .int x4), (5, .int x5), (6, .int x6), (7, .int x7), (8, .int x8)] (K, n, V, J, O) r (K, n, V', J, O) := by
  refine Ev.mk fun Q hq => ?_
  refine wp_aload_n (i := 0) dX12_takeFromTree_165 rfl rfl ?_
  refine wz_getR (b := 74) dX12_takeFromTree_166 (k57 hK) (f12_59 _ (by decide)) rfl ?_
  refine wp_bipush (v := 80) dX12_takeFromTree_169 (by decide) ?_
  refine wp_iload_n (i := 1) dX12_takeFromTree_171 rfl rfl ?_
  refine wp_imul dX12_takeFromTree_172 ?_
  refine wp_iload dX12_takeFromTree_173 rfl ?_
  refine wp_iadd dX12_takeFromTree_175 ?_
  obtain ⟨z1, hv⟩ := hv
  refine wz_iaload dX12_takeFromTree_176 (k74 hK) z1 ?_
  refine wp_if_lt 211 dX12_takeFromTree_177 (by decide) (fun q => ?_) (fun q => ?_)
  · replace hv := hv.1 q
    refine wp_iload dX12_takeFromTree_211 rfl ?_
    refine wp_iload_n (i := 2) dX12_takeFromTree_213 rfl rfl ?_
    refine wp_icmp_eq 255 dX12_takeFromTree_214 (by decide) (fun q => ?_) (fun q => ?_)
    · replace hv := hv.1 q
      exact hv Q hq
    · replace hv := hv.2 q
      refine wp_aload_n (i := 0) dX12_takeFromTree_217 rfl rfl ?_
      refine wz_getR (b := 74) dX12_takeFromTree_218 (k57 hK) (f12_59 _ (by decide)) rfl ?_
      refine wp_bipush (v := 80) dX12_takeFromTree_221 (by decide) ?_
      refine wp_iload_n (i := 1) dX12_takeFromTree_223 rfl rfl ?_
      refine wp_imul dX12_takeFromTree_224 ?_
      refine wp_iload dX12_takeFromTree_225 rfl ?_
      refine wp_iadd dX12_takeFromTree_227 ?_
      refine wp_aload_n (i := 0) dX12_takeFromTree_228 rfl rfl ?_
      refine wz_getR (b := 75) dX12_takeFromTree_229 (k57 hK) (f12_62 _ (by decide)) rfl ?_
      refine wp_bipush (v := 80) dX12_takeFromTree_232 (by decide) ?_
      refine wp_iload_n (i := 1) dX12_takeFromTree_234 rfl rfl ?_
      refine wp_imul dX12_takeFromTree_235 ?_
      refine wp_iload dX12_takeFromTree_236 rfl ?_
      refine wp_iadd dX12_takeFromTree_238 ?_
      obtain ⟨z2, hv⟩ := hv
      refine wz_iaload dX12_takeFromTree_239 (k75 hK) z2 ?_
      obtain ⟨z3, hv⟩ := hv
      refine wz_iastore dX12_takeFromTree_240 (k74 hK) z3 ?_
      refine wp_aload_n (i := 0) dX12_takeFromTree_241 rfl rfl ?_
      refine wz_getR (b := 75) dX12_takeFromTree_242 (k57 hK) (f12_62 _ (by decide)) rfl ?_
      refine wp_bipush (v := 80) dX12_takeFromTree_245 (by decide) ?_
      refine wp_iload_n (i := 1) dX12_takeFromTree_247 rfl rfl ?_
      refine wp_imul dX12_takeFromTree_248 ?_
      refine wp_iload dX12_takeFromTree_249 rfl ?_
      refine wp_iadd dX12_takeFromTree_251 ?_
      refine wp_iload dX12_takeFromTree_252 rfl ?_
      obtain ⟨z4, hv⟩ := hv
      refine wz_iastore dX12_takeFromTree_254 (k75 hK) z4 ?_
      exact hv Q hq
  · replace hv := hv.2 q
    refine wp_iload dX12_takeFromTree_180 rfl ?_
    refine wx_istore (ls' := [(0, .ref 57), (1, .int x1), (2, .int x2), (3, .int x3), (4, .int x4), (5, .int x5), (6, .int x6), (7, .int x8), (8, .int x8)]) dX12_takeFromTree_182 (by decide) rfl ?_
    refine wp_aload_n (i := 0) dX12_takeFromTree_184 rfl rfl ?_
    refine wz_getR (b := 74) dX12_takeFromTree_185 (k57 hK) (f12_59 _ (by decide)) rfl ?_
    refine wp_bipush (v := 80) dX12_takeFromTree_188 (by decide) ?_
    refine wp_iload_n (i := 1) dX12_takeFromTree_190 rfl rfl ?_
    refine wp_imul dX12_takeFromTree_191 ?_
    refine wp_iload dX12_takeFromTree_192 rfl ?_
    refine wp_iadd dX12_takeFromTree_194 ?_
    obtain ⟨z5, hv⟩ := hv
    refine wz_iaload dX12_takeFromTree_195 (k74 hK) z5 ?_
    refine wx_istore (ls' := [(0, .ref 57), (1, .int x1), (2, .int x2), (3, .int x3), (4, .int x4), (5, .int x5), (6, .int x6), (7, .int x8), (8, .int (V 74 ((((80 : Int32) * x1) + x8)).toNatClampNeg))]) dX12_takeFromTree_196 (by decide) rfl ?_
    refine wp_aload_n (i := 0) dX12_takeFromTree_198 rfl rfl ?_
    refine wp_dupR dX12_takeFromTree_199 ?_
    refine wz_getI dX12_takeFromTree_200 (k57 hK) (f12_252 _ (by decide)) rfl ?_
    refine wp_iconst (v := 1) dX12_takeFromTree_203 (by decide) ?_
    refine wp_iadd dX12_takeFromTree_204 ?_
    refine wz_putI dX12_takeFromTree_205 (k57 hK) (w12_252 _ (by decide)) rfl ?_
    refine wp_goto 165 dX12_takeFromTree_208 (by decide) ?_
    exact hv Q hq
theorem wX12_takeFromTree_255 {x1 : Int32} {x2 : Int32} {x3 : Int32} {x4 : Int32} {x5 : Int32} {x6 : Int32} {x7 : Int32} {x8 : Int32} (hK : StK K)  (hv : (vp_in (((80 : Int32) * x1) + x8) 800 ∧ (∃ (V2 : SV), Ev G d mX12_hang 0 [(0, .ref 57), (1, .int x1), (2, .int x3), (3, .int x2), (4, .int x8)] (K, n, (up2 V 74 ((((80 : Int32) * x1) + x8)).toNatClampNeg x5), J, O) none (K, n, V2, J, O) ∧ (r = none ∧ V' = V2)))) : Ev G (d + 1) mX12_takeFromTree 255 [(0, .ref 57), (1, .int x1), (2, .int x2), (3, .int x3), (4, .int x4), (5, .int x5), (6, .int x6), (7, .int x7), (8, .int x8)] (K, n, V, J, O) r (K, n, V', J, O) := by
  refine Ev.mk fun Q hq => ?_
  refine wp_aload_n (i := 0) dX12_takeFromTree_255 rfl rfl ?_
  refine wz_getR (b := 74) dX12_takeFromTree_256 (k57 hK) (f12_59 _ (by decide)) rfl ?_
  refine wp_bipush (v := 80) dX12_takeFromTree_259 (by decide) ?_
  refine wp_iload_n (i := 1) dX12_takeFromTree_261 rfl rfl ?_
  refine wp_imul dX12_takeFromTree_262 ?_
  refine wp_iload dX12_takeFromTree_263 rfl ?_
  refine wp_iadd dX12_takeFromTree_265 ?_
  refine wp_iload dX12_takeFromTree_266 rfl ?_
  obtain ⟨z1, hv⟩ := hv
  refine wz_iastore dX12_takeFromTree_268 (k74 hK) z1 ?_
  refine wp_aload_n (i := 0) dX12_takeFromTree_269 rfl rfl ?_
  refine wp_iload_n (i := 1) dX12_takeFromTree_270 rfl rfl ?_
  refine wp_iload_n (i := 3) dX12_takeFromTree_271 rfl rfl ?_
  refine wp_iload_n (i := 2) dX12_takeFromTree_272 rfl rfl ?_
  refine wp_iload dX12_takeFromTree_273 rfl ?_
  obtain ⟨V2, hE, hv⟩ := hv
  refine wz_callV (vs := [.int x1, .int x3, .int x2, .int x8]) (st := []) dX12_takeFromTree_275 (k57 hK) rfl k12_263_12 hE rfl (Nat.le_of_ble_eq_true rfl) (Nat.le_of_ble_eq_true rfl) ?_
  change wp _ _ _ _ _ [] _ _ _
  obtain ⟨rfl, rfl⟩ := hv
  exact wp_return dX12_takeFromTree_278 rfl rfl hq
theorem wX12_putIn_0 {x1 : Int32} {x2 : Int32} (hK : StK K)  (hv : (vp_in x1 10 ∧ (((V 70 (x1).toNatClampNeg) = (1 : Int32) → (vp_in x1 10 ∧ (∃ (V3 : SV), Ev G d mX12_insert 0 [(0, .ref 57), (1, .int x1), (2, .int (V 73 (x1).toNatClampNeg)), (3, .int x2)] (K, n, (up2 V 57 32 (0 : Int32)), J, O) none (K, n, V3, J, O) ∧ Ev G (d + 1) mX12_putIn 197 [(0, .ref 57), (1, .int x1), (2, .int x2)] (K, n, (up2 V3 57 32 (1 : Int32)), J, O) r (K, n, V', J, O)))) ∧ ((V 70 (x1).toNatClampNeg) = (2 : Int32) → Ev G (d + 1) mX12_putIn 72 [(0, .ref 57), (1, .int x1), (2, .int x2)] (K, n, (up2 V 57 32 (0 : Int32)), J, O) r (K, n, V', J, O)) ∧ ((V 70 (x1).toNatClampNeg) = (3 : Int32) → (vp_in x1 10 ∧ (∃ (V5 : SV), Ev G d mX12_insert 0 [(0, .ref 57), (1, .int x1), (2, .int (V 73 (x1).toNatClampNeg)), (3, .int x2)] (K, n, (up2 V 57 32 (0 : Int32)), J, O) none (K, n, V5, J, O) ∧ (vp_in x1 10 ∧ (∃ (v8 : Int32) (V7 : SV), Ev G d mX12_goUp 0 [(0, .ref 57), (1, .int x1), (2, .int ((V5 73 (x1).toNatClampNeg) - (1 : Int32)))] (K, n, V5, J, O) (some (.int v8)) (K, n, V7, J, O) ∧ Ev G (d + 1) mX12_putIn 197 [(0, .ref 57), (1, .int x1), (2, .int x2)] (K, n, V7, J, O) r (K, n, V', J, O)))))) ∧ ((V 70 (x1).toNatClampNeg) = (4 : Int32) → (vp_in x1 10 ∧ (∃ (V10 : SV), Ev G d mX12_insert 0 [(0, .ref 57), (1, .int x1), (2, .int (V 73 (x1).toNatClampNeg)), (3, .int x2)] (K, n, (up2 V 57 32 (0 : Int32)), J, O) none (K, n, V10, J, O) ∧ Ev G (d + 1) mX12_putIn 197 [(0, .ref 57), (1, .int x1), (2, .int x2)] (K, n, (up2 V10 57 32 (1 : Int32)), J, O) r (K, n, V', J, O)))) ∧ ((V 70 (x1).toNatClampNeg) = (5 : Int32) → (∃ (V11 : SV), Ev G d mX12_putInTree 0 [(0, .ref 57), (1, .int x1), (2, .int x2)] (K, n, (up2 V 57 32 (0 : Int32)), J, O) none (K, n, V11, J, O) ∧ Ev G (d + 1) mX12_putIn 197 [(0, .ref 57), (1, .int x1), (2, .int x2)] (K, n, V11, J, O) r (K, n, V', J, O))) ∧ ((V 70 (x1).toNatClampNeg) = (6 : Int32) → (vp_in x1 10 ∧ (∃ (v13 : Int32), Ev G d mX12_keyIn 0 [(0, .ref 57), (1, .int x1), (2, .int x2)] (K, n, (up2 V 57 32 (0 : Int32)), J, O) (some (.int v13)) (K, n, (up2 V 57 32 (0 : Int32)), J, O) ∧ (∃ (v14 : Int32), Ev G d mX12_bitsOf 0 [(0, .int v13)] (K, n, (up2 V 57 32 (0 : Int32)), J, O) (some (.int v14)) (K, n, (up2 V 57 32 (0 : Int32)), J, O) ∧ (vp_in x1 10 ∧ Ev G (d + 1) mX12_putIn 197 [(0, .ref 57), (1, .int x1), (2, .int x2)] (K, n, (up2 (up2 (up2 V 57 32 (0 : Int32)) 77 (x1).toNatClampNeg ((V 77 (x1).toNatClampNeg) ||| v14)) 57 32 (2 : Int32)), J, O) r (K, n, V', J, O)))))) ∧ ((V 70 (x1).toNatClampNeg) = (7 : Int32) → Ev G (d + 1) mX12_putIn 72 [(0, .ref 57), (1, .int x1), (2, .int x2)] (K, n, (up2 V 57 32 (0 : Int32)), J, O) r (K, n, V', J, O)) ∧ ((¬ (V 70 (x1).toNatClampNeg) = (1 : Int32) ∧ ¬ (V 70 (x1).toNatClampNeg) = (2 : Int32) ∧ ¬ (V 70 (x1).toNatClampNeg) = (3 : Int32) ∧ ¬ (V 70 (x1).toNatClampNeg) = (4 : Int32) ∧ ¬ (V 70 (x1).toNatClampNeg) = (5 : Int32) ∧ ¬ (V 70 (x1).toNatClampNeg) = (6 : Int32) ∧ ¬ (V 70 (x1).toNatClampNeg) = (7 : Int32)) → Ev G (d + 1) mX12_putIn 197 [(0, .ref 57), (1, .int x1), (2, .int x2)] (K, n, (up2 V 57 32 (0 : Int32)), J, O) r (K, n, V', J, O))))) : Ev G (d + 1) mX12_putIn 0 [(0, .ref 57), (1, .int x1), (2, .int x2)] (K, n, V, J, O) r (K, n, V', J, O) := by
  refine Ev.mk fun Q hq => ?_
  refine wp_aload_n (i := 0) dX12_putIn_0 rfl rfl ?_
  refine wp_iconst (v := 0) dX12_putIn_1 (by decide) ?_
  refine wz_putI dX12_putIn_2 (k57 hK) (w12_252 _ (by decide)) rfl ?_
  refine wp_aload_n (i := 0) dX12_putIn_5 rfl rfl ?_
  refine wz_getR (b := 70) dX12_putIn_6 (k57 hK) (f12_47 _ (by decide)) rfl ?_
  refine wp_iload_n (i := 1) dX12_putIn_9 rfl rfl ?_
  obtain ⟨z1, hv⟩ := hv
  refine wz_ialoade (v := (V 70 (x1).toNatClampNeg)) dX12_putIn_10 (k70 hK) z1 (up2_a (by decide)) ?_
  by_cases q0 : (V 70 (x1).toNatClampNeg) = (1 : Int32)
  · refine wx_tableIn (off := 41) (1 : Int32) q0 52 dX12_putIn_11 (by decide) (by decide) (by decide +kernel) (by decide) ?_
    replace hv := hv.1 q0
    refine wp_aload_n (i := 0) dX12_putIn_52 rfl rfl ?_
    refine wp_iload_n (i := 1) dX12_putIn_53 rfl rfl ?_
    refine wp_aload_n (i := 0) dX12_putIn_54 rfl rfl ?_
    refine wz_getR (b := 73) dX12_putIn_55 (k57 hK) (f12_56 _ (by decide)) rfl ?_
    refine wp_iload_n (i := 1) dX12_putIn_58 rfl rfl ?_
    obtain ⟨z2, hv⟩ := hv
    refine wz_ialoade (v := (V 73 (x1).toNatClampNeg)) dX12_putIn_59 (k73 hK) z2 (up2_a (by decide)) ?_
    refine wp_iload_n (i := 2) dX12_putIn_60 rfl rfl ?_
    obtain ⟨V3, hE, hv⟩ := hv
    refine wz_callV (vs := [.int x1, .int (V 73 (x1).toNatClampNeg), .int x2]) (st := []) dX12_putIn_61 (k57 hK) rfl k12_267_12 hE rfl (Nat.le_of_ble_eq_true rfl) (Nat.le_of_ble_eq_true rfl) ?_
    change wp _ _ _ _ _ [] _ _ _
    refine wp_aload_n (i := 0) dX12_putIn_64 rfl rfl ?_
    refine wp_iconst (v := 1) dX12_putIn_65 (by decide) ?_
    refine wz_putI dX12_putIn_66 (k57 hK) (w12_252 _ (by decide)) rfl ?_
    refine wp_goto 197 dX12_putIn_69 (by decide) ?_
    exact hv Q hq
  by_cases q1 : (V 70 (x1).toNatClampNeg) = (2 : Int32)
  · refine wx_tableIn (off := 61) (2 : Int32) q1 72 dX12_putIn_11 (by decide) (by decide) (by decide +kernel) (by decide) ?_
    replace hv := hv.2.1 q1
    exact hv Q hq
  by_cases q2 : (V 70 (x1).toNatClampNeg) = (3 : Int32)
  · refine wx_tableIn (off := 101) (3 : Int32) q2 112 dX12_putIn_11 (by decide) (by decide) (by decide +kernel) (by decide) ?_
    replace hv := hv.2.2.1 q2
    refine wp_aload_n (i := 0) dX12_putIn_112 rfl rfl ?_
    refine wp_iload_n (i := 1) dX12_putIn_113 rfl rfl ?_
    refine wp_aload_n (i := 0) dX12_putIn_114 rfl rfl ?_
    refine wz_getR (b := 73) dX12_putIn_115 (k57 hK) (f12_56 _ (by decide)) rfl ?_
    refine wp_iload_n (i := 1) dX12_putIn_118 rfl rfl ?_
    obtain ⟨z4, hv⟩ := hv
    refine wz_ialoade (v := (V 73 (x1).toNatClampNeg)) dX12_putIn_119 (k73 hK) z4 (up2_a (by decide)) ?_
    refine wp_iload_n (i := 2) dX12_putIn_120 rfl rfl ?_
    obtain ⟨V5, hE, hv⟩ := hv
    refine wz_callV (vs := [.int x1, .int (V 73 (x1).toNatClampNeg), .int x2]) (st := []) dX12_putIn_121 (k57 hK) rfl k12_267_12 hE rfl (Nat.le_of_ble_eq_true rfl) (Nat.le_of_ble_eq_true rfl) ?_
    change wp _ _ _ _ _ [] _ _ _
    refine wp_aload_n (i := 0) dX12_putIn_124 rfl rfl ?_
    refine wp_iload_n (i := 1) dX12_putIn_125 rfl rfl ?_
    refine wp_aload_n (i := 0) dX12_putIn_126 rfl rfl ?_
    refine wz_getR (b := 73) dX12_putIn_127 (k57 hK) (f12_56 _ (by decide)) rfl ?_
    refine wp_iload_n (i := 1) dX12_putIn_130 rfl rfl ?_
    obtain ⟨z6, hv⟩ := hv
    refine wz_iaload dX12_putIn_131 (k73 hK) z6 ?_
    refine wp_iconst (v := 1) dX12_putIn_132 (by decide) ?_
    refine wp_isub dX12_putIn_133 ?_
    obtain ⟨v8, V7, hE, hv⟩ := hv
    refine wz_callV (vs := [.int x1, .int ((V5 73 (x1).toNatClampNeg) - (1 : Int32))]) (st := []) dX12_putIn_134 (k57 hK) rfl k12_273_12 hE rfl (Nat.le_of_ble_eq_true rfl) (Nat.le_of_ble_eq_true rfl) ?_
    change wp _ _ _ _ _ [.int v8] _ _ _
    refine wx_istore (ls' := [(0, .ref 57), (1, .int x1), (2, .int x2), (4, .int v8)]) dX12_putIn_137 (by decide) rfl ?_
    refine wp_goto 197 dX12_putIn_139 (by decide) ?_
    refine wx_sub (ls' := [(0, .ref 57), (1, .int x1), (2, .int x2)]) [0, 1, 2] rfl ?_
    exact hv Q hq
  by_cases q3 : (V 70 (x1).toNatClampNeg) = (4 : Int32)
  · refine wx_tableIn (off := 131) (4 : Int32) q3 142 dX12_putIn_11 (by decide) (by decide) (by decide +kernel) (by decide) ?_
    replace hv := hv.2.2.2.1 q3
    refine wp_aload_n (i := 0) dX12_putIn_142 rfl rfl ?_
    refine wp_iload_n (i := 1) dX12_putIn_143 rfl rfl ?_
    refine wp_aload_n (i := 0) dX12_putIn_144 rfl rfl ?_
    refine wz_getR (b := 73) dX12_putIn_145 (k57 hK) (f12_56 _ (by decide)) rfl ?_
    refine wp_iload_n (i := 1) dX12_putIn_148 rfl rfl ?_
    obtain ⟨z9, hv⟩ := hv
    refine wz_ialoade (v := (V 73 (x1).toNatClampNeg)) dX12_putIn_149 (k73 hK) z9 (up2_a (by decide)) ?_
    refine wp_iload_n (i := 2) dX12_putIn_150 rfl rfl ?_
    obtain ⟨V10, hE, hv⟩ := hv
    refine wz_callV (vs := [.int x1, .int (V 73 (x1).toNatClampNeg), .int x2]) (st := []) dX12_putIn_151 (k57 hK) rfl k12_267_12 hE rfl (Nat.le_of_ble_eq_true rfl) (Nat.le_of_ble_eq_true rfl) ?_
    change wp _ _ _ _ _ [] _ _ _
    refine wp_aload_n (i := 0) dX12_putIn_154 rfl rfl ?_
    refine wp_iconst (v := 1) dX12_putIn_155 (by decide) ?_
    refine wz_putI dX12_putIn_156 (k57 hK) (w12_252 _ (by decide)) rfl ?_
    refine wp_goto 197 dX12_putIn_159 (by decide) ?_
    exact hv Q hq
  by_cases q4 : (V 70 (x1).toNatClampNeg) = (5 : Int32)
  · refine wx_tableIn (off := 151) (5 : Int32) q4 162 dX12_putIn_11 (by decide) (by decide) (by decide +kernel) (by decide) ?_
    replace hv := hv.2.2.2.2.1 q4
    refine wp_aload_n (i := 0) dX12_putIn_162 rfl rfl ?_
    refine wp_iload_n (i := 1) dX12_putIn_163 rfl rfl ?_
    refine wp_iload_n (i := 2) dX12_putIn_164 rfl rfl ?_
    obtain ⟨V11, hE, hv⟩ := hv
    refine wz_callV (vs := [.int x1, .int x2]) (st := []) dX12_putIn_165 (k57 hK) rfl k12_276_12 hE rfl (Nat.le_of_ble_eq_true rfl) (Nat.le_of_ble_eq_true rfl) ?_
    change wp _ _ _ _ _ [] _ _ _
    refine wp_goto 197 dX12_putIn_168 (by decide) ?_
    exact hv Q hq
  by_cases q5 : (V 70 (x1).toNatClampNeg) = (6 : Int32)
  · refine wx_tableIn (off := 160) (6 : Int32) q5 171 dX12_putIn_11 (by decide) (by decide) (by decide +kernel) (by decide) ?_
    replace hv := hv.2.2.2.2.2.1 q5
    refine wp_aload_n (i := 0) dX12_putIn_171 rfl rfl ?_
    refine wz_getR (b := 77) dX12_putIn_172 (k57 hK) (f12_68 _ (by decide)) rfl ?_
    refine wp_iload_n (i := 1) dX12_putIn_175 rfl rfl ?_
    refine wp_dup2 dX12_putIn_176 ?_
    obtain ⟨z12, hv⟩ := hv
    refine wz_ialoade (v := (V 77 (x1).toNatClampNeg)) dX12_putIn_177 (k77 hK) z12 (up2_a (by decide)) ?_
    refine wp_aload_n (i := 0) dX12_putIn_178 rfl rfl ?_
    refine wp_iload_n (i := 1) dX12_putIn_179 rfl rfl ?_
    refine wp_iload_n (i := 2) dX12_putIn_180 rfl rfl ?_
    obtain ⟨v13, hE, hv⟩ := hv
    refine wz_callV (vs := [.int x1, .int x2]) (st := [.int (V 77 (x1).toNatClampNeg), .int x1, .ref 77]) dX12_putIn_181 (k57 hK) rfl k12_244_12 hE rfl (Nat.le_of_ble_eq_true rfl) (Nat.le_of_ble_eq_true rfl) ?_
    change wp _ _ _ _ _ [.int v13, .int (V 77 (x1).toNatClampNeg), .int x1, .ref 77] _ _ _
    obtain ⟨v14, hE, hv⟩ := hv
    refine wz_callS (vs := [.int v13]) (st := [.int (V 77 (x1).toNatClampNeg), .int x1, .ref 77]) dX12_putIn_184 k12_279 hE rfl (Nat.le_of_ble_eq_true rfl) (Nat.le_of_ble_eq_true rfl) ?_
    change wp _ _ _ _ _ [.int v14, .int (V 77 (x1).toNatClampNeg), .int x1, .ref 77] _ _ _
    refine wp_ior dX12_putIn_187 ?_
    obtain ⟨z15, hv⟩ := hv
    refine wz_iastore dX12_putIn_188 (k77 hK) z15 ?_
    refine wp_aload_n (i := 0) dX12_putIn_189 rfl rfl ?_
    refine wp_iconst (v := 2) dX12_putIn_190 (by decide) ?_
    refine wz_putI dX12_putIn_191 (k57 hK) (w12_252 _ (by decide)) rfl ?_
    refine wp_goto 197 dX12_putIn_194 (by decide) ?_
    exact hv Q hq
  by_cases q6 : (V 70 (x1).toNatClampNeg) = (7 : Int32)
  · refine wx_tableIn (off := 61) (7 : Int32) q6 72 dX12_putIn_11 (by decide) (by decide) (by decide +kernel) (by decide) ?_
    replace hv := hv.2.2.2.2.2.2.1 q6
    exact hv Q hq
  refine wp_tableOut 197 dX12_putIn_11 (by have n0 := lv_neT q0 (show ((1 : Int32)).toInt = 1 by decide); have n1 := lv_neT q1 (show ((2 : Int32)).toInt = 2 by decide); have n2 := lv_neT q2 (show ((3 : Int32)).toInt = 3 by decide); have n3 := lv_neT q3 (show ((4 : Int32)).toInt = 4 by decide); have n4 := lv_neT q4 (show ((5 : Int32)).toInt = 5 by decide); have n5 := lv_neT q5 (show ((6 : Int32)).toInt = 6 by decide); have n6 := lv_neT q6 (show ((7 : Int32)).toInt = 7 by decide); omega) (by decide) ?_
  replace hv := hv.2.2.2.2.2.2.2 ⟨q0, q1, q2, q3, q4, q5, q6⟩
  exact hv Q hq
theorem wX12_putIn_72 {x1 : Int32} {x2 : Int32} (hK : StK K)  (hv : (∃ (v1 : Int32), Ev G d mX12_keyIn 0 [(0, .ref 57), (1, .int x1), (2, .int x2)] (K, n, V, J, O) (some (.int v1)) (K, n, V, J, O) ∧ (∃ (v3 : Int32) (V2 : SV), Ev G d mX12_placeOf 0 [(0, .ref 57), (1, .int x1), (2, .int v1), (3, .int x2)] (K, n, V, J, O) (some (.int v3)) (K, n, V2, J, O) ∧ (vp_in x1 10 ∧ (∃ (V5 : SV), Ev G d mX12_insert 0 [(0, .ref 57), (1, .int x1), (2, .int v3), (3, .int x2)] (K, n, (up2 V2 57 32 ((V2 57 32) + ((V2 73 (x1).toNatClampNeg) - v3))), J, O) none (K, n, V5, J, O) ∧ Ev G (d + 1) mX12_putIn 197 [(0, .ref 57), (1, .int x1), (2, .int x2)] (K, n, V5, J, O) r (K, n, V', J, O)))))) : Ev G (d + 1) mX12_putIn 72 [(0, .ref 57), (1, .int x1), (2, .int x2)] (K, n, V, J, O) r (K, n, V', J, O) := by
  refine Ev.mk fun Q hq => ?_
  refine wp_aload_n (i := 0) dX12_putIn_72 rfl rfl ?_
  refine wp_iload_n (i := 1) dX12_putIn_73 rfl rfl ?_
  refine wp_aload_n (i := 0) dX12_putIn_74 rfl rfl ?_
  refine wp_iload_n (i := 1) dX12_putIn_75 rfl rfl ?_
  refine wp_iload_n (i := 2) dX12_putIn_76 rfl rfl ?_
  obtain ⟨v1, hE, hv⟩ := hv
  refine wz_callV (vs := [.int x1, .int x2]) (st := [.int x1, .ref 57]) dX12_putIn_77 (k57 hK) rfl k12_244_12 hE rfl (Nat.le_of_ble_eq_true rfl) (Nat.le_of_ble_eq_true rfl) ?_
  change wp _ _ _ _ _ [.int v1, .int x1, .ref 57] _ _ _
  refine wp_iload_n (i := 2) dX12_putIn_80 rfl rfl ?_
  obtain ⟨v3, V2, hE, hv⟩ := hv
  refine wz_callV (vs := [.int x1, .int v1, .int x2]) (st := []) dX12_putIn_81 (k57 hK) rfl k12_270_12 hE rfl (Nat.le_of_ble_eq_true rfl) (Nat.le_of_ble_eq_true rfl) ?_
  change wp _ _ _ _ _ [.int v3] _ _ _
  refine wx_istore_n (ls' := [(0, .ref 57), (1, .int x1), (2, .int x2), (3, .int v3)]) (i := 3) dX12_putIn_84 rfl (by decide) rfl ?_
  refine wp_aload_n (i := 0) dX12_putIn_85 rfl rfl ?_
  refine wp_dupR dX12_putIn_86 ?_
  refine wz_getI dX12_putIn_87 (k57 hK) (f12_252 _ (by decide)) rfl ?_
  refine wp_aload_n (i := 0) dX12_putIn_90 rfl rfl ?_
  refine wz_getR (b := 73) dX12_putIn_91 (k57 hK) (f12_56 _ (by decide)) rfl ?_
  refine wp_iload_n (i := 1) dX12_putIn_94 rfl rfl ?_
  obtain ⟨z4, hv⟩ := hv
  refine wz_iaload dX12_putIn_95 (k73 hK) z4 ?_
  refine wp_iload_n (i := 3) dX12_putIn_96 rfl rfl ?_
  refine wp_isub dX12_putIn_97 ?_
  refine wp_iadd dX12_putIn_98 ?_
  refine wz_putI dX12_putIn_99 (k57 hK) (w12_252 _ (by decide)) rfl ?_
  refine wp_aload_n (i := 0) dX12_putIn_102 rfl rfl ?_
  refine wp_iload_n (i := 1) dX12_putIn_103 rfl rfl ?_
  refine wp_iload_n (i := 3) dX12_putIn_104 rfl rfl ?_
  refine wp_iload_n (i := 2) dX12_putIn_105 rfl rfl ?_
  obtain ⟨V5, hE, hv⟩ := hv
  refine wz_callV (vs := [.int x1, .int v3, .int x2]) (st := []) dX12_putIn_106 (k57 hK) rfl k12_267_12 hE rfl (Nat.le_of_ble_eq_true rfl) (Nat.le_of_ble_eq_true rfl) ?_
  change wp _ _ _ _ _ [] _ _ _
  refine wp_goto 197 dX12_putIn_109 (by decide) ?_
  refine wx_sub (ls' := [(0, .ref 57), (1, .int x1), (2, .int x2)]) [0, 1, 2] rfl ?_
  exact hv Q hq
theorem wX12_putIn_197 {x1 : Int32} {x2 : Int32} (hK : StK K)  (hv : (vp_in x1 10 ∧ (vp_in x1 10 ∧ (vp_in x1 10 ∧ (r = none ∧ V' = (up2 (up2 V 78 (x1).toNatClampNeg ((V 78 (x1).toNatClampNeg) + (V 57 32))) 79 (x1).toNatClampNeg (V 57 32))))))) : Ev G (d + 1) mX12_putIn 197 [(0, .ref 57), (1, .int x1), (2, .int x2)] (K, n, V, J, O) r (K, n, V', J, O) := by
  refine Ev.mk fun Q hq => ?_
  refine wp_aload_n (i := 0) dX12_putIn_197 rfl rfl ?_
  refine wz_getR (b := 78) dX12_putIn_198 (k57 hK) (f12_71 _ (by decide)) rfl ?_
  refine wp_iload_n (i := 1) dX12_putIn_201 rfl rfl ?_
  refine wp_dup2 dX12_putIn_202 ?_
  obtain ⟨z1, hv⟩ := hv
  refine wz_iaload dX12_putIn_203 (k78 hK) z1 ?_
  refine wp_aload_n (i := 0) dX12_putIn_204 rfl rfl ?_
  refine wz_getI dX12_putIn_205 (k57 hK) (f12_252 _ (by decide)) rfl ?_
  refine wp_iadd dX12_putIn_208 ?_
  obtain ⟨z2, hv⟩ := hv
  refine wz_iastore dX12_putIn_209 (k78 hK) z2 ?_
  refine wp_aload_n (i := 0) dX12_putIn_210 rfl rfl ?_
  refine wz_getR (b := 79) dX12_putIn_211 (k57 hK) (f12_74 _ (by decide)) rfl ?_
  refine wp_iload_n (i := 1) dX12_putIn_214 rfl rfl ?_
  refine wp_aload_n (i := 0) dX12_putIn_215 rfl rfl ?_
  refine wz_getIe (v := (V 57 32)) dX12_putIn_216 (k57 hK) (f12_252 _ (by decide)) rfl (up2_a (by decide)) ?_
  obtain ⟨z3, hv⟩ := hv
  refine wz_iastore dX12_putIn_219 (k79 hK) z3 ?_
  obtain ⟨rfl, rfl⟩ := hv
  exact wp_return dX12_putIn_220 rfl rfl hq
theorem wX12_takeFromHeap_0 {x1 : Int32} {x2 : Int32} (hK : StK K)  (hv : (∃ (v1 : Int32), Ev G d mX12_placeIn 0 [(0, .ref 57), (1, .int x1), (2, .int x2)] (K, n, V, J, O) (some (.int v1)) (K, n, V, J, O) ∧ (vp_in x1 10 ∧ (vp_in x1 10 ∧ (vp_in x1 10 ∧ ((((up2 (up2 V 57 32 (v1 + (1 : Int32))) 73 (x1).toNatClampNeg ((V 73 (x1).toNatClampNeg) - (1 : Int32))) 73 (x1).toNatClampNeg) ≤ v1 → (r = none ∧ V' = (up2 (up2 V 57 32 (v1 + (1 : Int32))) 73 (x1).toNatClampNeg ((V 73 (x1).toNatClampNeg) - (1 : Int32))))) ∧ (¬ ((up2 (up2 V 57 32 (v1 + (1 : Int32))) 73 (x1).toNatClampNeg ((V 73 (x1).toNatClampNeg) - (1 : Int32))) 73 (x1).toNatClampNeg) ≤ v1 → (vp_in x1 10 ∧ (vp_in (((80 : Int32) * x1) + ((up2 (up2 V 57 32 (v1 + (1 : Int32))) 73 (x1).toNatClampNeg ((V 73 (x1).toNatClampNeg) - (1 : Int32))) 73 (x1).toNatClampNeg)) 800 ∧ (vp_in (((80 : Int32) * x1) + v1) 800 ∧ (∃ (v9 : Int32) (V8 : SV), Ev G d mX12_goUp 0 [(0, .ref 57), (1, .int x1), (2, .int v1)] (K, n, (up2 (up2 (up2 V 57 32 (v1 + (1 : Int32))) 73 (x1).toNatClampNeg ((V 73 (x1).toNatClampNeg) - (1 : Int32))) 72 ((((80 : Int32) * x1) + v1)).toNatClampNeg (V 72 ((((80 : Int32) * x1) + ((up2 (up2 V 57 32 (v1 + (1 : Int32))) 73 (x1).toNatClampNeg ((V 73 (x1).toNatClampNeg) - (1 : Int32))) 73 (x1).toNatClampNeg))).toNatClampNeg)), J, O) (some (.int v9)) (K, n, V8, J, O) ∧ ((v9 ≠ v1 → (r = none ∧ V' = V8)) ∧ (v9 = v1 → (∃ (V10 : SV), Ev G d mX12_goDown 0 [(0, .ref 57), (1, .int x1), (2, .int v1)] (K, n, V8, J, O) none (K, n, V10, J, O) ∧ (r = none ∧ V' = V10))))))))))))))) : Ev G (d + 1) mX12_takeFromHeap 0 [(0, .ref 57), (1, .int x1), (2, .int x2)] (K, n, V, J, O) r (K, n, V', J, O) := by
  refine Ev.mk fun Q hq => ?_
  refine wp_aload_n (i := 0) dX12_takeFromHeap_0 rfl rfl ?_
  refine wp_iload_n (i := 1) dX12_takeFromHeap_1 rfl rfl ?_
  refine wp_iload_n (i := 2) dX12_takeFromHeap_2 rfl rfl ?_
  obtain ⟨v1, hE, hv⟩ := hv
  refine wz_callV (vs := [.int x1, .int x2]) (st := []) dX12_takeFromHeap_3 (k57 hK) rfl k12_282_12 hE rfl (Nat.le_of_ble_eq_true rfl) (Nat.le_of_ble_eq_true rfl) ?_
  change wp _ _ _ _ _ [.int v1] _ _ _
  refine wx_istore_n (ls' := [(0, .ref 57), (1, .int x1), (2, .int x2), (3, .int v1)]) (i := 3) dX12_takeFromHeap_6 rfl (by decide) rfl ?_
  refine wp_aload_n (i := 0) dX12_takeFromHeap_7 rfl rfl ?_
  refine wp_iload_n (i := 3) dX12_takeFromHeap_8 rfl rfl ?_
  refine wp_iconst (v := 1) dX12_takeFromHeap_9 (by decide) ?_
  refine wp_iadd dX12_takeFromHeap_10 ?_
  refine wz_putI dX12_takeFromHeap_11 (k57 hK) (w12_252 _ (by decide)) rfl ?_
  refine wp_aload_n (i := 0) dX12_takeFromHeap_14 rfl rfl ?_
  refine wz_getR (b := 73) dX12_takeFromHeap_15 (k57 hK) (f12_56 _ (by decide)) rfl ?_
  refine wp_iload_n (i := 1) dX12_takeFromHeap_18 rfl rfl ?_
  refine wp_dup2 dX12_takeFromHeap_19 ?_
  obtain ⟨z2, hv⟩ := hv
  refine wz_ialoade (v := (V 73 (x1).toNatClampNeg)) dX12_takeFromHeap_20 (k73 hK) z2 (up2_a (by decide)) ?_
  refine wp_iconst (v := 1) dX12_takeFromHeap_21 (by decide) ?_
  refine wp_isub dX12_takeFromHeap_22 ?_
  obtain ⟨z3, hv⟩ := hv
  refine wz_iastore dX12_takeFromHeap_23 (k73 hK) z3 ?_
  refine wp_iload_n (i := 3) dX12_takeFromHeap_24 rfl rfl ?_
  refine wp_aload_n (i := 0) dX12_takeFromHeap_25 rfl rfl ?_
  refine wz_getR (b := 73) dX12_takeFromHeap_26 (k57 hK) (f12_56 _ (by decide)) rfl ?_
  refine wp_iload_n (i := 1) dX12_takeFromHeap_29 rfl rfl ?_
  obtain ⟨z4, hv⟩ := hv
  refine wz_iaload dX12_takeFromHeap_30 (k73 hK) z4 ?_
  refine wp_icmp_ge 77 dX12_takeFromHeap_31 (by decide) (fun q => ?_) (fun q => ?_)
  · replace hv := hv.1 q
    obtain ⟨rfl, rfl⟩ := hv
    exact wp_return dX12_takeFromHeap_77 rfl rfl hq
  · replace hv := hv.2 q
    refine wp_aload_n (i := 0) dX12_takeFromHeap_34 rfl rfl ?_
    refine wz_getR (b := 72) dX12_takeFromHeap_35 (k57 hK) (f12_53 _ (by decide)) rfl ?_
    refine wp_bipush (v := 80) dX12_takeFromHeap_38 (by decide) ?_
    refine wp_iload_n (i := 1) dX12_takeFromHeap_40 rfl rfl ?_
    refine wp_imul dX12_takeFromHeap_41 ?_
    refine wp_iload_n (i := 3) dX12_takeFromHeap_42 rfl rfl ?_
    refine wp_iadd dX12_takeFromHeap_43 ?_
    refine wp_aload_n (i := 0) dX12_takeFromHeap_44 rfl rfl ?_
    refine wz_getR (b := 72) dX12_takeFromHeap_45 (k57 hK) (f12_53 _ (by decide)) rfl ?_
    refine wp_bipush (v := 80) dX12_takeFromHeap_48 (by decide) ?_
    refine wp_iload_n (i := 1) dX12_takeFromHeap_50 rfl rfl ?_
    refine wp_imul dX12_takeFromHeap_51 ?_
    refine wp_aload_n (i := 0) dX12_takeFromHeap_52 rfl rfl ?_
    refine wz_getR (b := 73) dX12_takeFromHeap_53 (k57 hK) (f12_56 _ (by decide)) rfl ?_
    refine wp_iload_n (i := 1) dX12_takeFromHeap_56 rfl rfl ?_
    obtain ⟨z5, hv⟩ := hv
    refine wz_iaload dX12_takeFromHeap_57 (k73 hK) z5 ?_
    refine wp_iadd dX12_takeFromHeap_58 ?_
    obtain ⟨z6, hv⟩ := hv
    refine wz_ialoade (v := (V 72 ((((80 : Int32) * x1) + ((up2 (up2 V 57 32 (v1 + (1 : Int32))) 73 (x1).toNatClampNeg ((V 73 (x1).toNatClampNeg) - (1 : Int32))) 73 (x1).toNatClampNeg))).toNatClampNeg)) dX12_takeFromHeap_59 (k72 hK) z6 (Eq.trans (up2_a (by decide)) (up2_a (by decide))) ?_
    obtain ⟨z7, hv⟩ := hv
    refine wz_iastore dX12_takeFromHeap_60 (k72 hK) z7 ?_
    refine wp_aload_n (i := 0) dX12_takeFromHeap_61 rfl rfl ?_
    refine wp_iload_n (i := 1) dX12_takeFromHeap_62 rfl rfl ?_
    refine wp_iload_n (i := 3) dX12_takeFromHeap_63 rfl rfl ?_
    obtain ⟨v9, V8, hE, hv⟩ := hv
    refine wz_callV (vs := [.int x1, .int v1]) (st := []) dX12_takeFromHeap_64 (k57 hK) rfl k12_273_12 hE rfl (Nat.le_of_ble_eq_true rfl) (Nat.le_of_ble_eq_true rfl) ?_
    change wp _ _ _ _ _ [.int v9] _ _ _
    refine wp_iload_n (i := 3) dX12_takeFromHeap_67 rfl rfl ?_
    refine wp_icmp_ne 77 dX12_takeFromHeap_68 (by decide) (fun q => ?_) (fun q => ?_)
    · replace hv := hv.1 q
      obtain ⟨rfl, rfl⟩ := hv
      exact wp_return dX12_takeFromHeap_77 rfl rfl hq
    · replace hv := hv.2 q
      refine wp_aload_n (i := 0) dX12_takeFromHeap_71 rfl rfl ?_
      refine wp_iload_n (i := 1) dX12_takeFromHeap_72 rfl rfl ?_
      refine wp_iload_n (i := 3) dX12_takeFromHeap_73 rfl rfl ?_
      obtain ⟨V10, hE, hv⟩ := hv
      refine wz_callV (vs := [.int x1, .int v1]) (st := []) dX12_takeFromHeap_74 (k57 hK) rfl k12_285_12 hE rfl (Nat.le_of_ble_eq_true rfl) (Nat.le_of_ble_eq_true rfl) ?_
      change wp _ _ _ _ _ [] _ _ _
      obtain ⟨rfl, rfl⟩ := hv
      exact wp_return dX12_takeFromHeap_77 rfl rfl hq
theorem wX12_inBucket_0 {x1 : Int32} {x2 : Int32} (hK : StK K)  (hv : Ev G (d + 1) mX12_inBucket 5 [(0, .ref 57), (1, .int x1), (2, .int x2), (3, .int (0 : Int32)), (4, .int (0 : Int32))] (K, n, V, J, O) r (K, n, V, J, O)) : Ev G (d + 1) mX12_inBucket 0 [(0, .ref 57), (1, .int x1), (2, .int x2)] (K, n, V, J, O) r (K, n, V, J, O) := by
  refine Ev.mk fun Q hq => ?_
  refine wp_iconst (v := 0) dX12_inBucket_0 (by decide) ?_
  refine wx_istore_n (ls' := [(0, .ref 57), (1, .int x1), (2, .int x2), (3, .int (0 : Int32))]) (i := 3) dX12_inBucket_1 rfl (by decide) rfl ?_
  refine wp_iconst (v := 0) dX12_inBucket_2 (by decide) ?_
  refine wx_istore (ls' := [(0, .ref 57), (1, .int x1), (2, .int x2), (3, .int (0 : Int32)), (4, .int (0 : Int32))]) dX12_inBucket_3 (by decide) rfl ?_
  exact hv Q hq
theorem wX12_inBucket_5 {x1 : Int32} {x2 : Int32} {x3 : Int32} {x4 : Int32} (hK : StK K)  (hv : (∃ (v1 : Int32), Ev G d mX12_placeIn 0 [(0, .ref 57), (1, .int x1), (2, .int x2)] (K, n, V, J, O) (some (.int v1)) (K, n, V, J, O) ∧ ((v1 < x4 → r = some (.int x3)) ∧ (¬ v1 < x4 → (vp_in (((80 : Int32) * x1) + x4) 800 ∧ (∃ (v3 : Int32), Ev G d mX12_keyIn 0 [(0, .ref 57), (1, .int x1), (2, .int (V 72 ((((80 : Int32) * x1) + x4)).toNatClampNeg))] (K, n, V, J, O) (some (.int v3)) (K, n, V, J, O) ∧ (∃ (v4 : Int32), Ev G d mX12_keyIn 0 [(0, .ref 57), (1, .int x1), (2, .int x2)] (K, n, V, J, O) (some (.int v4)) (K, n, V, J, O) ∧ (((v3 - v3 / (8 : Int32) * (8 : Int32)) ≠ (v4 - v4 / (8 : Int32) * (8 : Int32)) → Ev G (d + 1) mX12_inBucket 5 [(0, .ref 57), (1, .int x1), (2, .int x2), (3, .int (x3 + (0 : Int32))), (4, .int (x4 + 1))] (K, n, V, J, O) r (K, n, V, J, O)) ∧ ((v3 - v3 / (8 : Int32) * (8 : Int32)) = (v4 - v4 / (8 : Int32) * (8 : Int32)) → Ev G (d + 1) mX12_inBucket 5 [(0, .ref 57), (1, .int x1), (2, .int x2), (3, .int (x3 + (1 : Int32))), (4, .int (x4 + 1))] (K, n, V, J, O) r (K, n, V, J, O)))))))))) : Ev G (d + 1) mX12_inBucket 5 [(0, .ref 57), (1, .int x1), (2, .int x2), (3, .int x3), (4, .int x4)] (K, n, V, J, O) r (K, n, V, J, O) := by
  refine Ev.mk fun Q hq => ?_
  refine wp_iload dX12_inBucket_5 rfl ?_
  refine wp_aload_n (i := 0) dX12_inBucket_7 rfl rfl ?_
  refine wp_iload_n (i := 1) dX12_inBucket_8 rfl rfl ?_
  refine wp_iload_n (i := 2) dX12_inBucket_9 rfl rfl ?_
  obtain ⟨v1, hE, hv⟩ := hv
  refine wz_callV (vs := [.int x1, .int x2]) (st := [.int x4]) dX12_inBucket_10 (k57 hK) rfl k12_282_12 hE rfl (Nat.le_of_ble_eq_true rfl) (Nat.le_of_ble_eq_true rfl) ?_
  change wp _ _ _ _ _ [.int v1, .int x4] _ _ _
  refine wp_icmp_gt 62 dX12_inBucket_13 (by decide) (fun q => ?_) (fun q => ?_)
  · replace hv := hv.1 q
    refine wp_iload_n (i := 3) dX12_inBucket_62 rfl rfl ?_
    obtain rfl := hv
    exact wp_ireturn dX12_inBucket_63 rfl rfl rfl hq
  · replace hv := hv.2 q
    refine wp_iload_n (i := 3) dX12_inBucket_16 rfl rfl ?_
    refine wp_aload_n (i := 0) dX12_inBucket_17 rfl rfl ?_
    refine wp_iload_n (i := 1) dX12_inBucket_18 rfl rfl ?_
    refine wp_aload_n (i := 0) dX12_inBucket_19 rfl rfl ?_
    refine wz_getR (b := 72) dX12_inBucket_20 (k57 hK) (f12_53 _ (by decide)) rfl ?_
    refine wp_bipush (v := 80) dX12_inBucket_23 (by decide) ?_
    refine wp_iload_n (i := 1) dX12_inBucket_25 rfl rfl ?_
    refine wp_imul dX12_inBucket_26 ?_
    refine wp_iload dX12_inBucket_27 rfl ?_
    refine wp_iadd dX12_inBucket_29 ?_
    obtain ⟨z2, hv⟩ := hv
    refine wz_iaload dX12_inBucket_30 (k72 hK) z2 ?_
    obtain ⟨v3, hE, hv⟩ := hv
    refine wz_callV (vs := [.int x1, .int (V 72 ((((80 : Int32) * x1) + x4)).toNatClampNeg)]) (st := [.int x3]) dX12_inBucket_31 (k57 hK) rfl k12_244_12 hE rfl (Nat.le_of_ble_eq_true rfl) (Nat.le_of_ble_eq_true rfl) ?_
    change wp _ _ _ _ _ [.int v3, .int x3] _ _ _
    refine wp_bipush (v := 8) dX12_inBucket_34 (by decide) ?_
    refine wp_irem dX12_inBucket_36 (by decide) ?_
    refine wp_aload_n (i := 0) dX12_inBucket_37 rfl rfl ?_
    refine wp_iload_n (i := 1) dX12_inBucket_38 rfl rfl ?_
    refine wp_iload_n (i := 2) dX12_inBucket_39 rfl rfl ?_
    obtain ⟨v4, hE, hv⟩ := hv
    refine wz_callV (vs := [.int x1, .int x2]) (st := [.int (v3 - v3 / (8 : Int32) * (8 : Int32)), .int x3]) dX12_inBucket_40 (k57 hK) rfl k12_244_12 hE rfl (Nat.le_of_ble_eq_true rfl) (Nat.le_of_ble_eq_true rfl) ?_
    change wp _ _ _ _ _ [.int v4, .int (v3 - v3 / (8 : Int32) * (8 : Int32)), .int x3] _ _ _
    refine wp_bipush (v := 8) dX12_inBucket_43 (by decide) ?_
    refine wp_irem dX12_inBucket_45 (by decide) ?_
    refine wp_icmp_ne 53 dX12_inBucket_46 (by decide) (fun q => ?_) (fun q => ?_)
    · replace hv := hv.1 q
      refine wp_iconst (v := 0) dX12_inBucket_53 (by decide) ?_
      refine wp_iadd dX12_inBucket_54 ?_
      refine wx_istore_n (ls' := [(0, .ref 57), (1, .int x1), (2, .int x2), (3, .int (x3 + (0 : Int32))), (4, .int x4)]) (i := 3) dX12_inBucket_55 rfl (by decide) rfl ?_
      refine wx_iinc (v := 1) (ls' := [(0, .ref 57), (1, .int x1), (2, .int x2), (3, .int (x3 + (0 : Int32))), (4, .int (x4 + 1))]) dX12_inBucket_56 rfl (by decide) (by decide) rfl ?_
      refine wp_goto 5 dX12_inBucket_59 (by decide) ?_
      exact hv Q hq
    · replace hv := hv.2 q
      refine wp_iconst (v := 1) dX12_inBucket_49 (by decide) ?_
      refine wp_goto 54 dX12_inBucket_50 (by decide) ?_
      refine wp_iadd dX12_inBucket_54 ?_
      refine wx_istore_n (ls' := [(0, .ref 57), (1, .int x1), (2, .int x2), (3, .int (x3 + (1 : Int32))), (4, .int x4)]) (i := 3) dX12_inBucket_55 rfl (by decide) rfl ?_
      refine wx_iinc (v := 1) (ls' := [(0, .ref 57), (1, .int x1), (2, .int x2), (3, .int (x3 + (1 : Int32))), (4, .int (x4 + 1))]) dX12_inBucket_56 rfl (by decide) (by decide) rfl ?_
      refine wp_goto 5 dX12_inBucket_59 (by decide) ?_
      exact hv Q hq
theorem wX12_takeFrom_0 {x1 : Int32} {x2 : Int32} (hK : StK K)  (hv : (vp_in x1 10 ∧ (((V 70 (x1).toNatClampNeg) = (1 : Int32) → (∃ (v2 : Int32), Ev G d mX12_placeIn 0 [(0, .ref 57), (1, .int x1), (2, .int x2)] (K, n, (up2 V 57 32 (0 : Int32)), J, O) (some (.int v2)) (K, n, (up2 V 57 32 (0 : Int32)), J, O) ∧ (∃ (v3 : Int32), Ev G d mX12_placeIn 0 [(0, .ref 57), (1, .int x1), (2, .int x2)] (K, n, (up2 (up2 V 57 32 (0 : Int32)) 57 32 (v2 + (1 : Int32))), J, O) (some (.int v3)) (K, n, (up2 (up2 V 57 32 (0 : Int32)) 57 32 (v2 + (1 : Int32))), J, O) ∧ (∃ (V4 : SV), Ev G d mX12_remove 0 [(0, .ref 57), (1, .int x1), (2, .int v3)] (K, n, (up2 (up2 V 57 32 (0 : Int32)) 57 32 (v2 + (1 : Int32))), J, O) none (K, n, V4, J, O) ∧ Ev G (d + 1) mX12_takeFrom 169 [(0, .ref 57), (1, .int x1), (2, .int x2)] (K, n, V4, J, O) r (K, n, V', J, O))))) ∧ ((V 70 (x1).toNatClampNeg) = (2 : Int32) → Ev G (d + 1) mX12_takeFrom 78 [(0, .ref 57), (1, .int x1), (2, .int x2)] (K, n, (up2 V 57 32 (0 : Int32)), J, O) r (K, n, V', J, O)) ∧ ((V 70 (x1).toNatClampNeg) = (3 : Int32) → (∃ (V5 : SV), Ev G d mX12_takeFromHeap 0 [(0, .ref 57), (1, .int x1), (2, .int x2)] (K, n, (up2 V 57 32 (0 : Int32)), J, O) none (K, n, V5, J, O) ∧ Ev G (d + 1) mX12_takeFrom 169 [(0, .ref 57), (1, .int x1), (2, .int x2)] (K, n, V5, J, O) r (K, n, V', J, O))) ∧ ((V 70 (x1).toNatClampNeg) = (4 : Int32) → (∃ (v6 : Int32), Ev G d mX12_inBucket 0 [(0, .ref 57), (1, .int x1), (2, .int x2)] (K, n, (up2 V 57 32 (0 : Int32)), J, O) (some (.int v6)) (K, n, (up2 V 57 32 (0 : Int32)), J, O) ∧ (∃ (v7 : Int32), Ev G d mX12_placeIn 0 [(0, .ref 57), (1, .int x1), (2, .int x2)] (K, n, (up2 (up2 V 57 32 (0 : Int32)) 57 32 v6), J, O) (some (.int v7)) (K, n, (up2 (up2 V 57 32 (0 : Int32)) 57 32 v6), J, O) ∧ (∃ (V8 : SV), Ev G d mX12_remove 0 [(0, .ref 57), (1, .int x1), (2, .int v7)] (K, n, (up2 (up2 V 57 32 (0 : Int32)) 57 32 v6), J, O) none (K, n, V8, J, O) ∧ Ev G (d + 1) mX12_takeFrom 169 [(0, .ref 57), (1, .int x1), (2, .int x2)] (K, n, V8, J, O) r (K, n, V', J, O))))) ∧ ((V 70 (x1).toNatClampNeg) = (5 : Int32) → (∃ (V9 : SV), Ev G d mX12_takeFromTree 0 [(0, .ref 57), (1, .int x1), (2, .int x2)] (K, n, (up2 V 57 32 (0 : Int32)), J, O) none (K, n, V9, J, O) ∧ Ev G (d + 1) mX12_takeFrom 169 [(0, .ref 57), (1, .int x1), (2, .int x2)] (K, n, V9, J, O) r (K, n, V', J, O))) ∧ ((V 70 (x1).toNatClampNeg) = (6 : Int32) → Ev G (d + 1) mX12_takeFrom 169 [(0, .ref 57), (1, .int x1), (2, .int x2)] (K, n, (up2 (up2 V 57 32 (0 : Int32)) 57 32 (1 : Int32)), J, O) r (K, n, V', J, O)) ∧ ((V 70 (x1).toNatClampNeg) = (7 : Int32) → Ev G (d + 1) mX12_takeFrom 78 [(0, .ref 57), (1, .int x1), (2, .int x2)] (K, n, (up2 V 57 32 (0 : Int32)), J, O) r (K, n, V', J, O)) ∧ ((¬ (V 70 (x1).toNatClampNeg) = (1 : Int32) ∧ ¬ (V 70 (x1).toNatClampNeg) = (2 : Int32) ∧ ¬ (V 70 (x1).toNatClampNeg) = (3 : Int32) ∧ ¬ (V 70 (x1).toNatClampNeg) = (4 : Int32) ∧ ¬ (V 70 (x1).toNatClampNeg) = (5 : Int32) ∧ ¬ (V 70 (x1).toNatClampNeg) = (6 : Int32) ∧ ¬ (V 70 (x1).toNatClampNeg) = (7 : Int32)) → Ev G (d + 1) mX12_takeFrom 169 [(0, .ref 57), (1, .int x1), (2, .int x2)] (K, n, (up2 V 57 32 (0 : Int32)), J, O) r (K, n, V', J, O))))) : Ev G (d + 1) mX12_takeFrom 0 [(0, .ref 57), (1, .int x1), (2, .int x2)] (K, n, V, J, O) r (K, n, V', J, O) := by
  refine Ev.mk fun Q hq => ?_
  refine wp_aload_n (i := 0) dX12_takeFrom_0 rfl rfl ?_
  refine wp_iconst (v := 0) dX12_takeFrom_1 (by decide) ?_
  refine wz_putI dX12_takeFrom_2 (k57 hK) (w12_252 _ (by decide)) rfl ?_
  refine wp_aload_n (i := 0) dX12_takeFrom_5 rfl rfl ?_
  refine wz_getR (b := 70) dX12_takeFrom_6 (k57 hK) (f12_47 _ (by decide)) rfl ?_
  refine wp_iload_n (i := 1) dX12_takeFrom_9 rfl rfl ?_
  obtain ⟨z1, hv⟩ := hv
  refine wz_ialoade (v := (V 70 (x1).toNatClampNeg)) dX12_takeFrom_10 (k70 hK) z1 (up2_a (by decide)) ?_
  by_cases q0 : (V 70 (x1).toNatClampNeg) = (1 : Int32)
  · refine wx_tableIn (off := 41) (1 : Int32) q0 52 dX12_takeFrom_11 (by decide) (by decide) (by decide +kernel) (by decide) ?_
    replace hv := hv.1 q0
    refine wp_aload_n (i := 0) dX12_takeFrom_52 rfl rfl ?_
    refine wp_aload_n (i := 0) dX12_takeFrom_53 rfl rfl ?_
    refine wp_iload_n (i := 1) dX12_takeFrom_54 rfl rfl ?_
    refine wp_iload_n (i := 2) dX12_takeFrom_55 rfl rfl ?_
    obtain ⟨v2, hE, hv⟩ := hv
    refine wz_callV (vs := [.int x1, .int x2]) (st := [.ref 57]) dX12_takeFrom_56 (k57 hK) rfl k12_282_12 hE rfl (Nat.le_of_ble_eq_true rfl) (Nat.le_of_ble_eq_true rfl) ?_
    change wp _ _ _ _ _ [.int v2, .ref 57] _ _ _
    refine wp_iconst (v := 1) dX12_takeFrom_59 (by decide) ?_
    refine wp_iadd dX12_takeFrom_60 ?_
    refine wz_putI dX12_takeFrom_61 (k57 hK) (w12_252 _ (by decide)) rfl ?_
    refine wp_aload_n (i := 0) dX12_takeFrom_64 rfl rfl ?_
    refine wp_iload_n (i := 1) dX12_takeFrom_65 rfl rfl ?_
    refine wp_aload_n (i := 0) dX12_takeFrom_66 rfl rfl ?_
    refine wp_iload_n (i := 1) dX12_takeFrom_67 rfl rfl ?_
    refine wp_iload_n (i := 2) dX12_takeFrom_68 rfl rfl ?_
    obtain ⟨v3, hE, hv⟩ := hv
    refine wz_callV (vs := [.int x1, .int x2]) (st := [.int x1, .ref 57]) dX12_takeFrom_69 (k57 hK) rfl k12_282_12 hE rfl (Nat.le_of_ble_eq_true rfl) (Nat.le_of_ble_eq_true rfl) ?_
    change wp _ _ _ _ _ [.int v3, .int x1, .ref 57] _ _ _
    obtain ⟨V4, hE, hv⟩ := hv
    refine wz_callV (vs := [.int x1, .int v3]) (st := []) dX12_takeFrom_72 (k57 hK) rfl k12_288_12 hE rfl (Nat.le_of_ble_eq_true rfl) (Nat.le_of_ble_eq_true rfl) ?_
    change wp _ _ _ _ _ [] _ _ _
    refine wp_goto 169 dX12_takeFrom_75 (by decide) ?_
    exact hv Q hq
  by_cases q1 : (V 70 (x1).toNatClampNeg) = (2 : Int32)
  · refine wx_tableIn (off := 67) (2 : Int32) q1 78 dX12_takeFrom_11 (by decide) (by decide) (by decide +kernel) (by decide) ?_
    replace hv := hv.2.1 q1
    exact hv Q hq
  by_cases q2 : (V 70 (x1).toNatClampNeg) = (3 : Int32)
  · refine wx_tableIn (off := 108) (3 : Int32) q2 119 dX12_takeFrom_11 (by decide) (by decide) (by decide +kernel) (by decide) ?_
    replace hv := hv.2.2.1 q2
    refine wp_aload_n (i := 0) dX12_takeFrom_119 rfl rfl ?_
    refine wp_iload_n (i := 1) dX12_takeFrom_120 rfl rfl ?_
    refine wp_iload_n (i := 2) dX12_takeFrom_121 rfl rfl ?_
    obtain ⟨V5, hE, hv⟩ := hv
    refine wz_callV (vs := [.int x1, .int x2]) (st := []) dX12_takeFrom_122 (k57 hK) rfl k12_291_12 hE rfl (Nat.le_of_ble_eq_true rfl) (Nat.le_of_ble_eq_true rfl) ?_
    change wp _ _ _ _ _ [] _ _ _
    refine wp_goto 169 dX12_takeFrom_125 (by decide) ?_
    exact hv Q hq
  by_cases q3 : (V 70 (x1).toNatClampNeg) = (4 : Int32)
  · refine wx_tableIn (off := 117) (4 : Int32) q3 128 dX12_takeFrom_11 (by decide) (by decide) (by decide +kernel) (by decide) ?_
    replace hv := hv.2.2.2.1 q3
    refine wp_aload_n (i := 0) dX12_takeFrom_128 rfl rfl ?_
    refine wp_aload_n (i := 0) dX12_takeFrom_129 rfl rfl ?_
    refine wp_iload_n (i := 1) dX12_takeFrom_130 rfl rfl ?_
    refine wp_iload_n (i := 2) dX12_takeFrom_131 rfl rfl ?_
    obtain ⟨v6, hE, hv⟩ := hv
    refine wz_callV (vs := [.int x1, .int x2]) (st := [.ref 57]) dX12_takeFrom_132 (k57 hK) rfl k12_294_12 hE rfl (Nat.le_of_ble_eq_true rfl) (Nat.le_of_ble_eq_true rfl) ?_
    change wp _ _ _ _ _ [.int v6, .ref 57] _ _ _
    refine wz_putI dX12_takeFrom_135 (k57 hK) (w12_252 _ (by decide)) rfl ?_
    refine wp_aload_n (i := 0) dX12_takeFrom_138 rfl rfl ?_
    refine wp_iload_n (i := 1) dX12_takeFrom_139 rfl rfl ?_
    refine wp_aload_n (i := 0) dX12_takeFrom_140 rfl rfl ?_
    refine wp_iload_n (i := 1) dX12_takeFrom_141 rfl rfl ?_
    refine wp_iload_n (i := 2) dX12_takeFrom_142 rfl rfl ?_
    obtain ⟨v7, hE, hv⟩ := hv
    refine wz_callV (vs := [.int x1, .int x2]) (st := [.int x1, .ref 57]) dX12_takeFrom_143 (k57 hK) rfl k12_282_12 hE rfl (Nat.le_of_ble_eq_true rfl) (Nat.le_of_ble_eq_true rfl) ?_
    change wp _ _ _ _ _ [.int v7, .int x1, .ref 57] _ _ _
    obtain ⟨V8, hE, hv⟩ := hv
    refine wz_callV (vs := [.int x1, .int v7]) (st := []) dX12_takeFrom_146 (k57 hK) rfl k12_288_12 hE rfl (Nat.le_of_ble_eq_true rfl) (Nat.le_of_ble_eq_true rfl) ?_
    change wp _ _ _ _ _ [] _ _ _
    refine wp_goto 169 dX12_takeFrom_149 (by decide) ?_
    exact hv Q hq
  by_cases q4 : (V 70 (x1).toNatClampNeg) = (5 : Int32)
  · refine wx_tableIn (off := 141) (5 : Int32) q4 152 dX12_takeFrom_11 (by decide) (by decide) (by decide +kernel) (by decide) ?_
    replace hv := hv.2.2.2.2.1 q4
    refine wp_aload_n (i := 0) dX12_takeFrom_152 rfl rfl ?_
    refine wp_iload_n (i := 1) dX12_takeFrom_153 rfl rfl ?_
    refine wp_iload_n (i := 2) dX12_takeFrom_154 rfl rfl ?_
    obtain ⟨V9, hE, hv⟩ := hv
    refine wz_callV (vs := [.int x1, .int x2]) (st := []) dX12_takeFrom_155 (k57 hK) rfl k12_297_12 hE rfl (Nat.le_of_ble_eq_true rfl) (Nat.le_of_ble_eq_true rfl) ?_
    change wp _ _ _ _ _ [] _ _ _
    refine wp_goto 169 dX12_takeFrom_158 (by decide) ?_
    exact hv Q hq
  by_cases q5 : (V 70 (x1).toNatClampNeg) = (6 : Int32)
  · refine wx_tableIn (off := 150) (6 : Int32) q5 161 dX12_takeFrom_11 (by decide) (by decide) (by decide +kernel) (by decide) ?_
    replace hv := hv.2.2.2.2.2.1 q5
    refine wp_aload_n (i := 0) dX12_takeFrom_161 rfl rfl ?_
    refine wp_iconst (v := 1) dX12_takeFrom_162 (by decide) ?_
    refine wz_putI dX12_takeFrom_163 (k57 hK) (w12_252 _ (by decide)) rfl ?_
    refine wp_goto 169 dX12_takeFrom_166 (by decide) ?_
    exact hv Q hq
  by_cases q6 : (V 70 (x1).toNatClampNeg) = (7 : Int32)
  · refine wx_tableIn (off := 67) (7 : Int32) q6 78 dX12_takeFrom_11 (by decide) (by decide) (by decide +kernel) (by decide) ?_
    replace hv := hv.2.2.2.2.2.2.1 q6
    exact hv Q hq
  refine wp_tableOut 169 dX12_takeFrom_11 (by have n0 := lv_neT q0 (show ((1 : Int32)).toInt = 1 by decide); have n1 := lv_neT q1 (show ((2 : Int32)).toInt = 2 by decide); have n2 := lv_neT q2 (show ((3 : Int32)).toInt = 3 by decide); have n3 := lv_neT q3 (show ((4 : Int32)).toInt = 4 by decide); have n4 := lv_neT q4 (show ((5 : Int32)).toInt = 5 by decide); have n5 := lv_neT q5 (show ((6 : Int32)).toInt = 6 by decide); have n6 := lv_neT q6 (show ((7 : Int32)).toInt = 7 by decide); omega) (by decide) ?_
  replace hv := hv.2.2.2.2.2.2.2 ⟨q0, q1, q2, q3, q4, q5, q6⟩
  exact hv Q hq
theorem wX12_takeFrom_78 {x1 : Int32} {x2 : Int32} (hK : StK K)  (hv : (∃ (v1 : Int32), Ev G d mX12_keyIn 0 [(0, .ref 57), (1, .int x1), (2, .int x2)] (K, n, V, J, O) (some (.int v1)) (K, n, V, J, O) ∧ (∃ (v3 : Int32) (V2 : SV), Ev G d mX12_placeOf 0 [(0, .ref 57), (1, .int x1), (2, .int v1), (3, .int x2)] (K, n, V, J, O) (some (.int v3)) (K, n, V2, J, O) ∧ (vp_in x1 10 ∧ (∃ (V5 : SV), Ev G d mX12_remove 0 [(0, .ref 57), (1, .int x1), (2, .int v3)] (K, n, (up2 V2 57 32 ((V2 57 32) + (((V2 73 (x1).toNatClampNeg) - (1 : Int32)) - v3))), J, O) none (K, n, V5, J, O) ∧ Ev G (d + 1) mX12_takeFrom 169 [(0, .ref 57), (1, .int x1), (2, .int x2)] (K, n, V5, J, O) r (K, n, V', J, O)))))) : Ev G (d + 1) mX12_takeFrom 78 [(0, .ref 57), (1, .int x1), (2, .int x2)] (K, n, V, J, O) r (K, n, V', J, O) := by
  refine Ev.mk fun Q hq => ?_
  refine wp_aload_n (i := 0) dX12_takeFrom_78 rfl rfl ?_
  refine wp_iload_n (i := 1) dX12_takeFrom_79 rfl rfl ?_
  refine wp_aload_n (i := 0) dX12_takeFrom_80 rfl rfl ?_
  refine wp_iload_n (i := 1) dX12_takeFrom_81 rfl rfl ?_
  refine wp_iload_n (i := 2) dX12_takeFrom_82 rfl rfl ?_
  obtain ⟨v1, hE, hv⟩ := hv
  refine wz_callV (vs := [.int x1, .int x2]) (st := [.int x1, .ref 57]) dX12_takeFrom_83 (k57 hK) rfl k12_244_12 hE rfl (Nat.le_of_ble_eq_true rfl) (Nat.le_of_ble_eq_true rfl) ?_
  change wp _ _ _ _ _ [.int v1, .int x1, .ref 57] _ _ _
  refine wp_iload_n (i := 2) dX12_takeFrom_86 rfl rfl ?_
  obtain ⟨v3, V2, hE, hv⟩ := hv
  refine wz_callV (vs := [.int x1, .int v1, .int x2]) (st := []) dX12_takeFrom_87 (k57 hK) rfl k12_270_12 hE rfl (Nat.le_of_ble_eq_true rfl) (Nat.le_of_ble_eq_true rfl) ?_
  change wp _ _ _ _ _ [.int v3] _ _ _
  refine wx_istore_n (ls' := [(0, .ref 57), (1, .int x1), (2, .int x2), (3, .int v3)]) (i := 3) dX12_takeFrom_90 rfl (by decide) rfl ?_
  refine wp_aload_n (i := 0) dX12_takeFrom_91 rfl rfl ?_
  refine wp_dupR dX12_takeFrom_92 ?_
  refine wz_getI dX12_takeFrom_93 (k57 hK) (f12_252 _ (by decide)) rfl ?_
  refine wp_aload_n (i := 0) dX12_takeFrom_96 rfl rfl ?_
  refine wz_getR (b := 73) dX12_takeFrom_97 (k57 hK) (f12_56 _ (by decide)) rfl ?_
  refine wp_iload_n (i := 1) dX12_takeFrom_100 rfl rfl ?_
  obtain ⟨z4, hv⟩ := hv
  refine wz_iaload dX12_takeFrom_101 (k73 hK) z4 ?_
  refine wp_iconst (v := 1) dX12_takeFrom_102 (by decide) ?_
  refine wp_isub dX12_takeFrom_103 ?_
  refine wp_iload_n (i := 3) dX12_takeFrom_104 rfl rfl ?_
  refine wp_isub dX12_takeFrom_105 ?_
  refine wp_iadd dX12_takeFrom_106 ?_
  refine wz_putI dX12_takeFrom_107 (k57 hK) (w12_252 _ (by decide)) rfl ?_
  refine wp_aload_n (i := 0) dX12_takeFrom_110 rfl rfl ?_
  refine wp_iload_n (i := 1) dX12_takeFrom_111 rfl rfl ?_
  refine wp_iload_n (i := 3) dX12_takeFrom_112 rfl rfl ?_
  obtain ⟨V5, hE, hv⟩ := hv
  refine wz_callV (vs := [.int x1, .int v3]) (st := []) dX12_takeFrom_113 (k57 hK) rfl k12_288_12 hE rfl (Nat.le_of_ble_eq_true rfl) (Nat.le_of_ble_eq_true rfl) ?_
  change wp _ _ _ _ _ [] _ _ _
  refine wp_goto 169 dX12_takeFrom_116 (by decide) ?_
  refine wx_sub (ls' := [(0, .ref 57), (1, .int x1), (2, .int x2)]) [0, 1, 2] rfl ?_
  exact hv Q hq
theorem wX12_takeFrom_169 {x1 : Int32} {x2 : Int32} (hK : StK K)  (hv : (vp_in x1 10 ∧ (vp_in x1 10 ∧ (vp_in x1 10 ∧ (r = none ∧ V' = (up2 (up2 V 78 (x1).toNatClampNeg ((V 78 (x1).toNatClampNeg) + (V 57 32))) 79 (x1).toNatClampNeg (V 57 32))))))) : Ev G (d + 1) mX12_takeFrom 169 [(0, .ref 57), (1, .int x1), (2, .int x2)] (K, n, V, J, O) r (K, n, V', J, O) := by
  refine Ev.mk fun Q hq => ?_
  refine wp_aload_n (i := 0) dX12_takeFrom_169 rfl rfl ?_
  refine wz_getR (b := 78) dX12_takeFrom_170 (k57 hK) (f12_71 _ (by decide)) rfl ?_
  refine wp_iload_n (i := 1) dX12_takeFrom_173 rfl rfl ?_
  refine wp_dup2 dX12_takeFrom_174 ?_
  obtain ⟨z1, hv⟩ := hv
  refine wz_iaload dX12_takeFrom_175 (k78 hK) z1 ?_
  refine wp_aload_n (i := 0) dX12_takeFrom_176 rfl rfl ?_
  refine wz_getI dX12_takeFrom_177 (k57 hK) (f12_252 _ (by decide)) rfl ?_
  refine wp_iadd dX12_takeFrom_180 ?_
  obtain ⟨z2, hv⟩ := hv
  refine wz_iastore dX12_takeFrom_181 (k78 hK) z2 ?_
  refine wp_aload_n (i := 0) dX12_takeFrom_182 rfl rfl ?_
  refine wz_getR (b := 79) dX12_takeFrom_183 (k57 hK) (f12_74 _ (by decide)) rfl ?_
  refine wp_iload_n (i := 1) dX12_takeFrom_186 rfl rfl ?_
  refine wp_aload_n (i := 0) dX12_takeFrom_187 rfl rfl ?_
  refine wz_getIe (v := (V 57 32)) dX12_takeFrom_188 (k57 hK) (f12_252 _ (by decide)) rfl (up2_a (by decide)) ?_
  obtain ⟨z3, hv⟩ := hv
  refine wz_iastore dX12_takeFrom_191 (k79 hK) z3 ?_
  obtain ⟨rfl, rfl⟩ := hv
  exact wp_return dX12_takeFrom_192 rfl rfl hq
theorem wX12_stone_0 {x1 : Int32} {x2 : Int32} (hK : StK K)  (hv : (∃ (v1 : Int32), Ev G d mX12_within 0 [(0, .long x1.toInt64), (2, .long (0 : Int64)), (4, .long (7 : Int64))] (K, n, V, J, O) (some (.int v1)) (K, n, V, J, O) ∧ ((v1 = 0 → (r = some (.int (-1 : Int32)) ∧ V' = V)) ∧ (¬ v1 = 0 → (∃ (v2 : Int32), Ev G d mX12_isField 0 [(0, .int x2)] (K, n, V, J, O) (some (.int v2)) (K, n, V, J, O) ∧ ((v2 ≠ 0 → (((V 57 25) ≠ (10 : Int32) → (vp_in (V 57 25) 10 ∧ (vp_in (V 57 25) 10 ∧ (vp_in (V 57 25) 10 ∧ Ev G (d + 1) mX12_stone 75 [(0, .ref 57), (1, .int x1), (2, .int x2), (3, .int (0 : Int32))] (K, n, (up2 (up2 (up2 (up2 V 70 ((V 57 25)).toNatClampNeg x1) 71 ((V 57 25)).toNatClampNeg x2) 76 ((V 57 25)).toNatClampNeg (-1 : Int32)) 57 25 ((V 57 25) + (1 : Int32))), J, O) r (K, n, V', J, O))))) ∧ ((V 57 25) = (10 : Int32) → (r = some (.int (-3 : Int32)) ∧ V' = V)))) ∧ (v2 = 0 → (r = some (.int (-1 : Int32)) ∧ V' = V)))))))) : Ev G (d + 1) mX12_stone 0 [(0, .ref 57), (1, .int x1), (2, .int x2)] (K, n, V, J, O) r (K, n, V', J, O) := by
  refine Ev.mk fun Q hq => ?_
  refine wp_iload_n (i := 1) dX12_stone_0 rfl rfl ?_
  refine wp_i2l dX12_stone_1 ?_
  refine wp_lconst (v := 0) dX12_stone_2 (by decide) ?_
  refine wp_ldc2 (v := 7) dX12_stone_3 q12_300 ?_
  obtain ⟨v1, hE, hv⟩ := hv
  refine wz_callS (vs := [.long x1.toInt64, .long (0 : Int64), .long (7 : Int64)]) (st := []) dX12_stone_6 k12_135 hE rfl (Nat.le_of_ble_eq_true rfl) (Nat.le_of_ble_eq_true rfl) ?_
  change wp _ _ _ _ _ [.int v1] _ _ _
  refine wp_if_eq 19 dX12_stone_9 (by decide) (fun q => ?_) (fun q => ?_)
  · replace hv := hv.1 q
    refine wp_iconst (v := -1) dX12_stone_19 (by decide) ?_
    obtain ⟨rfl, rfl⟩ := hv
    exact wp_ireturn dX12_stone_20 rfl rfl rfl hq
  · replace hv := hv.2 q
    refine wp_iload_n (i := 2) dX12_stone_12 rfl rfl ?_
    obtain ⟨v2, hE, hv⟩ := hv
    refine wz_callS (vs := [.int x2]) (st := []) dX12_stone_13 k12_168 hE rfl (Nat.le_of_ble_eq_true rfl) (Nat.le_of_ble_eq_true rfl) ?_
    change wp _ _ _ _ _ [.int v2] _ _ _
    refine wp_if_ne 21 dX12_stone_16 (by decide) (fun q => ?_) (fun q => ?_)
    · replace hv := hv.1 q
      refine wp_aload_n (i := 0) dX12_stone_21 rfl rfl ?_
      refine wz_getI dX12_stone_22 (k57 hK) (f12_153 _ (by decide)) rfl ?_
      refine wp_bipush (v := 10) dX12_stone_25 (by decide) ?_
      refine wp_icmp_ne 33 dX12_stone_27 (by decide) (fun q => ?_) (fun q => ?_)
      · replace hv := hv.1 q
        refine wp_aload_n (i := 0) dX12_stone_33 rfl rfl ?_
        refine wz_getR (b := 70) dX12_stone_34 (k57 hK) (f12_47 _ (by decide)) rfl ?_
        refine wp_aload_n (i := 0) dX12_stone_37 rfl rfl ?_
        refine wz_getI dX12_stone_38 (k57 hK) (f12_153 _ (by decide)) rfl ?_
        refine wp_iload_n (i := 1) dX12_stone_41 rfl rfl ?_
        obtain ⟨z3, hv⟩ := hv
        refine wz_iastore dX12_stone_42 (k70 hK) z3 ?_
        refine wp_aload_n (i := 0) dX12_stone_43 rfl rfl ?_
        refine wz_getR (b := 71) dX12_stone_44 (k57 hK) (f12_50 _ (by decide)) rfl ?_
        refine wp_aload_n (i := 0) dX12_stone_47 rfl rfl ?_
        refine wz_getIe (v := (V 57 25)) dX12_stone_48 (k57 hK) (f12_153 _ (by decide)) rfl (up2_a (by decide)) ?_
        refine wp_iload_n (i := 2) dX12_stone_51 rfl rfl ?_
        obtain ⟨z4, hv⟩ := hv
        refine wz_iastore dX12_stone_52 (k71 hK) z4 ?_
        refine wp_aload_n (i := 0) dX12_stone_53 rfl rfl ?_
        refine wz_getR (b := 76) dX12_stone_54 (k57 hK) (f12_65 _ (by decide)) rfl ?_
        refine wp_aload_n (i := 0) dX12_stone_57 rfl rfl ?_
        refine wz_getIe (v := (V 57 25)) dX12_stone_58 (k57 hK) (f12_153 _ (by decide)) rfl (Eq.trans (up2_a (by decide)) (up2_a (by decide))) ?_
        refine wp_iconst (v := -1) dX12_stone_61 (by decide) ?_
        obtain ⟨z5, hv⟩ := hv
        refine wz_iastore dX12_stone_62 (k76 hK) z5 ?_
        refine wp_aload_n (i := 0) dX12_stone_63 rfl rfl ?_
        refine wp_dupR dX12_stone_64 ?_
        refine wz_getIe (v := (V 57 25)) dX12_stone_65 (k57 hK) (f12_153 _ (by decide)) rfl (Eq.trans (up2_a (by decide)) (Eq.trans (up2_a (by decide)) (up2_a (by decide)))) ?_
        refine wp_iconst (v := 1) dX12_stone_68 (by decide) ?_
        refine wp_iadd dX12_stone_69 ?_
        refine wz_putI dX12_stone_70 (k57 hK) (w12_153 _ (by decide)) rfl ?_
        refine wp_iconst (v := 0) dX12_stone_73 (by decide) ?_
        refine wx_istore_n (ls' := [(0, .ref 57), (1, .int x1), (2, .int x2), (3, .int (0 : Int32))]) (i := 3) dX12_stone_74 rfl (by decide) rfl ?_
        exact hv Q hq
      · replace hv := hv.2 q
        refine wp_bipush (v := -3) dX12_stone_30 (by decide) ?_
        obtain ⟨rfl, rfl⟩ := hv
        exact wp_ireturn dX12_stone_32 rfl rfl rfl hq
    · replace hv := hv.2 q
      refine wp_iconst (v := -1) dX12_stone_19 (by decide) ?_
      obtain ⟨rfl, rfl⟩ := hv
      exact wp_ireturn dX12_stone_20 rfl rfl rfl hq
theorem wX12_stone_75 {x1 : Int32} {x2 : Int32} {x3 : Int32} (hK : StK K)  (hv : (((V 57 2) ≤ x3 → (r = some (.int ((V 57 25) - (1 : Int32))) ∧ V' = V)) ∧ (¬ (V 57 2) ≤ x3 → (vp_in x3 80 ∧ (((V 59 (x3).toNatClampNeg) = 0 → Ev G (d + 1) mX12_stone 75 [(0, .ref 57), (1, .int x1), (2, .int x2), (3, .int (x3 + 1))] (K, n, V, J, O) r (K, n, V', J, O)) ∧ (¬ (V 59 (x3).toNatClampNeg) = 0 → (∃ (V2 : SV), Ev G d mX12_putIn 0 [(0, .ref 57), (1, .int ((V 57 25) - (1 : Int32))), (2, .int x3)] (K, n, V, J, O) none (K, n, V2, J, O) ∧ Ev G (d + 1) mX12_stone 75 [(0, .ref 57), (1, .int x1), (2, .int x2), (3, .int (x3 + 1))] (K, n, V2, J, O) r (K, n, V', J, O)))))))) : Ev G (d + 1) mX12_stone 75 [(0, .ref 57), (1, .int x1), (2, .int x2), (3, .int x3)] (K, n, V, J, O) r (K, n, V', J, O) := by
  refine Ev.mk fun Q hq => ?_
  refine wp_iload_n (i := 3) dX12_stone_75 rfl rfl ?_
  refine wp_aload_n (i := 0) dX12_stone_76 rfl rfl ?_
  refine wz_getI dX12_stone_77 (k57 hK) (f12_130 _ (by decide)) rfl ?_
  refine wp_icmp_ge 109 dX12_stone_80 (by decide) (fun q => ?_) (fun q => ?_)
  · replace hv := hv.1 q
    refine wp_aload_n (i := 0) dX12_stone_109 rfl rfl ?_
    refine wz_getI dX12_stone_110 (k57 hK) (f12_153 _ (by decide)) rfl ?_
    refine wp_iconst (v := 1) dX12_stone_113 (by decide) ?_
    refine wp_isub dX12_stone_114 ?_
    obtain ⟨rfl, rfl⟩ := hv
    exact wp_ireturn dX12_stone_115 rfl rfl rfl hq
  · replace hv := hv.2 q
    refine wp_aload_n (i := 0) dX12_stone_83 rfl rfl ?_
    refine wz_getR (b := 59) dX12_stone_84 (k57 hK) (f12_13 _ (by decide)) rfl ?_
    refine wp_iload_n (i := 3) dX12_stone_87 rfl rfl ?_
    obtain ⟨z1, hv⟩ := hv
    refine wz_baload dX12_stone_88 (k59 hK) z1 ?_
    refine wp_if_eq 103 dX12_stone_89 (by decide) (fun q => ?_) (fun q => ?_)
    · replace hv := hv.1 q
      refine wx_iinc (v := 1) (ls' := [(0, .ref 57), (1, .int x1), (2, .int x2), (3, .int (x3 + 1))]) dX12_stone_103 rfl (by decide) (by decide) rfl ?_
      refine wp_goto 75 dX12_stone_106 (by decide) ?_
      exact hv Q hq
    · replace hv := hv.2 q
      refine wp_aload_n (i := 0) dX12_stone_92 rfl rfl ?_
      refine wp_aload_n (i := 0) dX12_stone_93 rfl rfl ?_
      refine wz_getI dX12_stone_94 (k57 hK) (f12_153 _ (by decide)) rfl ?_
      refine wp_iconst (v := 1) dX12_stone_97 (by decide) ?_
      refine wp_isub dX12_stone_98 ?_
      refine wp_iload_n (i := 3) dX12_stone_99 rfl rfl ?_
      obtain ⟨V2, hE, hv⟩ := hv
      refine wz_callV (vs := [.int ((V 57 25) - (1 : Int32)), .int x3]) (st := []) dX12_stone_100 (k57 hK) rfl k12_156_12 hE rfl (Nat.le_of_ble_eq_true rfl) (Nat.le_of_ble_eq_true rfl) ?_
      change wp _ _ _ _ _ [] _ _ _
      refine wx_iinc (v := 1) (ls' := [(0, .ref 57), (1, .int x1), (2, .int x2), (3, .int (x3 + 1))]) dX12_stone_103 rfl (by decide) (by decide) rfl ?_
      refine wp_goto 75 dX12_stone_106 (by decide) ?_
      exact hv Q hq
theorem wX12_isStone_0 {x1 : Int32} (hK : StK K)  (hv : ((x1 < 0 → r = some (.int (0 : Int32))) ∧ (¬ x1 < 0 → (((V 57 25) ≤ x1 → r = some (.int (0 : Int32))) ∧ (¬ (V 57 25) ≤ x1 → r = some (.int (1 : Int32))))))) : Ev G d mX12_isStone 0 [(0, .ref 57), (1, .int x1)] (K, n, V, J, O) r (K, n, V, J, O) := by
  refine Ev.mk fun Q hq => ?_
  refine wp_iload_n (i := 1) dX12_isStone_0 rfl rfl ?_
  refine wp_if_lt 16 dX12_isStone_1 (by decide) (fun q => ?_) (fun q => ?_)
  · replace hv := hv.1 q
    refine wp_iconst (v := 0) dX12_isStone_16 (by decide) ?_
    obtain rfl := hv
    exact wp_ireturn dX12_isStone_17 rfl (by decide) rfl hq
  · replace hv := hv.2 q
    refine wp_iload_n (i := 1) dX12_isStone_4 rfl rfl ?_
    refine wp_aload_n (i := 0) dX12_isStone_5 rfl rfl ?_
    refine wz_getI dX12_isStone_6 (k57 hK) (f12_153 _ (by decide)) rfl ?_
    refine wp_icmp_ge 16 dX12_isStone_9 (by decide) (fun q => ?_) (fun q => ?_)
    · replace hv := hv.1 q
      refine wp_iconst (v := 0) dX12_isStone_16 (by decide) ?_
      obtain rfl := hv
      exact wp_ireturn dX12_isStone_17 rfl (by decide) rfl hq
    · replace hv := hv.2 q
      refine wp_iconst (v := 1) dX12_isStone_12 (by decide) ?_
      refine wp_goto 17 dX12_isStone_13 (by decide) ?_
      obtain rfl := hv
      exact wp_ireturn dX12_isStone_17 rfl (by decide) rfl hq
theorem wX12_countOf_0 {x0 : Int32} (hK : StK K)  (hv : Ev G d mX12_countOf 4 [(0, .int x0), (1, .int (0 : Int32)), (2, .int (0 : Int32))] (K, n, V, J, O) r (K, n, V, J, O)) : Ev G d mX12_countOf 0 [(0, .int x0)] (K, n, V, J, O) r (K, n, V, J, O) := by
  refine Ev.mk fun Q hq => ?_
  refine wp_iconst (v := 0) dX12_countOf_0 (by decide) ?_
  refine wx_istore_n (ls' := [(0, .int x0), (1, .int (0 : Int32))]) (i := 1) dX12_countOf_1 rfl (by decide) rfl ?_
  refine wp_iconst (v := 0) dX12_countOf_2 (by decide) ?_
  refine wx_istore_n (ls' := [(0, .int x0), (1, .int (0 : Int32)), (2, .int (0 : Int32))]) (i := 2) dX12_countOf_3 rfl (by decide) rfl ?_
  exact hv Q hq
theorem wX12_countOf_4 {x0 : Int32} {x1 : Int32} {x2 : Int32} (hK : StK K)  (hv : (((32 : Int32) ≤ x2 → r = some (.int x1)) ∧ (¬ (32 : Int32) ≤ x2 → Ev G d mX12_countOf 4 [(0, .int x0), (1, .int (x1 + (((x0.toUInt32 >>> (x2.toUInt32 &&& Int32.toUInt32 31)).toInt32) &&& (1 : Int32)))), (2, .int (x2 + 1))] (K, n, V, J, O) r (K, n, V, J, O)))) : Ev G d mX12_countOf 4 [(0, .int x0), (1, .int x1), (2, .int x2)] (K, n, V, J, O) r (K, n, V, J, O) := by
  refine Ev.mk fun Q hq => ?_
  refine wp_iload_n (i := 2) dX12_countOf_4 rfl rfl ?_
  refine wp_bipush (v := 32) dX12_countOf_5 (by decide) ?_
  refine wp_icmp_ge 24 dX12_countOf_7 (by decide) (fun q => ?_) (fun q => ?_)
  · replace hv := hv.1 q
    refine wp_iload_n (i := 1) dX12_countOf_24 rfl rfl ?_
    obtain rfl := hv
    exact wp_ireturn dX12_countOf_25 rfl rfl rfl hq
  · replace hv := hv.2 q
    refine wp_iload_n (i := 1) dX12_countOf_10 rfl rfl ?_
    refine wp_iload_n (i := 0) dX12_countOf_11 rfl rfl ?_
    refine wp_iload_n (i := 2) dX12_countOf_12 rfl rfl ?_
    refine wp_iushr dX12_countOf_13 ?_
    refine wp_iconst (v := 1) dX12_countOf_14 (by decide) ?_
    refine wp_iand dX12_countOf_15 ?_
    refine wp_iadd dX12_countOf_16 ?_
    refine wx_istore_n (ls' := [(0, .int x0), (1, .int (x1 + (((x0.toUInt32 >>> (x2.toUInt32 &&& Int32.toUInt32 31)).toInt32) &&& (1 : Int32)))), (2, .int x2)]) (i := 1) dX12_countOf_17 rfl (by decide) rfl ?_
    refine wx_iinc (v := 1) (ls' := [(0, .int x0), (1, .int (x1 + (((x0.toUInt32 >>> (x2.toUInt32 &&& Int32.toUInt32 31)).toInt32) &&& (1 : Int32)))), (2, .int (x2 + 1))]) dX12_countOf_18 rfl (by decide) (by decide) rfl ?_
    refine wp_goto 4 dX12_countOf_21 (by decide) ?_
    exact hv Q hq
theorem wX12_ofStone_0 {x1 : Int32} {x2 : Int32} (hK : StK K)  (hv : (∃ (v1 : Int32), Ev G d mX12_isStone 0 [(0, .ref 57), (1, .int x1)] (K, n, V, J, O) (some (.int v1)) (K, n, V, J, O) ∧ ((v1 ≠ 0 → ((x2 = (0 : Int32) → (vp_in x1 10 ∧ r = some (.int (V 70 (x1).toNatClampNeg)))) ∧ (x2 = (1 : Int32) → (vp_in x1 10 ∧ r = some (.int (V 71 (x1).toNatClampNeg)))) ∧ (x2 = (2 : Int32) → (vp_in x1 10 ∧ (((V 70 (x1).toNatClampNeg) ≠ (6 : Int32) → (vp_in x1 10 ∧ r = some (.int (V 73 (x1).toNatClampNeg)))) ∧ ((V 70 (x1).toNatClampNeg) = (6 : Int32) → (vp_in x1 10 ∧ (∃ (v7 : Int32), Ev G d mX12_countOf 0 [(0, .int (V 77 (x1).toNatClampNeg))] (K, n, V, J, O) (some (.int v7)) (K, n, V, J, O) ∧ r = some (.int v7))))))) ∧ (x2 = (3 : Int32) → (vp_in x1 10 ∧ r = some (.int (V 78 (x1).toNatClampNeg)))) ∧ (x2 = (4 : Int32) → (vp_in x1 10 ∧ r = some (.int (V 79 (x1).toNatClampNeg)))) ∧ ((¬ x2 = (0 : Int32) ∧ ¬ x2 = (1 : Int32) ∧ ¬ x2 = (2 : Int32) ∧ ¬ x2 = (3 : Int32) ∧ ¬ x2 = (4 : Int32)) → r = some (.int (-1 : Int32))))) ∧ (v1 = 0 → r = some (.int (-1 : Int32)))))) : Ev G (d + 1) mX12_ofStone 0 [(0, .ref 57), (1, .int x1), (2, .int x2)] (K, n, V, J, O) r (K, n, V, J, O) := by
  refine Ev.mk fun Q hq => ?_
  refine wp_aload_n (i := 0) dX12_ofStone_0 rfl rfl ?_
  refine wp_iload_n (i := 1) dX12_ofStone_1 rfl rfl ?_
  obtain ⟨v1, hE, hv⟩ := hv
  refine wz_callV (vs := [.int x1]) (st := []) dX12_ofStone_2 (k57 hK) rfl k12_302_12 hE rfl (Nat.le_of_ble_eq_true rfl) (Nat.le_of_ble_eq_true rfl) ?_
  change wp _ _ _ _ _ [.int v1] _ _ _
  refine wp_if_ne 10 dX12_ofStone_5 (by decide) (fun q => ?_) (fun q => ?_)
  · replace hv := hv.1 q
    refine wp_iload_n (i := 2) dX12_ofStone_10 rfl rfl ?_
    by_cases q0 : x2 = (0 : Int32)
    · refine wx_tableIn (off := 33) (0 : Int32) q0 44 dX12_ofStone_11 (by decide) (by decide) (by decide +kernel) (by decide) ?_
      replace hv := hv.1 q0
      refine wp_aload_n (i := 0) dX12_ofStone_44 rfl rfl ?_
      refine wz_getR (b := 70) dX12_ofStone_45 (k57 hK) (f12_47 _ (by decide)) rfl ?_
      refine wp_iload_n (i := 1) dX12_ofStone_48 rfl rfl ?_
      obtain ⟨z2, hv⟩ := hv
      refine wz_iaload dX12_ofStone_49 (k70 hK) z2 ?_
      obtain rfl := hv
      exact wp_ireturn dX12_ofStone_50 rfl rfl rfl hq
    by_cases q1 : x2 = (1 : Int32)
    · refine wx_tableIn (off := 40) (1 : Int32) q1 51 dX12_ofStone_11 (by decide) (by decide) (by decide +kernel) (by decide) ?_
      replace hv := hv.2.1 q1
      refine wp_aload_n (i := 0) dX12_ofStone_51 rfl rfl ?_
      refine wz_getR (b := 71) dX12_ofStone_52 (k57 hK) (f12_50 _ (by decide)) rfl ?_
      refine wp_iload_n (i := 1) dX12_ofStone_55 rfl rfl ?_
      obtain ⟨z3, hv⟩ := hv
      refine wz_iaload dX12_ofStone_56 (k71 hK) z3 ?_
      obtain rfl := hv
      exact wp_ireturn dX12_ofStone_57 rfl rfl rfl hq
    by_cases q2 : x2 = (2 : Int32)
    · refine wx_tableIn (off := 47) (2 : Int32) q2 58 dX12_ofStone_11 (by decide) (by decide) (by decide +kernel) (by decide) ?_
      replace hv := hv.2.2.1 q2
      refine wp_aload_n (i := 0) dX12_ofStone_58 rfl rfl ?_
      refine wz_getR (b := 70) dX12_ofStone_59 (k57 hK) (f12_47 _ (by decide)) rfl ?_
      refine wp_iload_n (i := 1) dX12_ofStone_62 rfl rfl ?_
      obtain ⟨z4, hv⟩ := hv
      refine wz_iaload dX12_ofStone_63 (k70 hK) z4 ?_
      refine wp_bipush (v := 6) dX12_ofStone_64 (by decide) ?_
      refine wp_icmp_ne 81 dX12_ofStone_66 (by decide) (fun q => ?_) (fun q => ?_)
      · replace hv := hv.1 q
        refine wp_aload_n (i := 0) dX12_ofStone_81 rfl rfl ?_
        refine wz_getR (b := 73) dX12_ofStone_82 (k57 hK) (f12_56 _ (by decide)) rfl ?_
        refine wp_iload_n (i := 1) dX12_ofStone_85 rfl rfl ?_
        obtain ⟨z5, hv⟩ := hv
        refine wz_iaload dX12_ofStone_86 (k73 hK) z5 ?_
        obtain rfl := hv
        exact wp_ireturn dX12_ofStone_87 rfl rfl rfl hq
      · replace hv := hv.2 q
        refine wp_aload_n (i := 0) dX12_ofStone_69 rfl rfl ?_
        refine wz_getR (b := 77) dX12_ofStone_70 (k57 hK) (f12_68 _ (by decide)) rfl ?_
        refine wp_iload_n (i := 1) dX12_ofStone_73 rfl rfl ?_
        obtain ⟨z6, hv⟩ := hv
        refine wz_iaload dX12_ofStone_74 (k77 hK) z6 ?_
        obtain ⟨v7, hE, hv⟩ := hv
        refine wz_callS (vs := [.int (V 77 (x1).toNatClampNeg)]) (st := []) dX12_ofStone_75 k12_305 hE rfl (Nat.le_of_ble_eq_true rfl) (Nat.le_of_ble_eq_true rfl) ?_
        change wp _ _ _ _ _ [.int v7] _ _ _
        refine wp_goto 87 dX12_ofStone_78 (by decide) ?_
        obtain rfl := hv
        exact wp_ireturn dX12_ofStone_87 rfl rfl rfl hq
    by_cases q3 : x2 = (3 : Int32)
    · refine wx_tableIn (off := 77) (3 : Int32) q3 88 dX12_ofStone_11 (by decide) (by decide) (by decide +kernel) (by decide) ?_
      replace hv := hv.2.2.2.1 q3
      refine wp_aload_n (i := 0) dX12_ofStone_88 rfl rfl ?_
      refine wz_getR (b := 78) dX12_ofStone_89 (k57 hK) (f12_71 _ (by decide)) rfl ?_
      refine wp_iload_n (i := 1) dX12_ofStone_92 rfl rfl ?_
      obtain ⟨z8, hv⟩ := hv
      refine wz_iaload dX12_ofStone_93 (k78 hK) z8 ?_
      obtain rfl := hv
      exact wp_ireturn dX12_ofStone_94 rfl rfl rfl hq
    by_cases q4 : x2 = (4 : Int32)
    · refine wx_tableIn (off := 84) (4 : Int32) q4 95 dX12_ofStone_11 (by decide) (by decide) (by decide +kernel) (by decide) ?_
      replace hv := hv.2.2.2.2.1 q4
      refine wp_aload_n (i := 0) dX12_ofStone_95 rfl rfl ?_
      refine wz_getR (b := 79) dX12_ofStone_96 (k57 hK) (f12_74 _ (by decide)) rfl ?_
      refine wp_iload_n (i := 1) dX12_ofStone_99 rfl rfl ?_
      obtain ⟨z9, hv⟩ := hv
      refine wz_iaload dX12_ofStone_100 (k79 hK) z9 ?_
      obtain rfl := hv
      exact wp_ireturn dX12_ofStone_101 rfl rfl rfl hq
    refine wp_tableOut 102 dX12_ofStone_11 (by have n0 := lv_neT q0 (show ((0 : Int32)).toInt = 0 by decide); have n1 := lv_neT q1 (show ((1 : Int32)).toInt = 1 by decide); have n2 := lv_neT q2 (show ((2 : Int32)).toInt = 2 by decide); have n3 := lv_neT q3 (show ((3 : Int32)).toInt = 3 by decide); have n4 := lv_neT q4 (show ((4 : Int32)).toInt = 4 by decide); omega) (by decide) ?_
    replace hv := hv.2.2.2.2.2 ⟨q0, q1, q2, q3, q4⟩
    refine wp_iconst (v := -1) dX12_ofStone_102 (by decide) ?_
    obtain rfl := hv
    exact wp_ireturn dX12_ofStone_103 rfl rfl rfl hq
  · replace hv := hv.2 q
    refine wp_iconst (v := -1) dX12_ofStone_8 (by decide) ?_
    obtain rfl := hv
    exact wp_ireturn dX12_ofStone_9 rfl rfl rfl hq
theorem wX12_aheadOf_0 {x1 : Int32} {x2 : Int32} (hK : StK K)  (hv : Ev G (d + 1) mX12_aheadOf 5 [(0, .ref 57), (1, .int x1), (2, .int x2), (3, .int (0 : Int32)), (4, .int (0 : Int32))] (K, n, V, J, O) r (K, n, V, J, O)) : Ev G (d + 1) mX12_aheadOf 0 [(0, .ref 57), (1, .int x1), (2, .int x2)] (K, n, V, J, O) r (K, n, V, J, O) := by
  refine Ev.mk fun Q hq => ?_
  refine wp_iconst (v := 0) dX12_aheadOf_0 (by decide) ?_
  refine wx_istore_n (ls' := [(0, .ref 57), (1, .int x1), (2, .int x2), (3, .int (0 : Int32))]) (i := 3) dX12_aheadOf_1 rfl (by decide) rfl ?_
  refine wp_iconst (v := 0) dX12_aheadOf_2 (by decide) ?_
  refine wx_istore (ls' := [(0, .ref 57), (1, .int x1), (2, .int x2), (3, .int (0 : Int32)), (4, .int (0 : Int32))]) dX12_aheadOf_3 (by decide) rfl ?_
  exact hv Q hq
theorem wX12_aheadOf_5 {x1 : Int32} {x2 : Int32} {x3 : Int32} {x4 : Int32} (hK : StK K)  (hv : (((V 57 2) ≤ x4 → r = some (.int x3)) ∧ (¬ (V 57 2) ≤ x4 → (vp_in x4 80 ∧ (((V 59 (x4).toNatClampNeg) = 0 → Ev G (d + 1) mX12_aheadOf 5 [(0, .ref 57), (1, .int x1), (2, .int x2), (3, .int (x3 + (0 : Int32))), (4, .int (x4 + 1))] (K, n, V, J, O) r (K, n, V, J, O)) ∧ (¬ (V 59 (x4).toNatClampNeg) = 0 → (∃ (v2 : Int32), Ev G d mX12_isLess 0 [(0, .ref 57), (1, .int x1), (2, .int x4), (3, .int x2)] (K, n, V, J, O) (some (.int v2)) (K, n, V, J, O) ∧ ((v2 = 0 → Ev G (d + 1) mX12_aheadOf 5 [(0, .ref 57), (1, .int x1), (2, .int x2), (3, .int (x3 + (0 : Int32))), (4, .int (x4 + 1))] (K, n, V, J, O) r (K, n, V, J, O)) ∧ (¬ v2 = 0 → Ev G (d + 1) mX12_aheadOf 5 [(0, .ref 57), (1, .int x1), (2, .int x2), (3, .int (x3 + (1 : Int32))), (4, .int (x4 + 1))] (K, n, V, J, O) r (K, n, V, J, O)))))))))) : Ev G (d + 1) mX12_aheadOf 5 [(0, .ref 57), (1, .int x1), (2, .int x2), (3, .int x3), (4, .int x4)] (K, n, V, J, O) r (K, n, V, J, O) := by
  refine Ev.mk fun Q hq => ?_
  refine wp_iload dX12_aheadOf_5 rfl ?_
  refine wp_aload_n (i := 0) dX12_aheadOf_7 rfl rfl ?_
  refine wz_getI dX12_aheadOf_8 (k57 hK) (f12_130 _ (by decide)) rfl ?_
  refine wp_icmp_ge 49 dX12_aheadOf_11 (by decide) (fun q => ?_) (fun q => ?_)
  · replace hv := hv.1 q
    refine wp_iload_n (i := 3) dX12_aheadOf_49 rfl rfl ?_
    obtain rfl := hv
    exact wp_ireturn dX12_aheadOf_50 rfl rfl rfl hq
  · replace hv := hv.2 q
    refine wp_iload_n (i := 3) dX12_aheadOf_14 rfl rfl ?_
    refine wp_aload_n (i := 0) dX12_aheadOf_15 rfl rfl ?_
    refine wz_getR (b := 59) dX12_aheadOf_16 (k57 hK) (f12_13 _ (by decide)) rfl ?_
    refine wp_iload dX12_aheadOf_19 rfl ?_
    obtain ⟨z1, hv⟩ := hv
    refine wz_baload dX12_aheadOf_21 (k59 hK) z1 ?_
    refine wp_if_eq 40 dX12_aheadOf_22 (by decide) (fun q => ?_) (fun q => ?_)
    · replace hv := hv.1 q
      refine wp_iconst (v := 0) dX12_aheadOf_40 (by decide) ?_
      refine wp_iadd dX12_aheadOf_41 ?_
      refine wx_istore_n (ls' := [(0, .ref 57), (1, .int x1), (2, .int x2), (3, .int (x3 + (0 : Int32))), (4, .int x4)]) (i := 3) dX12_aheadOf_42 rfl (by decide) rfl ?_
      refine wx_iinc (v := 1) (ls' := [(0, .ref 57), (1, .int x1), (2, .int x2), (3, .int (x3 + (0 : Int32))), (4, .int (x4 + 1))]) dX12_aheadOf_43 rfl (by decide) (by decide) rfl ?_
      refine wp_goto 5 dX12_aheadOf_46 (by decide) ?_
      exact hv Q hq
    · replace hv := hv.2 q
      refine wp_aload_n (i := 0) dX12_aheadOf_25 rfl rfl ?_
      refine wp_iload_n (i := 1) dX12_aheadOf_26 rfl rfl ?_
      refine wp_iload dX12_aheadOf_27 rfl ?_
      refine wp_iload_n (i := 2) dX12_aheadOf_29 rfl rfl ?_
      obtain ⟨v2, hE, hv⟩ := hv
      refine wz_callV (vs := [.int x1, .int x4, .int x2]) (st := [.int x3]) dX12_aheadOf_30 (k57 hK) rfl k12_255_12 hE rfl (Nat.le_of_ble_eq_true rfl) (Nat.le_of_ble_eq_true rfl) ?_
      change wp _ _ _ _ _ [.int v2, .int x3] _ _ _
      refine wp_if_eq 40 dX12_aheadOf_33 (by decide) (fun q => ?_) (fun q => ?_)
      · replace hv := hv.1 q
        refine wp_iconst (v := 0) dX12_aheadOf_40 (by decide) ?_
        refine wp_iadd dX12_aheadOf_41 ?_
        refine wx_istore_n (ls' := [(0, .ref 57), (1, .int x1), (2, .int x2), (3, .int (x3 + (0 : Int32))), (4, .int x4)]) (i := 3) dX12_aheadOf_42 rfl (by decide) rfl ?_
        refine wx_iinc (v := 1) (ls' := [(0, .ref 57), (1, .int x1), (2, .int x2), (3, .int (x3 + (0 : Int32))), (4, .int (x4 + 1))]) dX12_aheadOf_43 rfl (by decide) (by decide) rfl ?_
        refine wp_goto 5 dX12_aheadOf_46 (by decide) ?_
        exact hv Q hq
      · replace hv := hv.2 q
        refine wp_iconst (v := 1) dX12_aheadOf_36 (by decide) ?_
        refine wp_goto 41 dX12_aheadOf_37 (by decide) ?_
        refine wp_iadd dX12_aheadOf_41 ?_
        refine wx_istore_n (ls' := [(0, .ref 57), (1, .int x1), (2, .int x2), (3, .int (x3 + (1 : Int32))), (4, .int x4)]) (i := 3) dX12_aheadOf_42 rfl (by decide) rfl ?_
        refine wx_iinc (v := 1) (ls' := [(0, .ref 57), (1, .int x1), (2, .int x2), (3, .int (x3 + (1 : Int32))), (4, .int (x4 + 1))]) dX12_aheadOf_43 rfl (by decide) (by decide) rfl ?_
        refine wp_goto 5 dX12_aheadOf_46 (by decide) ?_
        exact hv Q hq
theorem wX12_nameAt_0 {x1 : Int32} {x2 : Int32} (hK : StK K)  (hv : (∃ (v1 : Int32), Ev G d mX12_isStone 0 [(0, .ref 57), (1, .int x1)] (K, n, V, J, O) (some (.int v1)) (K, n, V, J, O) ∧ ((v1 = 0 → r = some (.int (-1 : Int32))) ∧ (¬ v1 = 0 → (vp_in x1 10 ∧ (((V 70 (x1).toNatClampNeg) = 0 → r = some (.int (-1 : Int32))) ∧ (¬ (V 70 (x1).toNatClampNeg) = 0 → (vp_in x1 10 ∧ (((V 70 (x1).toNatClampNeg) = (6 : Int32) → r = some (.int (-1 : Int32))) ∧ (¬ (V 70 (x1).toNatClampNeg) = (6 : Int32) → ((x2 < 0 → r = some (.int (-1 : Int32))) ∧ (¬ x2 < 0 → (∃ (v4 : Int32), Ev G d mX12_isStone 0 [(0, .ref 57), (1, .int x1)] (K, n, V, J, O) (some (.int v4)) (K, n, V, J, O) ∧ ((v4 = 0 → (vp_in (0 : Int32) 10 ∧ ((x2 < (V 73 ((0 : Int32)).toNatClampNeg) → (vp_in x1 10 ∧ (((V 70 (x1).toNatClampNeg) ≠ (5 : Int32) → (vp_in x1 10 ∧ (((V 70 (x1).toNatClampNeg) = (4 : Int32) → Ev G (d + 1) mX12_nameAt 122 [(0, .ref 57), (1, .int x1), (2, .int x2), (3, .int x2), (4, .int (0 : Int32))] (K, n, V, J, O) r (K, n, V, J, O)) ∧ (¬ (V 70 (x1).toNatClampNeg) = (4 : Int32) → (vp_in (((80 : Int32) * x1) + x2) 800 ∧ r = some (.int (V 72 ((((80 : Int32) * x1) + x2)).toNatClampNeg))))))) ∧ ((V 70 (x1).toNatClampNeg) = (5 : Int32) → Ev G (d + 1) mX12_nameAt 68 [(0, .ref 57), (1, .int x1), (2, .int x2), (3, .int (0 : Int32))] (K, n, V, J, O) r (K, n, V, J, O))))) ∧ (¬ x2 < (V 73 ((0 : Int32)).toNatClampNeg) → r = some (.int (-1 : Int32)))))) ∧ (¬ v4 = 0 → (vp_in x1 10 ∧ ((x2 < (V 73 (x1).toNatClampNeg) → (vp_in x1 10 ∧ (((V 70 (x1).toNatClampNeg) ≠ (5 : Int32) → (vp_in x1 10 ∧ (((V 70 (x1).toNatClampNeg) = (4 : Int32) → Ev G (d + 1) mX12_nameAt 122 [(0, .ref 57), (1, .int x1), (2, .int x2), (3, .int x2), (4, .int (0 : Int32))] (K, n, V, J, O) r (K, n, V, J, O)) ∧ (¬ (V 70 (x1).toNatClampNeg) = (4 : Int32) → (vp_in (((80 : Int32) * x1) + x2) 800 ∧ r = some (.int (V 72 ((((80 : Int32) * x1) + x2)).toNatClampNeg))))))) ∧ ((V 70 (x1).toNatClampNeg) = (5 : Int32) → Ev G (d + 1) mX12_nameAt 68 [(0, .ref 57), (1, .int x1), (2, .int x2), (3, .int (0 : Int32))] (K, n, V, J, O) r (K, n, V, J, O))))) ∧ (¬ x2 < (V 73 (x1).toNatClampNeg) → r = some (.int (-1 : Int32)))))))))))))))))))) : Ev G (d + 1) mX12_nameAt 0 [(0, .ref 57), (1, .int x1), (2, .int x2)] (K, n, V, J, O) r (K, n, V, J, O) := by
  refine Ev.mk fun Q hq => ?_
  refine wp_aload_n (i := 0) dX12_nameAt_0 rfl rfl ?_
  refine wp_iload_n (i := 1) dX12_nameAt_1 rfl rfl ?_
  obtain ⟨v1, hE, hv⟩ := hv
  refine wz_callV (vs := [.int x1]) (st := []) dX12_nameAt_2 (k57 hK) rfl k12_302_12 hE rfl (Nat.le_of_ble_eq_true rfl) (Nat.le_of_ble_eq_true rfl) ?_
  change wp _ _ _ _ _ [.int v1] _ _ _
  refine wp_if_eq 54 dX12_nameAt_5 (by decide) (fun q => ?_) (fun q => ?_)
  · replace hv := hv.1 q
    refine wp_iconst (v := -1) dX12_nameAt_54 (by decide) ?_
    obtain rfl := hv
    exact wp_ireturn dX12_nameAt_55 rfl rfl rfl hq
  · replace hv := hv.2 q
    refine wp_aload_n (i := 0) dX12_nameAt_8 rfl rfl ?_
    refine wz_getR (b := 70) dX12_nameAt_9 (k57 hK) (f12_47 _ (by decide)) rfl ?_
    refine wp_iload_n (i := 1) dX12_nameAt_12 rfl rfl ?_
    obtain ⟨z2, hv⟩ := hv
    refine wz_iaload dX12_nameAt_13 (k70 hK) z2 ?_
    refine wp_if_eq 54 dX12_nameAt_14 (by decide) (fun q => ?_) (fun q => ?_)
    · replace hv := hv.1 q
      refine wp_iconst (v := -1) dX12_nameAt_54 (by decide) ?_
      obtain rfl := hv
      exact wp_ireturn dX12_nameAt_55 rfl rfl rfl hq
    · replace hv := hv.2 q
      refine wp_aload_n (i := 0) dX12_nameAt_17 rfl rfl ?_
      refine wz_getR (b := 70) dX12_nameAt_18 (k57 hK) (f12_47 _ (by decide)) rfl ?_
      refine wp_iload_n (i := 1) dX12_nameAt_21 rfl rfl ?_
      obtain ⟨z3, hv⟩ := hv
      refine wz_iaload dX12_nameAt_22 (k70 hK) z3 ?_
      refine wp_bipush (v := 6) dX12_nameAt_23 (by decide) ?_
      refine wp_icmp_eq 54 dX12_nameAt_25 (by decide) (fun q => ?_) (fun q => ?_)
      · replace hv := hv.1 q
        refine wp_iconst (v := -1) dX12_nameAt_54 (by decide) ?_
        obtain rfl := hv
        exact wp_ireturn dX12_nameAt_55 rfl rfl rfl hq
      · replace hv := hv.2 q
        refine wp_iload_n (i := 2) dX12_nameAt_28 rfl rfl ?_
        refine wp_if_lt 54 dX12_nameAt_29 (by decide) (fun q => ?_) (fun q => ?_)
        · replace hv := hv.1 q
          refine wp_iconst (v := -1) dX12_nameAt_54 (by decide) ?_
          obtain rfl := hv
          exact wp_ireturn dX12_nameAt_55 rfl rfl rfl hq
        · replace hv := hv.2 q
          refine wp_iload_n (i := 2) dX12_nameAt_32 rfl rfl ?_
          refine wp_aload_n (i := 0) dX12_nameAt_33 rfl rfl ?_
          refine wz_getR (b := 73) dX12_nameAt_34 (k57 hK) (f12_56 _ (by decide)) rfl ?_
          refine wp_aload_n (i := 0) dX12_nameAt_37 rfl rfl ?_
          refine wp_iload_n (i := 1) dX12_nameAt_38 rfl rfl ?_
          obtain ⟨v4, hE, hv⟩ := hv
          refine wz_callV (vs := [.int x1]) (st := [.ref 73, .int x2]) dX12_nameAt_39 (k57 hK) rfl k12_302_12 hE rfl (Nat.le_of_ble_eq_true rfl) (Nat.le_of_ble_eq_true rfl) ?_
          change wp _ _ _ _ _ [.int v4, .ref 73, .int x2] _ _ _
          refine wp_if_eq 49 dX12_nameAt_42 (by decide) (fun q => ?_) (fun q => ?_)
          · replace hv := hv.1 q
            refine wp_iconst (v := 0) dX12_nameAt_49 (by decide) ?_
            obtain ⟨z5, hv⟩ := hv
            refine wz_iaload dX12_nameAt_50 (k73 hK) z5 ?_
            refine wp_icmp_lt 56 dX12_nameAt_51 (by decide) (fun q => ?_) (fun q => ?_)
            · replace hv := hv.1 q
              refine wp_aload_n (i := 0) dX12_nameAt_56 rfl rfl ?_
              refine wz_getR (b := 70) dX12_nameAt_57 (k57 hK) (f12_47 _ (by decide)) rfl ?_
              refine wp_iload_n (i := 1) dX12_nameAt_60 rfl rfl ?_
              obtain ⟨z6, hv⟩ := hv
              refine wz_iaload dX12_nameAt_61 (k70 hK) z6 ?_
              refine wp_iconst (v := 5) dX12_nameAt_62 (by decide) ?_
              refine wp_icmp_ne 95 dX12_nameAt_63 (by decide) (fun q => ?_) (fun q => ?_)
              · replace hv := hv.1 q
                refine wp_aload_n (i := 0) dX12_nameAt_95 rfl rfl ?_
                refine wz_getR (b := 70) dX12_nameAt_96 (k57 hK) (f12_47 _ (by decide)) rfl ?_
                refine wp_iload_n (i := 1) dX12_nameAt_99 rfl rfl ?_
                obtain ⟨z7, hv⟩ := hv
                refine wz_iaload dX12_nameAt_100 (k70 hK) z7 ?_
                refine wp_iconst (v := 4) dX12_nameAt_101 (by decide) ?_
                refine wp_icmp_eq 117 dX12_nameAt_102 (by decide) (fun q => ?_) (fun q => ?_)
                · replace hv := hv.1 q
                  refine wp_iload_n (i := 2) dX12_nameAt_117 rfl rfl ?_
                  refine wx_istore_n (ls' := [(0, .ref 57), (1, .int x1), (2, .int x2), (3, .int x2)]) (i := 3) dX12_nameAt_118 rfl (by decide) rfl ?_
                  refine wp_iconst (v := 0) dX12_nameAt_119 (by decide) ?_
                  refine wx_istore (ls' := [(0, .ref 57), (1, .int x1), (2, .int x2), (3, .int x2), (4, .int (0 : Int32))]) dX12_nameAt_120 (by decide) rfl ?_
                  exact hv Q hq
                · replace hv := hv.2 q
                  refine wp_aload_n (i := 0) dX12_nameAt_105 rfl rfl ?_
                  refine wz_getR (b := 72) dX12_nameAt_106 (k57 hK) (f12_53 _ (by decide)) rfl ?_
                  refine wp_bipush (v := 80) dX12_nameAt_109 (by decide) ?_
                  refine wp_iload_n (i := 1) dX12_nameAt_111 rfl rfl ?_
                  refine wp_imul dX12_nameAt_112 ?_
                  refine wp_iload_n (i := 2) dX12_nameAt_113 rfl rfl ?_
                  refine wp_iadd dX12_nameAt_114 ?_
                  obtain ⟨z8, hv⟩ := hv
                  refine wz_iaload dX12_nameAt_115 (k72 hK) z8 ?_
                  obtain rfl := hv
                  exact wp_ireturn dX12_nameAt_116 rfl rfl rfl hq
              · replace hv := hv.2 q
                refine wp_iconst (v := 0) dX12_nameAt_66 (by decide) ?_
                refine wx_istore_n (ls' := [(0, .ref 57), (1, .int x1), (2, .int x2), (3, .int (0 : Int32))]) (i := 3) dX12_nameAt_67 rfl (by decide) rfl ?_
                exact hv Q hq
            · replace hv := hv.2 q
              refine wp_iconst (v := -1) dX12_nameAt_54 (by decide) ?_
              obtain rfl := hv
              exact wp_ireturn dX12_nameAt_55 rfl rfl rfl hq
          · replace hv := hv.2 q
            refine wp_iload_n (i := 1) dX12_nameAt_45 rfl rfl ?_
            refine wp_goto 50 dX12_nameAt_46 (by decide) ?_
            obtain ⟨z9, hv⟩ := hv
            refine wz_iaload dX12_nameAt_50 (k73 hK) z9 ?_
            refine wp_icmp_lt 56 dX12_nameAt_51 (by decide) (fun q => ?_) (fun q => ?_)
            · replace hv := hv.1 q
              refine wp_aload_n (i := 0) dX12_nameAt_56 rfl rfl ?_
              refine wz_getR (b := 70) dX12_nameAt_57 (k57 hK) (f12_47 _ (by decide)) rfl ?_
              refine wp_iload_n (i := 1) dX12_nameAt_60 rfl rfl ?_
              obtain ⟨z10, hv⟩ := hv
              refine wz_iaload dX12_nameAt_61 (k70 hK) z10 ?_
              refine wp_iconst (v := 5) dX12_nameAt_62 (by decide) ?_
              refine wp_icmp_ne 95 dX12_nameAt_63 (by decide) (fun q => ?_) (fun q => ?_)
              · replace hv := hv.1 q
                refine wp_aload_n (i := 0) dX12_nameAt_95 rfl rfl ?_
                refine wz_getR (b := 70) dX12_nameAt_96 (k57 hK) (f12_47 _ (by decide)) rfl ?_
                refine wp_iload_n (i := 1) dX12_nameAt_99 rfl rfl ?_
                obtain ⟨z11, hv⟩ := hv
                refine wz_iaload dX12_nameAt_100 (k70 hK) z11 ?_
                refine wp_iconst (v := 4) dX12_nameAt_101 (by decide) ?_
                refine wp_icmp_eq 117 dX12_nameAt_102 (by decide) (fun q => ?_) (fun q => ?_)
                · replace hv := hv.1 q
                  refine wp_iload_n (i := 2) dX12_nameAt_117 rfl rfl ?_
                  refine wx_istore_n (ls' := [(0, .ref 57), (1, .int x1), (2, .int x2), (3, .int x2)]) (i := 3) dX12_nameAt_118 rfl (by decide) rfl ?_
                  refine wp_iconst (v := 0) dX12_nameAt_119 (by decide) ?_
                  refine wx_istore (ls' := [(0, .ref 57), (1, .int x1), (2, .int x2), (3, .int x2), (4, .int (0 : Int32))]) dX12_nameAt_120 (by decide) rfl ?_
                  exact hv Q hq
                · replace hv := hv.2 q
                  refine wp_aload_n (i := 0) dX12_nameAt_105 rfl rfl ?_
                  refine wz_getR (b := 72) dX12_nameAt_106 (k57 hK) (f12_53 _ (by decide)) rfl ?_
                  refine wp_bipush (v := 80) dX12_nameAt_109 (by decide) ?_
                  refine wp_iload_n (i := 1) dX12_nameAt_111 rfl rfl ?_
                  refine wp_imul dX12_nameAt_112 ?_
                  refine wp_iload_n (i := 2) dX12_nameAt_113 rfl rfl ?_
                  refine wp_iadd dX12_nameAt_114 ?_
                  obtain ⟨z12, hv⟩ := hv
                  refine wz_iaload dX12_nameAt_115 (k72 hK) z12 ?_
                  obtain rfl := hv
                  exact wp_ireturn dX12_nameAt_116 rfl rfl rfl hq
              · replace hv := hv.2 q
                refine wp_iconst (v := 0) dX12_nameAt_66 (by decide) ?_
                refine wx_istore_n (ls' := [(0, .ref 57), (1, .int x1), (2, .int x2), (3, .int (0 : Int32))]) (i := 3) dX12_nameAt_67 rfl (by decide) rfl ?_
                exact hv Q hq
            · replace hv := hv.2 q
              refine wp_iconst (v := -1) dX12_nameAt_54 (by decide) ?_
              obtain rfl := hv
              exact wp_ireturn dX12_nameAt_55 rfl rfl rfl hq
theorem wX12_nameAt_68 {x1 : Int32} {x2 : Int32} {x3 : Int32} (hK : StK K)  (hv : (vp_in x3 80 ∧ (((V 59 (x3).toNatClampNeg) = 0 → Ev G (d + 1) mX12_nameAt 68 [(0, .ref 57), (1, .int x1), (2, .int x2), (3, .int (x3 + 1))] (K, n, V, J, O) r (K, n, V, J, O)) ∧ (¬ (V 59 (x3).toNatClampNeg) = 0 → (∃ (v2 : Int32), Ev G d mX12_aheadOf 0 [(0, .ref 57), (1, .int x1), (2, .int x3)] (K, n, V, J, O) (some (.int v2)) (K, n, V, J, O) ∧ ((v2 = x2 → r = some (.int x3)) ∧ (¬ v2 = x2 → Ev G (d + 1) mX12_nameAt 68 [(0, .ref 57), (1, .int x1), (2, .int x2), (3, .int (x3 + 1))] (K, n, V, J, O) r (K, n, V, J, O)))))))) : Ev G (d + 1) mX12_nameAt 68 [(0, .ref 57), (1, .int x1), (2, .int x2), (3, .int x3)] (K, n, V, J, O) r (K, n, V, J, O) := by
  refine Ev.mk fun Q hq => ?_
  refine wp_aload_n (i := 0) dX12_nameAt_68 rfl rfl ?_
  refine wz_getR (b := 59) dX12_nameAt_69 (k57 hK) (f12_13 _ (by decide)) rfl ?_
  refine wp_iload_n (i := 3) dX12_nameAt_72 rfl rfl ?_
  obtain ⟨z1, hv⟩ := hv
  refine wz_baload dX12_nameAt_73 (k59 hK) z1 ?_
  refine wp_if_eq 87 dX12_nameAt_74 (by decide) (fun q => ?_) (fun q => ?_)
  · replace hv := hv.1 q
    refine wx_iinc (v := 1) (ls' := [(0, .ref 57), (1, .int x1), (2, .int x2), (3, .int (x3 + 1))]) dX12_nameAt_87 rfl (by decide) (by decide) rfl ?_
    refine wp_goto 68 dX12_nameAt_90 (by decide) ?_
    exact hv Q hq
  · replace hv := hv.2 q
    refine wp_aload_n (i := 0) dX12_nameAt_77 rfl rfl ?_
    refine wp_iload_n (i := 1) dX12_nameAt_78 rfl rfl ?_
    refine wp_iload_n (i := 3) dX12_nameAt_79 rfl rfl ?_
    obtain ⟨v2, hE, hv⟩ := hv
    refine wz_callV (vs := [.int x1, .int x3]) (st := []) dX12_nameAt_80 (k57 hK) rfl k12_308_12 hE rfl (Nat.le_of_ble_eq_true rfl) (Nat.le_of_ble_eq_true rfl) ?_
    change wp _ _ _ _ _ [.int v2] _ _ _
    refine wp_iload_n (i := 2) dX12_nameAt_83 rfl rfl ?_
    refine wp_icmp_eq 93 dX12_nameAt_84 (by decide) (fun q => ?_) (fun q => ?_)
    · replace hv := hv.1 q
      refine wp_iload_n (i := 3) dX12_nameAt_93 rfl rfl ?_
      obtain rfl := hv
      exact wp_ireturn dX12_nameAt_94 rfl rfl rfl hq
    · replace hv := hv.2 q
      refine wx_iinc (v := 1) (ls' := [(0, .ref 57), (1, .int x1), (2, .int x2), (3, .int (x3 + 1))]) dX12_nameAt_87 rfl (by decide) (by decide) rfl ?_
      refine wp_goto 68 dX12_nameAt_90 (by decide) ?_
      exact hv Q hq
theorem wX12_nameAt_122 {x1 : Int32} {x2 : Int32} {x3 : Int32} {x4 : Int32} (hK : StK K)  (hv : (((8 : Int32) ≤ x4 → r = some (.int (-1 : Int32))) ∧ (¬ (8 : Int32) ≤ x4 → Ev G (d + 1) mX12_nameAt 132 [(0, .ref 57), (1, .int x1), (2, .int x2), (3, .int x3), (4, .int x4), (5, .int (0 : Int32))] (K, n, V, J, O) r (K, n, V, J, O)))) : Ev G (d + 1) mX12_nameAt 122 [(0, .ref 57), (1, .int x1), (2, .int x2), (3, .int x3), (4, .int x4)] (K, n, V, J, O) r (K, n, V, J, O) := by
  refine Ev.mk fun Q hq => ?_
  refine wp_iload dX12_nameAt_122 rfl ?_
  refine wp_bipush (v := 8) dX12_nameAt_124 (by decide) ?_
  refine wp_icmp_ge 194 dX12_nameAt_126 (by decide) (fun q => ?_) (fun q => ?_)
  · replace hv := hv.1 q
    refine wp_iconst (v := -1) dX12_nameAt_194 (by decide) ?_
    obtain rfl := hv
    exact wp_ireturn dX12_nameAt_195 rfl rfl rfl hq
  · replace hv := hv.2 q
    refine wp_iconst (v := 0) dX12_nameAt_129 (by decide) ?_
    refine wx_istore (ls' := [(0, .ref 57), (1, .int x1), (2, .int x2), (3, .int x3), (4, .int x4), (5, .int (0 : Int32))]) dX12_nameAt_130 (by decide) rfl ?_
    exact hv Q hq
theorem wX12_nameAt_132 {x1 : Int32} {x2 : Int32} {x3 : Int32} {x4 : Int32} {x5 : Int32} (hK : StK K)  (hv : (vp_in x1 10 ∧ (((V 73 (x1).toNatClampNeg) ≤ x5 → Ev G (d + 1) mX12_nameAt 122 [(0, .ref 57), (1, .int x1), (2, .int x2), (3, .int x3), (4, .int (x4 + 1))] (K, n, V, J, O) r (K, n, V, J, O)) ∧ (¬ (V 73 (x1).toNatClampNeg) ≤ x5 → (vp_in (((80 : Int32) * x1) + x5) 800 ∧ (∃ (v3 : Int32), Ev G d mX12_keyIn 0 [(0, .ref 57), (1, .int x1), (2, .int (V 72 ((((80 : Int32) * x1) + x5)).toNatClampNeg))] (K, n, V, J, O) (some (.int v3)) (K, n, V, J, O) ∧ (((v3 - v3 / (8 : Int32) * (8 : Int32)) ≠ x4 → Ev G (d + 1) mX12_nameAt 132 [(0, .ref 57), (1, .int x1), (2, .int x2), (3, .int x3), (4, .int x4), (5, .int (x5 + 1))] (K, n, V, J, O) r (K, n, V, J, O)) ∧ ((v3 - v3 / (8 : Int32) * (8 : Int32)) = x4 → ((x3 ≠ 0 → Ev G (d + 1) mX12_nameAt 132 [(0, .ref 57), (1, .int x1), (2, .int x2), (3, .int (x3 + (-1))), (4, .int x4), (5, .int (x5 + 1))] (K, n, V, J, O) r (K, n, V, J, O)) ∧ (x3 = 0 → r = some (.int (V 72 ((((80 : Int32) * x1) + x5)).toNatClampNeg)))))))))))) : Ev G (d + 1) mX12_nameAt 132 [(0, .ref 57), (1, .int x1), (2, .int x2), (3, .int x3), (4, .int x4), (5, .int x5)] (K, n, V, J, O) r (K, n, V, J, O) := by
  refine Ev.mk fun Q hq => ?_
  refine wp_iload dX12_nameAt_132 rfl ?_
  refine wp_aload_n (i := 0) dX12_nameAt_134 rfl rfl ?_
  refine wz_getR (b := 73) dX12_nameAt_135 (k57 hK) (f12_56 _ (by decide)) rfl ?_
  refine wp_iload_n (i := 1) dX12_nameAt_138 rfl rfl ?_
  obtain ⟨z1, hv⟩ := hv
  refine wz_iaload dX12_nameAt_139 (k73 hK) z1 ?_
  refine wp_icmp_ge 188 dX12_nameAt_140 (by decide) (fun q => ?_) (fun q => ?_)
  · replace hv := hv.1 q
    refine wx_iinc (v := 1) (ls' := [(0, .ref 57), (1, .int x1), (2, .int x2), (3, .int x3), (4, .int (x4 + 1)), (5, .int x5)]) dX12_nameAt_188 rfl (by decide) (by decide) rfl ?_
    refine wp_goto 122 dX12_nameAt_191 (by decide) ?_
    refine wx_sub (ls' := [(0, .ref 57), (1, .int x1), (2, .int x2), (3, .int x3), (4, .int (x4 + 1))]) [0, 1, 2, 3, 4] rfl ?_
    exact hv Q hq
  · replace hv := hv.2 q
    refine wp_aload_n (i := 0) dX12_nameAt_143 rfl rfl ?_
    refine wz_getR (b := 72) dX12_nameAt_144 (k57 hK) (f12_53 _ (by decide)) rfl ?_
    refine wp_bipush (v := 80) dX12_nameAt_147 (by decide) ?_
    refine wp_iload_n (i := 1) dX12_nameAt_149 rfl rfl ?_
    refine wp_imul dX12_nameAt_150 ?_
    refine wp_iload dX12_nameAt_151 rfl ?_
    refine wp_iadd dX12_nameAt_153 ?_
    obtain ⟨z2, hv⟩ := hv
    refine wz_iaload dX12_nameAt_154 (k72 hK) z2 ?_
    refine wx_istore (ls' := [(0, .ref 57), (1, .int x1), (2, .int x2), (3, .int x3), (4, .int x4), (5, .int x5), (6, .int (V 72 ((((80 : Int32) * x1) + x5)).toNatClampNeg))]) dX12_nameAt_155 (by decide) rfl ?_
    refine wp_aload_n (i := 0) dX12_nameAt_157 rfl rfl ?_
    refine wp_iload_n (i := 1) dX12_nameAt_158 rfl rfl ?_
    refine wp_iload dX12_nameAt_159 rfl ?_
    obtain ⟨v3, hE, hv⟩ := hv
    refine wz_callV (vs := [.int x1, .int (V 72 ((((80 : Int32) * x1) + x5)).toNatClampNeg)]) (st := []) dX12_nameAt_161 (k57 hK) rfl k12_244_12 hE rfl (Nat.le_of_ble_eq_true rfl) (Nat.le_of_ble_eq_true rfl) ?_
    change wp _ _ _ _ _ [.int v3] _ _ _
    refine wp_bipush (v := 8) dX12_nameAt_164 (by decide) ?_
    refine wp_irem dX12_nameAt_166 (by decide) ?_
    refine wp_iload dX12_nameAt_167 rfl ?_
    refine wp_icmp_ne 182 dX12_nameAt_169 (by decide) (fun q => ?_) (fun q => ?_)
    · replace hv := hv.1 q
      refine wx_iinc (v := 1) (ls' := [(0, .ref 57), (1, .int x1), (2, .int x2), (3, .int x3), (4, .int x4), (5, .int (x5 + 1)), (6, .int (V 72 ((((80 : Int32) * x1) + x5)).toNatClampNeg))]) dX12_nameAt_182 rfl (by decide) (by decide) rfl ?_
      refine wp_goto 132 dX12_nameAt_185 (by decide) ?_
      refine wx_sub (ls' := [(0, .ref 57), (1, .int x1), (2, .int x2), (3, .int x3), (4, .int x4), (5, .int (x5 + 1))]) [0, 1, 2, 3, 4, 5] rfl ?_
      exact hv Q hq
    · replace hv := hv.2 q
      refine wp_iload_n (i := 3) dX12_nameAt_172 rfl rfl ?_
      refine wp_if_ne 179 dX12_nameAt_173 (by decide) (fun q => ?_) (fun q => ?_)
      · replace hv := hv.1 q
        refine wx_iinc (v := -1) (ls' := [(0, .ref 57), (1, .int x1), (2, .int x2), (3, .int (x3 + (-1))), (4, .int x4), (5, .int x5), (6, .int (V 72 ((((80 : Int32) * x1) + x5)).toNatClampNeg))]) dX12_nameAt_179 rfl (by decide) (by decide) rfl ?_
        refine wx_iinc (v := 1) (ls' := [(0, .ref 57), (1, .int x1), (2, .int x2), (3, .int (x3 + (-1))), (4, .int x4), (5, .int (x5 + 1)), (6, .int (V 72 ((((80 : Int32) * x1) + x5)).toNatClampNeg))]) dX12_nameAt_182 rfl (by decide) (by decide) rfl ?_
        refine wp_goto 132 dX12_nameAt_185 (by decide) ?_
        refine wx_sub (ls' := [(0, .ref 57), (1, .int x1), (2, .int x2), (3, .int (x3 + (-1))), (4, .int x4), (5, .int (x5 + 1))]) [0, 1, 2, 3, 4, 5] rfl ?_
        exact hv Q hq
      · replace hv := hv.2 q
        refine wp_iload dX12_nameAt_176 rfl ?_
        obtain rfl := hv
        exact wp_ireturn dX12_nameAt_178 rfl rfl rfl hq
theorem wX12_isAbout_0 {x1 : Int32} {x2 : Int32} (hK : StK K)  (hv : (vp_in x1 160 ∧ (vp_in x2 10 ∧ (((V 63 (x1).toNatClampNeg) ≠ (V 71 (x2).toNatClampNeg) → r = some (.int (0 : Int32))) ∧ ((V 63 (x1).toNatClampNeg) = (V 71 (x2).toNatClampNeg) → r = some (.int (1 : Int32))))))) : Ev G d mX12_isAbout 0 [(0, .ref 57), (1, .int x1), (2, .int x2)] (K, n, V, J, O) r (K, n, V, J, O) := by
  refine Ev.mk fun Q hq => ?_
  refine wp_aload_n (i := 0) dX12_isAbout_0 rfl rfl ?_
  refine wz_getR (b := 63) dX12_isAbout_1 (k57 hK) (f12_26 _ (by decide)) rfl ?_
  refine wp_iload_n (i := 1) dX12_isAbout_4 rfl rfl ?_
  obtain ⟨z1, hv⟩ := hv
  refine wz_iaload dX12_isAbout_5 (k63 hK) z1 ?_
  refine wp_aload_n (i := 0) dX12_isAbout_6 rfl rfl ?_
  refine wz_getR (b := 71) dX12_isAbout_7 (k57 hK) (f12_50 _ (by decide)) rfl ?_
  refine wp_iload_n (i := 2) dX12_isAbout_10 rfl rfl ?_
  obtain ⟨z2, hv⟩ := hv
  refine wz_iaload dX12_isAbout_11 (k71 hK) z2 ?_
  refine wp_icmp_ne 19 dX12_isAbout_12 (by decide) (fun q => ?_) (fun q => ?_)
  · replace hv := hv.1 q
    refine wp_iconst (v := 0) dX12_isAbout_19 (by decide) ?_
    obtain rfl := hv
    exact wp_ireturn dX12_isAbout_20 rfl (by decide) rfl hq
  · replace hv := hv.2 q
    refine wp_iconst (v := 1) dX12_isAbout_15 (by decide) ?_
    refine wp_goto 20 dX12_isAbout_16 (by decide) ?_
    obtain rfl := hv
    exact wp_ireturn dX12_isAbout_20 rfl (by decide) rfl hq
theorem wX12_leastOf_0 {x1 : Int32} {x2 : Int32} (hK : StK K)  (hv : Ev G (d + 1) mX12_leastOf 8 [(0, .ref 57), (1, .int x1), (2, .int x2), (3, .int (0 : Int32)), (4, .int ((16 : Int32) * x1))] (K, n, V, J, O) r (K, n, V, J, O)) : Ev G (d + 1) mX12_leastOf 0 [(0, .ref 57), (1, .int x1), (2, .int x2)] (K, n, V, J, O) r (K, n, V, J, O) := by
  refine Ev.mk fun Q hq => ?_
  refine wp_iconst (v := 0) dX12_leastOf_0 (by decide) ?_
  refine wx_istore_n (ls' := [(0, .ref 57), (1, .int x1), (2, .int x2), (3, .int (0 : Int32))]) (i := 3) dX12_leastOf_1 rfl (by decide) rfl ?_
  refine wp_bipush (v := 16) dX12_leastOf_2 (by decide) ?_
  refine wp_iload_n (i := 1) dX12_leastOf_4 rfl rfl ?_
  refine wp_imul dX12_leastOf_5 ?_
  refine wx_istore (ls' := [(0, .ref 57), (1, .int x1), (2, .int x2), (3, .int (0 : Int32)), (4, .int ((16 : Int32) * x1))]) dX12_leastOf_6 (by decide) rfl ?_
  exact hv Q hq
theorem wX12_leastOf_8 {x1 : Int32} {x2 : Int32} {x3 : Int32} {x4 : Int32} (hK : StK K)  (hv : (vp_in x1 10 ∧ (((((16 : Int32) * x1) + (V 66 (x1).toNatClampNeg)) ≤ x4 → r = some (.int x3)) ∧ (¬ (((16 : Int32) * x1) + (V 66 (x1).toNatClampNeg)) ≤ x4 → (vp_in x4 160 ∧ (((V 64 (x4).toNatClampNeg) ≠ (61 : Int32) → (vp_in x4 160 ∧ (((V 64 (x4).toNatClampNeg) ≠ (62 : Int32) → (∃ (v4 : Int32), Ev G d mX12_isAbout 0 [(0, .ref 57), (1, .int x4), (2, .int x2)] (K, n, V, J, O) (some (.int v4)) (K, n, V, J, O) ∧ ((v4 = 0 → Ev G (d + 1) mX12_leastOf 92 [(0, .ref 57), (1, .int x1), (2, .int x2), (3, .int x3), (4, .int x4), (5, .int (0 : Int32))] (K, n, V, J, O) r (K, n, V, J, O)) ∧ (¬ v4 = 0 → (((0 : Int32) ≤ x3 → Ev G (d + 1) mX12_leastOf 92 [(0, .ref 57), (1, .int x1), (2, .int x2), (3, .int x3), (4, .int x4), (5, .int (0 : Int32))] (K, n, V, J, O) r (K, n, V, J, O)) ∧ (¬ (0 : Int32) ≤ x3 → Ev G (d + 1) mX12_leastOf 8 [(0, .ref 57), (1, .int x1), (2, .int x2), (3, .int (0 : Int32)), (4, .int (x4 + 1))] (K, n, V, J, O) r (K, n, V, J, O))))))) ∧ ((V 64 (x4).toNatClampNeg) = (62 : Int32) → (∃ (v5 : Int32), Ev G d mX12_valueOf 0 [(0, .ref 57), (1, .int x4)] (K, n, V, J, O) (some (.int v5)) (K, n, V, J, O) ∧ (∃ (v6 : Int32), Ev G d mX12_isAbout 0 [(0, .ref 57), (1, .int x4), (2, .int x2)] (K, n, V, J, O) (some (.int v6)) (K, n, V, J, O) ∧ ((v6 = 0 → Ev G (d + 1) mX12_leastOf 92 [(0, .ref 57), (1, .int x1), (2, .int x2), (3, .int x3), (4, .int x4), (5, .int (v5 + (1 : Int32)))] (K, n, V, J, O) r (K, n, V, J, O)) ∧ (¬ v6 = 0 → (((v5 + (1 : Int32)) ≤ x3 → Ev G (d + 1) mX12_leastOf 92 [(0, .ref 57), (1, .int x1), (2, .int x2), (3, .int x3), (4, .int x4), (5, .int (v5 + (1 : Int32)))] (K, n, V, J, O) r (K, n, V, J, O)) ∧ (¬ (v5 + (1 : Int32)) ≤ x3 → Ev G (d + 1) mX12_leastOf 8 [(0, .ref 57), (1, .int x1), (2, .int x2), (3, .int (v5 + (1 : Int32))), (4, .int (x4 + 1))] (K, n, V, J, O) r (K, n, V, J, O))))))))))) ∧ ((V 64 (x4).toNatClampNeg) = (61 : Int32) → (∃ (v7 : Int32), Ev G d mX12_valueOf 0 [(0, .ref 57), (1, .int x4)] (K, n, V, J, O) (some (.int v7)) (K, n, V, J, O) ∧ (∃ (v8 : Int32), Ev G d mX12_isAbout 0 [(0, .ref 57), (1, .int x4), (2, .int x2)] (K, n, V, J, O) (some (.int v8)) (K, n, V, J, O) ∧ ((v8 = 0 → Ev G (d + 1) mX12_leastOf 92 [(0, .ref 57), (1, .int x1), (2, .int x2), (3, .int x3), (4, .int x4), (5, .int v7)] (K, n, V, J, O) r (K, n, V, J, O)) ∧ (¬ v8 = 0 → ((v7 ≤ x3 → Ev G (d + 1) mX12_leastOf 92 [(0, .ref 57), (1, .int x1), (2, .int x2), (3, .int x3), (4, .int x4), (5, .int v7)] (K, n, V, J, O) r (K, n, V, J, O)) ∧ (¬ v7 ≤ x3 → Ev G (d + 1) mX12_leastOf 8 [(0, .ref 57), (1, .int x1), (2, .int x2), (3, .int v7), (4, .int (x4 + 1))] (K, n, V, J, O) r (K, n, V, J, O)))))))))))))) : Ev G (d + 1) mX12_leastOf 8 [(0, .ref 57), (1, .int x1), (2, .int x2), (3, .int x3), (4, .int x4)] (K, n, V, J, O) r (K, n, V, J, O) := by
  refine Ev.mk fun Q hq => ?_
  refine wp_iload dX12_leastOf_8 rfl ?_
  refine wp_bipush (v := 16) dX12_leastOf_10 (by decide) ?_
  refine wp_iload_n (i := 1) dX12_leastOf_12 rfl rfl ?_
  refine wp_imul dX12_leastOf_13 ?_
  refine wp_aload_n (i := 0) dX12_leastOf_14 rfl rfl ?_
  refine wz_getR (b := 66) dX12_leastOf_15 (k57 hK) (f12_35 _ (by decide)) rfl ?_
  refine wp_iload_n (i := 1) dX12_leastOf_18 rfl rfl ?_
  obtain ⟨z1, hv⟩ := hv
  refine wz_iaload dX12_leastOf_19 (k66 hK) z1 ?_
  refine wp_iadd dX12_leastOf_20 ?_
  refine wp_icmp_ge 100 dX12_leastOf_21 (by decide) (fun q => ?_) (fun q => ?_)
  · replace hv := hv.1 q
    refine wp_iload_n (i := 3) dX12_leastOf_100 rfl rfl ?_
    obtain rfl := hv
    exact wp_ireturn dX12_leastOf_101 rfl rfl rfl hq
  · replace hv := hv.2 q
    refine wp_aload_n (i := 0) dX12_leastOf_24 rfl rfl ?_
    refine wz_getR (b := 64) dX12_leastOf_25 (k57 hK) (f12_29 _ (by decide)) rfl ?_
    refine wp_iload dX12_leastOf_28 rfl ?_
    obtain ⟨z2, hv⟩ := hv
    refine wz_iaload dX12_leastOf_30 (k64 hK) z2 ?_
    refine wp_bipush (v := 61) dX12_leastOf_31 (by decide) ?_
    refine wp_icmp_ne 45 dX12_leastOf_33 (by decide) (fun q => ?_) (fun q => ?_)
    · replace hv := hv.1 q
      refine wp_aload_n (i := 0) dX12_leastOf_45 rfl rfl ?_
      refine wz_getR (b := 64) dX12_leastOf_46 (k57 hK) (f12_29 _ (by decide)) rfl ?_
      refine wp_iload dX12_leastOf_49 rfl ?_
      obtain ⟨z3, hv⟩ := hv
      refine wz_iaload dX12_leastOf_51 (k64 hK) z3 ?_
      refine wp_bipush (v := 62) dX12_leastOf_52 (by decide) ?_
      refine wp_icmp_ne 68 dX12_leastOf_54 (by decide) (fun q => ?_) (fun q => ?_)
      · replace hv := hv.1 q
        refine wp_iconst (v := 0) dX12_leastOf_68 (by decide) ?_
        refine wx_istore (ls' := [(0, .ref 57), (1, .int x1), (2, .int x2), (3, .int x3), (4, .int x4), (5, .int (0 : Int32))]) dX12_leastOf_69 (by decide) rfl ?_
        refine wp_aload_n (i := 0) dX12_leastOf_71 rfl rfl ?_
        refine wp_iload dX12_leastOf_72 rfl ?_
        refine wp_iload_n (i := 2) dX12_leastOf_74 rfl rfl ?_
        obtain ⟨v4, hE, hv⟩ := hv
        refine wz_callV (vs := [.int x4, .int x2]) (st := []) dX12_leastOf_75 (k57 hK) rfl k12_311_12 hE rfl (Nat.le_of_ble_eq_true rfl) (Nat.le_of_ble_eq_true rfl) ?_
        change wp _ _ _ _ _ [.int v4] _ _ _
        refine wp_if_eq 92 dX12_leastOf_78 (by decide) (fun q => ?_) (fun q => ?_)
        · replace hv := hv.1 q
          exact hv Q hq
        · replace hv := hv.2 q
          refine wp_iload dX12_leastOf_81 rfl ?_
          refine wp_iload_n (i := 3) dX12_leastOf_83 rfl rfl ?_
          refine wp_icmp_le 92 dX12_leastOf_84 (by decide) (fun q => ?_) (fun q => ?_)
          · replace hv := hv.1 q
            exact hv Q hq
          · replace hv := hv.2 q
            refine wp_iload dX12_leastOf_87 rfl ?_
            refine wp_goto 93 dX12_leastOf_89 (by decide) ?_
            refine wx_istore_n (ls' := [(0, .ref 57), (1, .int x1), (2, .int x2), (3, .int (0 : Int32)), (4, .int x4), (5, .int (0 : Int32))]) (i := 3) dX12_leastOf_93 rfl (by decide) rfl ?_
            refine wx_iinc (v := 1) (ls' := [(0, .ref 57), (1, .int x1), (2, .int x2), (3, .int (0 : Int32)), (4, .int (x4 + 1)), (5, .int (0 : Int32))]) dX12_leastOf_94 rfl (by decide) (by decide) rfl ?_
            refine wp_goto 8 dX12_leastOf_97 (by decide) ?_
            refine wx_sub (ls' := [(0, .ref 57), (1, .int x1), (2, .int x2), (3, .int (0 : Int32)), (4, .int (x4 + 1))]) [0, 1, 2, 3, 4] rfl ?_
            exact hv Q hq
      · replace hv := hv.2 q
        refine wp_aload_n (i := 0) dX12_leastOf_57 rfl rfl ?_
        refine wp_iload dX12_leastOf_58 rfl ?_
        obtain ⟨v5, hE, hv⟩ := hv
        refine wz_callV (vs := [.int x4]) (st := []) dX12_leastOf_60 (k57 hK) rfl k12_213_12 hE rfl (Nat.le_of_ble_eq_true rfl) (Nat.le_of_ble_eq_true rfl) ?_
        change wp _ _ _ _ _ [.int v5] _ _ _
        refine wp_iconst (v := 1) dX12_leastOf_63 (by decide) ?_
        refine wp_iadd dX12_leastOf_64 ?_
        refine wp_goto 69 dX12_leastOf_65 (by decide) ?_
        refine wx_istore (ls' := [(0, .ref 57), (1, .int x1), (2, .int x2), (3, .int x3), (4, .int x4), (5, .int (v5 + (1 : Int32)))]) dX12_leastOf_69 (by decide) rfl ?_
        refine wp_aload_n (i := 0) dX12_leastOf_71 rfl rfl ?_
        refine wp_iload dX12_leastOf_72 rfl ?_
        refine wp_iload_n (i := 2) dX12_leastOf_74 rfl rfl ?_
        obtain ⟨v6, hE, hv⟩ := hv
        refine wz_callV (vs := [.int x4, .int x2]) (st := []) dX12_leastOf_75 (k57 hK) rfl k12_311_12 hE rfl (Nat.le_of_ble_eq_true rfl) (Nat.le_of_ble_eq_true rfl) ?_
        change wp _ _ _ _ _ [.int v6] _ _ _
        refine wp_if_eq 92 dX12_leastOf_78 (by decide) (fun q => ?_) (fun q => ?_)
        · replace hv := hv.1 q
          exact hv Q hq
        · replace hv := hv.2 q
          refine wp_iload dX12_leastOf_81 rfl ?_
          refine wp_iload_n (i := 3) dX12_leastOf_83 rfl rfl ?_
          refine wp_icmp_le 92 dX12_leastOf_84 (by decide) (fun q => ?_) (fun q => ?_)
          · replace hv := hv.1 q
            exact hv Q hq
          · replace hv := hv.2 q
            refine wp_iload dX12_leastOf_87 rfl ?_
            refine wp_goto 93 dX12_leastOf_89 (by decide) ?_
            refine wx_istore_n (ls' := [(0, .ref 57), (1, .int x1), (2, .int x2), (3, .int (v5 + (1 : Int32))), (4, .int x4), (5, .int (v5 + (1 : Int32)))]) (i := 3) dX12_leastOf_93 rfl (by decide) rfl ?_
            refine wx_iinc (v := 1) (ls' := [(0, .ref 57), (1, .int x1), (2, .int x2), (3, .int (v5 + (1 : Int32))), (4, .int (x4 + 1)), (5, .int (v5 + (1 : Int32)))]) dX12_leastOf_94 rfl (by decide) (by decide) rfl ?_
            refine wp_goto 8 dX12_leastOf_97 (by decide) ?_
            refine wx_sub (ls' := [(0, .ref 57), (1, .int x1), (2, .int x2), (3, .int (v5 + (1 : Int32))), (4, .int (x4 + 1))]) [0, 1, 2, 3, 4] rfl ?_
            exact hv Q hq
    · replace hv := hv.2 q
      refine wp_aload_n (i := 0) dX12_leastOf_36 rfl rfl ?_
      refine wp_iload dX12_leastOf_37 rfl ?_
      obtain ⟨v7, hE, hv⟩ := hv
      refine wz_callV (vs := [.int x4]) (st := []) dX12_leastOf_39 (k57 hK) rfl k12_213_12 hE rfl (Nat.le_of_ble_eq_true rfl) (Nat.le_of_ble_eq_true rfl) ?_
      change wp _ _ _ _ _ [.int v7] _ _ _
      refine wp_goto 69 dX12_leastOf_42 (by decide) ?_
      refine wx_istore (ls' := [(0, .ref 57), (1, .int x1), (2, .int x2), (3, .int x3), (4, .int x4), (5, .int v7)]) dX12_leastOf_69 (by decide) rfl ?_
      refine wp_aload_n (i := 0) dX12_leastOf_71 rfl rfl ?_
      refine wp_iload dX12_leastOf_72 rfl ?_
      refine wp_iload_n (i := 2) dX12_leastOf_74 rfl rfl ?_
      obtain ⟨v8, hE, hv⟩ := hv
      refine wz_callV (vs := [.int x4, .int x2]) (st := []) dX12_leastOf_75 (k57 hK) rfl k12_311_12 hE rfl (Nat.le_of_ble_eq_true rfl) (Nat.le_of_ble_eq_true rfl) ?_
      change wp _ _ _ _ _ [.int v8] _ _ _
      refine wp_if_eq 92 dX12_leastOf_78 (by decide) (fun q => ?_) (fun q => ?_)
      · replace hv := hv.1 q
        exact hv Q hq
      · replace hv := hv.2 q
        refine wp_iload dX12_leastOf_81 rfl ?_
        refine wp_iload_n (i := 3) dX12_leastOf_83 rfl rfl ?_
        refine wp_icmp_le 92 dX12_leastOf_84 (by decide) (fun q => ?_) (fun q => ?_)
        · replace hv := hv.1 q
          exact hv Q hq
        · replace hv := hv.2 q
          refine wp_iload dX12_leastOf_87 rfl ?_
          refine wp_goto 93 dX12_leastOf_89 (by decide) ?_
          refine wx_istore_n (ls' := [(0, .ref 57), (1, .int x1), (2, .int x2), (3, .int v7), (4, .int x4), (5, .int v7)]) (i := 3) dX12_leastOf_93 rfl (by decide) rfl ?_
          refine wx_iinc (v := 1) (ls' := [(0, .ref 57), (1, .int x1), (2, .int x2), (3, .int v7), (4, .int (x4 + 1)), (5, .int v7)]) dX12_leastOf_94 rfl (by decide) (by decide) rfl ?_
          refine wp_goto 8 dX12_leastOf_97 (by decide) ?_
          refine wx_sub (ls' := [(0, .ref 57), (1, .int x1), (2, .int x2), (3, .int v7), (4, .int (x4 + 1))]) [0, 1, 2, 3, 4] rfl ?_
          exact hv Q hq
theorem wX12_leastOf_92 {x1 : Int32} {x2 : Int32} {x3 : Int32} {x4 : Int32} {x5 : Int32} (hK : StK K)  (hv : Ev G (d + 1) mX12_leastOf 8 [(0, .ref 57), (1, .int x1), (2, .int x2), (3, .int x3), (4, .int (x4 + 1))] (K, n, V, J, O) r (K, n, V, J, O)) : Ev G (d + 1) mX12_leastOf 92 [(0, .ref 57), (1, .int x1), (2, .int x2), (3, .int x3), (4, .int x4), (5, .int x5)] (K, n, V, J, O) r (K, n, V, J, O) := by
  refine Ev.mk fun Q hq => ?_
  refine wp_iload_n (i := 3) dX12_leastOf_92 rfl rfl ?_
  refine wx_istore_n (ls' := [(0, .ref 57), (1, .int x1), (2, .int x2), (3, .int x3), (4, .int x4), (5, .int x5)]) (i := 3) dX12_leastOf_93 rfl (by decide) rfl ?_
  refine wx_iinc (v := 1) (ls' := [(0, .ref 57), (1, .int x1), (2, .int x2), (3, .int x3), (4, .int (x4 + 1)), (5, .int x5)]) dX12_leastOf_94 rfl (by decide) (by decide) rfl ?_
  refine wp_goto 8 dX12_leastOf_97 (by decide) ?_
  refine wx_sub (ls' := [(0, .ref 57), (1, .int x1), (2, .int x2), (3, .int x3), (4, .int (x4 + 1))]) [0, 1, 2, 3, 4] rfl ?_
  exact hv Q hq
theorem wX12_mostOf_0 {x1 : Int32} {x2 : Int32} (hK : StK K)  (hv : Ev G (d + 1) mX12_mostOf 9 [(0, .ref 57), (1, .int x1), (2, .int x2), (3, .int (99 : Int32)), (4, .int ((16 : Int32) * x1))] (K, n, V, J, O) r (K, n, V, J, O)) : Ev G (d + 1) mX12_mostOf 0 [(0, .ref 57), (1, .int x1), (2, .int x2)] (K, n, V, J, O) r (K, n, V, J, O) := by
  refine Ev.mk fun Q hq => ?_
  refine wp_bipush (v := 99) dX12_mostOf_0 (by decide) ?_
  refine wx_istore_n (ls' := [(0, .ref 57), (1, .int x1), (2, .int x2), (3, .int (99 : Int32))]) (i := 3) dX12_mostOf_2 rfl (by decide) rfl ?_
  refine wp_bipush (v := 16) dX12_mostOf_3 (by decide) ?_
  refine wp_iload_n (i := 1) dX12_mostOf_5 rfl rfl ?_
  refine wp_imul dX12_mostOf_6 ?_
  refine wx_istore (ls' := [(0, .ref 57), (1, .int x1), (2, .int x2), (3, .int (99 : Int32)), (4, .int ((16 : Int32) * x1))]) dX12_mostOf_7 (by decide) rfl ?_
  exact hv Q hq
theorem wX12_mostOf_9 {x1 : Int32} {x2 : Int32} {x3 : Int32} {x4 : Int32} (hK : StK K)  (hv : (vp_in x1 10 ∧ (((((16 : Int32) * x1) + (V 66 (x1).toNatClampNeg)) ≤ x4 → r = some (.int x3)) ∧ (¬ (((16 : Int32) * x1) + (V 66 (x1).toNatClampNeg)) ≤ x4 → (vp_in x4 160 ∧ (((V 64 (x4).toNatClampNeg) ≠ (61 : Int32) → (vp_in x4 160 ∧ (((V 64 (x4).toNatClampNeg) ≠ (60 : Int32) → (∃ (v4 : Int32), Ev G d mX12_isAbout 0 [(0, .ref 57), (1, .int x4), (2, .int x2)] (K, n, V, J, O) (some (.int v4)) (K, n, V, J, O) ∧ ((v4 = 0 → Ev G (d + 1) mX12_mostOf 94 [(0, .ref 57), (1, .int x1), (2, .int x2), (3, .int x3), (4, .int x4), (5, .int (99 : Int32))] (K, n, V, J, O) r (K, n, V, J, O)) ∧ (¬ v4 = 0 → ((x3 ≤ (99 : Int32) → Ev G (d + 1) mX12_mostOf 94 [(0, .ref 57), (1, .int x1), (2, .int x2), (3, .int x3), (4, .int x4), (5, .int (99 : Int32))] (K, n, V, J, O) r (K, n, V, J, O)) ∧ (¬ x3 ≤ (99 : Int32) → Ev G (d + 1) mX12_mostOf 9 [(0, .ref 57), (1, .int x1), (2, .int x2), (3, .int (99 : Int32)), (4, .int (x4 + 1))] (K, n, V, J, O) r (K, n, V, J, O))))))) ∧ ((V 64 (x4).toNatClampNeg) = (60 : Int32) → (∃ (v5 : Int32), Ev G d mX12_valueOf 0 [(0, .ref 57), (1, .int x4)] (K, n, V, J, O) (some (.int v5)) (K, n, V, J, O) ∧ (∃ (v6 : Int32), Ev G d mX12_isAbout 0 [(0, .ref 57), (1, .int x4), (2, .int x2)] (K, n, V, J, O) (some (.int v6)) (K, n, V, J, O) ∧ ((v6 = 0 → Ev G (d + 1) mX12_mostOf 94 [(0, .ref 57), (1, .int x1), (2, .int x2), (3, .int x3), (4, .int x4), (5, .int (v5 - (1 : Int32)))] (K, n, V, J, O) r (K, n, V, J, O)) ∧ (¬ v6 = 0 → ((x3 ≤ (v5 - (1 : Int32)) → Ev G (d + 1) mX12_mostOf 94 [(0, .ref 57), (1, .int x1), (2, .int x2), (3, .int x3), (4, .int x4), (5, .int (v5 - (1 : Int32)))] (K, n, V, J, O) r (K, n, V, J, O)) ∧ (¬ x3 ≤ (v5 - (1 : Int32)) → Ev G (d + 1) mX12_mostOf 9 [(0, .ref 57), (1, .int x1), (2, .int x2), (3, .int (v5 - (1 : Int32))), (4, .int (x4 + 1))] (K, n, V, J, O) r (K, n, V, J, O))))))))))) ∧ ((V 64 (x4).toNatClampNeg) = (61 : Int32) → (∃ (v7 : Int32), Ev G d mX12_valueOf 0 [(0, .ref 57), (1, .int x4)] (K, n, V, J, O) (some (.int v7)) (K, n, V, J, O) ∧ (∃ (v8 : Int32), Ev G d mX12_isAbout 0 [(0, .ref 57), (1, .int x4), (2, .int x2)] (K, n, V, J, O) (some (.int v8)) (K, n, V, J, O) ∧ ((v8 = 0 → Ev G (d + 1) mX12_mostOf 94 [(0, .ref 57), (1, .int x1), (2, .int x2), (3, .int x3), (4, .int x4), (5, .int v7)] (K, n, V, J, O) r (K, n, V, J, O)) ∧ (¬ v8 = 0 → ((x3 ≤ v7 → Ev G (d + 1) mX12_mostOf 94 [(0, .ref 57), (1, .int x1), (2, .int x2), (3, .int x3), (4, .int x4), (5, .int v7)] (K, n, V, J, O) r (K, n, V, J, O)) ∧ (¬ x3 ≤ v7 → Ev G (d + 1) mX12_mostOf 9 [(0, .ref 57), (1, .int x1), (2, .int x2), (3, .int v7), (4, .int (x4 + 1))] (K, n, V, J, O) r (K, n, V, J, O)))))))))))))) : Ev G (d + 1) mX12_mostOf 9 [(0, .ref 57), (1, .int x1), (2, .int x2), (3, .int x3), (4, .int x4)] (K, n, V, J, O) r (K, n, V, J, O) := by
  refine Ev.mk fun Q hq => ?_
  refine wp_iload dX12_mostOf_9 rfl ?_
  refine wp_bipush (v := 16) dX12_mostOf_11 (by decide) ?_
  refine wp_iload_n (i := 1) dX12_mostOf_13 rfl rfl ?_
  refine wp_imul dX12_mostOf_14 ?_
  refine wp_aload_n (i := 0) dX12_mostOf_15 rfl rfl ?_
  refine wz_getR (b := 66) dX12_mostOf_16 (k57 hK) (f12_35 _ (by decide)) rfl ?_
  refine wp_iload_n (i := 1) dX12_mostOf_19 rfl rfl ?_
  obtain ⟨z1, hv⟩ := hv
  refine wz_iaload dX12_mostOf_20 (k66 hK) z1 ?_
  refine wp_iadd dX12_mostOf_21 ?_
  refine wp_icmp_ge 102 dX12_mostOf_22 (by decide) (fun q => ?_) (fun q => ?_)
  · replace hv := hv.1 q
    refine wp_iload_n (i := 3) dX12_mostOf_102 rfl rfl ?_
    obtain rfl := hv
    exact wp_ireturn dX12_mostOf_103 rfl rfl rfl hq
  · replace hv := hv.2 q
    refine wp_aload_n (i := 0) dX12_mostOf_25 rfl rfl ?_
    refine wz_getR (b := 64) dX12_mostOf_26 (k57 hK) (f12_29 _ (by decide)) rfl ?_
    refine wp_iload dX12_mostOf_29 rfl ?_
    obtain ⟨z2, hv⟩ := hv
    refine wz_iaload dX12_mostOf_31 (k64 hK) z2 ?_
    refine wp_bipush (v := 61) dX12_mostOf_32 (by decide) ?_
    refine wp_icmp_ne 46 dX12_mostOf_34 (by decide) (fun q => ?_) (fun q => ?_)
    · replace hv := hv.1 q
      refine wp_aload_n (i := 0) dX12_mostOf_46 rfl rfl ?_
      refine wz_getR (b := 64) dX12_mostOf_47 (k57 hK) (f12_29 _ (by decide)) rfl ?_
      refine wp_iload dX12_mostOf_50 rfl ?_
      obtain ⟨z3, hv⟩ := hv
      refine wz_iaload dX12_mostOf_52 (k64 hK) z3 ?_
      refine wp_bipush (v := 60) dX12_mostOf_53 (by decide) ?_
      refine wp_icmp_ne 69 dX12_mostOf_55 (by decide) (fun q => ?_) (fun q => ?_)
      · replace hv := hv.1 q
        refine wp_bipush (v := 99) dX12_mostOf_69 (by decide) ?_
        refine wx_istore (ls' := [(0, .ref 57), (1, .int x1), (2, .int x2), (3, .int x3), (4, .int x4), (5, .int (99 : Int32))]) dX12_mostOf_71 (by decide) rfl ?_
        refine wp_aload_n (i := 0) dX12_mostOf_73 rfl rfl ?_
        refine wp_iload dX12_mostOf_74 rfl ?_
        refine wp_iload_n (i := 2) dX12_mostOf_76 rfl rfl ?_
        obtain ⟨v4, hE, hv⟩ := hv
        refine wz_callV (vs := [.int x4, .int x2]) (st := []) dX12_mostOf_77 (k57 hK) rfl k12_311_12 hE rfl (Nat.le_of_ble_eq_true rfl) (Nat.le_of_ble_eq_true rfl) ?_
        change wp _ _ _ _ _ [.int v4] _ _ _
        refine wp_if_eq 94 dX12_mostOf_80 (by decide) (fun q => ?_) (fun q => ?_)
        · replace hv := hv.1 q
          exact hv Q hq
        · replace hv := hv.2 q
          refine wp_iload dX12_mostOf_83 rfl ?_
          refine wp_iload_n (i := 3) dX12_mostOf_85 rfl rfl ?_
          refine wp_icmp_ge 94 dX12_mostOf_86 (by decide) (fun q => ?_) (fun q => ?_)
          · replace hv := hv.1 q
            exact hv Q hq
          · replace hv := hv.2 q
            refine wp_iload dX12_mostOf_89 rfl ?_
            refine wp_goto 95 dX12_mostOf_91 (by decide) ?_
            refine wx_istore_n (ls' := [(0, .ref 57), (1, .int x1), (2, .int x2), (3, .int (99 : Int32)), (4, .int x4), (5, .int (99 : Int32))]) (i := 3) dX12_mostOf_95 rfl (by decide) rfl ?_
            refine wx_iinc (v := 1) (ls' := [(0, .ref 57), (1, .int x1), (2, .int x2), (3, .int (99 : Int32)), (4, .int (x4 + 1)), (5, .int (99 : Int32))]) dX12_mostOf_96 rfl (by decide) (by decide) rfl ?_
            refine wp_goto 9 dX12_mostOf_99 (by decide) ?_
            refine wx_sub (ls' := [(0, .ref 57), (1, .int x1), (2, .int x2), (3, .int (99 : Int32)), (4, .int (x4 + 1))]) [0, 1, 2, 3, 4] rfl ?_
            exact hv Q hq
      · replace hv := hv.2 q
        refine wp_aload_n (i := 0) dX12_mostOf_58 rfl rfl ?_
        refine wp_iload dX12_mostOf_59 rfl ?_
        obtain ⟨v5, hE, hv⟩ := hv
        refine wz_callV (vs := [.int x4]) (st := []) dX12_mostOf_61 (k57 hK) rfl k12_213_12 hE rfl (Nat.le_of_ble_eq_true rfl) (Nat.le_of_ble_eq_true rfl) ?_
        change wp _ _ _ _ _ [.int v5] _ _ _
        refine wp_iconst (v := 1) dX12_mostOf_64 (by decide) ?_
        refine wp_isub dX12_mostOf_65 ?_
        refine wp_goto 71 dX12_mostOf_66 (by decide) ?_
        refine wx_istore (ls' := [(0, .ref 57), (1, .int x1), (2, .int x2), (3, .int x3), (4, .int x4), (5, .int (v5 - (1 : Int32)))]) dX12_mostOf_71 (by decide) rfl ?_
        refine wp_aload_n (i := 0) dX12_mostOf_73 rfl rfl ?_
        refine wp_iload dX12_mostOf_74 rfl ?_
        refine wp_iload_n (i := 2) dX12_mostOf_76 rfl rfl ?_
        obtain ⟨v6, hE, hv⟩ := hv
        refine wz_callV (vs := [.int x4, .int x2]) (st := []) dX12_mostOf_77 (k57 hK) rfl k12_311_12 hE rfl (Nat.le_of_ble_eq_true rfl) (Nat.le_of_ble_eq_true rfl) ?_
        change wp _ _ _ _ _ [.int v6] _ _ _
        refine wp_if_eq 94 dX12_mostOf_80 (by decide) (fun q => ?_) (fun q => ?_)
        · replace hv := hv.1 q
          exact hv Q hq
        · replace hv := hv.2 q
          refine wp_iload dX12_mostOf_83 rfl ?_
          refine wp_iload_n (i := 3) dX12_mostOf_85 rfl rfl ?_
          refine wp_icmp_ge 94 dX12_mostOf_86 (by decide) (fun q => ?_) (fun q => ?_)
          · replace hv := hv.1 q
            exact hv Q hq
          · replace hv := hv.2 q
            refine wp_iload dX12_mostOf_89 rfl ?_
            refine wp_goto 95 dX12_mostOf_91 (by decide) ?_
            refine wx_istore_n (ls' := [(0, .ref 57), (1, .int x1), (2, .int x2), (3, .int (v5 - (1 : Int32))), (4, .int x4), (5, .int (v5 - (1 : Int32)))]) (i := 3) dX12_mostOf_95 rfl (by decide) rfl ?_
            refine wx_iinc (v := 1) (ls' := [(0, .ref 57), (1, .int x1), (2, .int x2), (3, .int (v5 - (1 : Int32))), (4, .int (x4 + 1)), (5, .int (v5 - (1 : Int32)))]) dX12_mostOf_96 rfl (by decide) (by decide) rfl ?_
            refine wp_goto 9 dX12_mostOf_99 (by decide) ?_
            refine wx_sub (ls' := [(0, .ref 57), (1, .int x1), (2, .int x2), (3, .int (v5 - (1 : Int32))), (4, .int (x4 + 1))]) [0, 1, 2, 3, 4] rfl ?_
            exact hv Q hq
    · replace hv := hv.2 q
      refine wp_aload_n (i := 0) dX12_mostOf_37 rfl rfl ?_
      refine wp_iload dX12_mostOf_38 rfl ?_
      obtain ⟨v7, hE, hv⟩ := hv
      refine wz_callV (vs := [.int x4]) (st := []) dX12_mostOf_40 (k57 hK) rfl k12_213_12 hE rfl (Nat.le_of_ble_eq_true rfl) (Nat.le_of_ble_eq_true rfl) ?_
      change wp _ _ _ _ _ [.int v7] _ _ _
      refine wp_goto 71 dX12_mostOf_43 (by decide) ?_
      refine wx_istore (ls' := [(0, .ref 57), (1, .int x1), (2, .int x2), (3, .int x3), (4, .int x4), (5, .int v7)]) dX12_mostOf_71 (by decide) rfl ?_
      refine wp_aload_n (i := 0) dX12_mostOf_73 rfl rfl ?_
      refine wp_iload dX12_mostOf_74 rfl ?_
      refine wp_iload_n (i := 2) dX12_mostOf_76 rfl rfl ?_
      obtain ⟨v8, hE, hv⟩ := hv
      refine wz_callV (vs := [.int x4, .int x2]) (st := []) dX12_mostOf_77 (k57 hK) rfl k12_311_12 hE rfl (Nat.le_of_ble_eq_true rfl) (Nat.le_of_ble_eq_true rfl) ?_
      change wp _ _ _ _ _ [.int v8] _ _ _
      refine wp_if_eq 94 dX12_mostOf_80 (by decide) (fun q => ?_) (fun q => ?_)
      · replace hv := hv.1 q
        exact hv Q hq
      · replace hv := hv.2 q
        refine wp_iload dX12_mostOf_83 rfl ?_
        refine wp_iload_n (i := 3) dX12_mostOf_85 rfl rfl ?_
        refine wp_icmp_ge 94 dX12_mostOf_86 (by decide) (fun q => ?_) (fun q => ?_)
        · replace hv := hv.1 q
          exact hv Q hq
        · replace hv := hv.2 q
          refine wp_iload dX12_mostOf_89 rfl ?_
          refine wp_goto 95 dX12_mostOf_91 (by decide) ?_
          refine wx_istore_n (ls' := [(0, .ref 57), (1, .int x1), (2, .int x2), (3, .int v7), (4, .int x4), (5, .int v7)]) (i := 3) dX12_mostOf_95 rfl (by decide) rfl ?_
          refine wx_iinc (v := 1) (ls' := [(0, .ref 57), (1, .int x1), (2, .int x2), (3, .int v7), (4, .int (x4 + 1)), (5, .int v7)]) dX12_mostOf_96 rfl (by decide) (by decide) rfl ?_
          refine wp_goto 9 dX12_mostOf_99 (by decide) ?_
          refine wx_sub (ls' := [(0, .ref 57), (1, .int x1), (2, .int x2), (3, .int v7), (4, .int (x4 + 1))]) [0, 1, 2, 3, 4] rfl ?_
          exact hv Q hq
theorem wX12_mostOf_94 {x1 : Int32} {x2 : Int32} {x3 : Int32} {x4 : Int32} {x5 : Int32} (hK : StK K)  (hv : Ev G (d + 1) mX12_mostOf 9 [(0, .ref 57), (1, .int x1), (2, .int x2), (3, .int x3), (4, .int (x4 + 1))] (K, n, V, J, O) r (K, n, V, J, O)) : Ev G (d + 1) mX12_mostOf 94 [(0, .ref 57), (1, .int x1), (2, .int x2), (3, .int x3), (4, .int x4), (5, .int x5)] (K, n, V, J, O) r (K, n, V, J, O) := by
  refine Ev.mk fun Q hq => ?_
  refine wp_iload_n (i := 3) dX12_mostOf_94 rfl rfl ?_
  refine wx_istore_n (ls' := [(0, .ref 57), (1, .int x1), (2, .int x2), (3, .int x3), (4, .int x4), (5, .int x5)]) (i := 3) dX12_mostOf_95 rfl (by decide) rfl ?_
  refine wx_iinc (v := 1) (ls' := [(0, .ref 57), (1, .int x1), (2, .int x2), (3, .int x3), (4, .int (x4 + 1)), (5, .int x5)]) dX12_mostOf_96 rfl (by decide) (by decide) rfl ?_
  refine wp_goto 9 dX12_mostOf_99 (by decide) ?_
  refine wx_sub (ls' := [(0, .ref 57), (1, .int x1), (2, .int x2), (3, .int x3), (4, .int (x4 + 1))]) [0, 1, 2, 3, 4] rfl ?_
  exact hv Q hq
theorem wX12_allAbout_0 {x1 : Int32} {x2 : Int32} (hK : StK K)  (hv : Ev G (d + 1) mX12_allAbout 8 [(0, .ref 57), (1, .int x1), (2, .int x2), (3, .int (1 : Int32)), (4, .int ((16 : Int32) * x1))] (K, n, V, J, O) r (K, n, V, J, O)) : Ev G (d + 1) mX12_allAbout 0 [(0, .ref 57), (1, .int x1), (2, .int x2)] (K, n, V, J, O) r (K, n, V, J, O) := by
  refine Ev.mk fun Q hq => ?_
  refine wp_iconst (v := 1) dX12_allAbout_0 (by decide) ?_
  refine wx_istore_n (ls' := [(0, .ref 57), (1, .int x1), (2, .int x2), (3, .int (1 : Int32))]) (i := 3) dX12_allAbout_1 rfl (by decide) rfl ?_
  refine wp_bipush (v := 16) dX12_allAbout_2 (by decide) ?_
  refine wp_iload_n (i := 1) dX12_allAbout_4 rfl rfl ?_
  refine wp_imul dX12_allAbout_5 ?_
  refine wx_istore (ls' := [(0, .ref 57), (1, .int x1), (2, .int x2), (3, .int (1 : Int32)), (4, .int ((16 : Int32) * x1))]) dX12_allAbout_6 (by decide) rfl ?_
  exact hv Q hq
theorem wX12_allAbout_8 {x1 : Int32} {x2 : Int32} {x3 : Int32} {x4 : Int32} (hK : StK K)  (hv : (vp_in x1 10 ∧ (((((16 : Int32) * x1) + (V 66 (x1).toNatClampNeg)) ≤ x4 → ((x3 = 0 ∨ x3 = 1) ∧ r = some (.int x3))) ∧ (¬ (((16 : Int32) * x1) + (V 66 (x1).toNatClampNeg)) ≤ x4 → ((x3 = 0 → Ev G (d + 1) mX12_allAbout 8 [(0, .ref 57), (1, .int x1), (2, .int x2), (3, .int (0 : Int32)), (4, .int (x4 + 1))] (K, n, V, J, O) r (K, n, V, J, O)) ∧ (¬ x3 = 0 → (∃ (v2 : Int32), Ev G d mX12_isAbout 0 [(0, .ref 57), (1, .int x4), (2, .int x2)] (K, n, V, J, O) (some (.int v2)) (K, n, V, J, O) ∧ ((v2 = 0 → Ev G (d + 1) mX12_allAbout 8 [(0, .ref 57), (1, .int x1), (2, .int x2), (3, .int (0 : Int32)), (4, .int (x4 + 1))] (K, n, V, J, O) r (K, n, V, J, O)) ∧ (¬ v2 = 0 → Ev G (d + 1) mX12_allAbout 8 [(0, .ref 57), (1, .int x1), (2, .int x2), (3, .int (1 : Int32)), (4, .int (x4 + 1))] (K, n, V, J, O) r (K, n, V, J, O)))))))))) : Ev G (d + 1) mX12_allAbout 8 [(0, .ref 57), (1, .int x1), (2, .int x2), (3, .int x3), (4, .int x4)] (K, n, V, J, O) r (K, n, V, J, O) := by
  refine Ev.mk fun Q hq => ?_
  refine wp_iload dX12_allAbout_8 rfl ?_
  refine wp_bipush (v := 16) dX12_allAbout_10 (by decide) ?_
  refine wp_iload_n (i := 1) dX12_allAbout_12 rfl rfl ?_
  refine wp_imul dX12_allAbout_13 ?_
  refine wp_aload_n (i := 0) dX12_allAbout_14 rfl rfl ?_
  refine wz_getR (b := 66) dX12_allAbout_15 (k57 hK) (f12_35 _ (by decide)) rfl ?_
  refine wp_iload_n (i := 1) dX12_allAbout_18 rfl rfl ?_
  obtain ⟨z1, hv⟩ := hv
  refine wz_iaload dX12_allAbout_19 (k66 hK) z1 ?_
  refine wp_iadd dX12_allAbout_20 ?_
  refine wp_icmp_ge 50 dX12_allAbout_21 (by decide) (fun q => ?_) (fun q => ?_)
  · replace hv := hv.1 q
    refine wp_iload_n (i := 3) dX12_allAbout_50 rfl rfl ?_
    obtain ⟨z, hv⟩ := hv
    obtain rfl := hv
    exact wp_ireturn dX12_allAbout_51 rfl (by rcases z with z | z <;> rw [z] <;> decide) rfl hq
  · replace hv := hv.2 q
    refine wp_iload_n (i := 3) dX12_allAbout_24 rfl rfl ?_
    refine wp_if_eq 42 dX12_allAbout_25 (by decide) (fun q => ?_) (fun q => ?_)
    · replace hv := hv.1 q
      refine wp_iconst (v := 0) dX12_allAbout_42 (by decide) ?_
      refine wx_istore_n (ls' := [(0, .ref 57), (1, .int x1), (2, .int x2), (3, .int (0 : Int32)), (4, .int x4)]) (i := 3) dX12_allAbout_43 rfl (by decide) rfl ?_
      refine wx_iinc (v := 1) (ls' := [(0, .ref 57), (1, .int x1), (2, .int x2), (3, .int (0 : Int32)), (4, .int (x4 + 1))]) dX12_allAbout_44 rfl (by decide) (by decide) rfl ?_
      refine wp_goto 8 dX12_allAbout_47 (by decide) ?_
      exact hv Q hq
    · replace hv := hv.2 q
      refine wp_aload_n (i := 0) dX12_allAbout_28 rfl rfl ?_
      refine wp_iload dX12_allAbout_29 rfl ?_
      refine wp_iload_n (i := 2) dX12_allAbout_31 rfl rfl ?_
      obtain ⟨v2, hE, hv⟩ := hv
      refine wz_callV (vs := [.int x4, .int x2]) (st := []) dX12_allAbout_32 (k57 hK) rfl k12_311_12 hE rfl (Nat.le_of_ble_eq_true rfl) (Nat.le_of_ble_eq_true rfl) ?_
      change wp _ _ _ _ _ [.int v2] _ _ _
      refine wp_if_eq 42 dX12_allAbout_35 (by decide) (fun q => ?_) (fun q => ?_)
      · replace hv := hv.1 q
        refine wp_iconst (v := 0) dX12_allAbout_42 (by decide) ?_
        refine wx_istore_n (ls' := [(0, .ref 57), (1, .int x1), (2, .int x2), (3, .int (0 : Int32)), (4, .int x4)]) (i := 3) dX12_allAbout_43 rfl (by decide) rfl ?_
        refine wx_iinc (v := 1) (ls' := [(0, .ref 57), (1, .int x1), (2, .int x2), (3, .int (0 : Int32)), (4, .int (x4 + 1))]) dX12_allAbout_44 rfl (by decide) (by decide) rfl ?_
        refine wp_goto 8 dX12_allAbout_47 (by decide) ?_
        exact hv Q hq
      · replace hv := hv.2 q
        refine wp_iconst (v := 1) dX12_allAbout_38 (by decide) ?_
        refine wp_goto 43 dX12_allAbout_39 (by decide) ?_
        refine wx_istore_n (ls' := [(0, .ref 57), (1, .int x1), (2, .int x2), (3, .int (1 : Int32)), (4, .int x4)]) (i := 3) dX12_allAbout_43 rfl (by decide) rfl ?_
        refine wx_iinc (v := 1) (ls' := [(0, .ref 57), (1, .int x1), (2, .int x2), (3, .int (1 : Int32)), (4, .int (x4 + 1))]) dX12_allAbout_44 rfl (by decide) (by decide) rfl ?_
        refine wp_goto 8 dX12_allAbout_47 (by decide) ?_
        exact hv Q hq
theorem wX12_bySums_0 {x1 : Int32} {x2 : Int32} (hK : StK K)  (hv : (vp_in x2 10 ∧ (((V 70 (x2).toNatClampNeg) ≠ (7 : Int32) → r = some (.int (0 : Int32))) ∧ ((V 70 (x2).toNatClampNeg) = (7 : Int32) → (∃ (v2 : Int32), Ev G d mX12_allAbout 0 [(0, .ref 57), (1, .int x1), (2, .int x2)] (K, n, V, J, O) (some (.int v2)) (K, n, V, J, O) ∧ ((v2 = 0 → r = some (.int (0 : Int32))) ∧ (¬ v2 = 0 → (vp_in x1 10 ∧ (((V 67 (x1).toNatClampNeg) = (110 : Int32) → r = some (.int (1 : Int32))) ∧ (¬ (V 67 (x1).toNatClampNeg) = (110 : Int32) → (vp_in x1 10 ∧ (((V 67 (x1).toNatClampNeg) ≠ (115 : Int32) → r = some (.int (0 : Int32))) ∧ ((V 67 (x1).toNatClampNeg) = (115 : Int32) → (vp_in x1 10 ∧ (vp_in x2 10 ∧ (((V 68 (x1).toNatClampNeg) ≠ (V 71 (x2).toNatClampNeg) → r = some (.int (0 : Int32))) ∧ ((V 68 (x1).toNatClampNeg) = (V 71 (x2).toNatClampNeg) → r = some (.int (1 : Int32))))))))))))))))))) : Ev G (d + 1) mX12_bySums 0 [(0, .ref 57), (1, .int x1), (2, .int x2)] (K, n, V, J, O) r (K, n, V, J, O) := by
  refine Ev.mk fun Q hq => ?_
  refine wp_aload_n (i := 0) dX12_bySums_0 rfl rfl ?_
  refine wz_getR (b := 70) dX12_bySums_1 (k57 hK) (f12_47 _ (by decide)) rfl ?_
  refine wp_iload_n (i := 2) dX12_bySums_4 rfl rfl ?_
  obtain ⟨z1, hv⟩ := hv
  refine wz_iaload dX12_bySums_5 (k70 hK) z1 ?_
  refine wp_bipush (v := 7) dX12_bySums_6 (by decide) ?_
  refine wp_icmp_ne 61 dX12_bySums_8 (by decide) (fun q => ?_) (fun q => ?_)
  · replace hv := hv.1 q
    refine wp_iconst (v := 0) dX12_bySums_61 (by decide) ?_
    obtain rfl := hv
    exact wp_ireturn dX12_bySums_62 rfl (by decide) rfl hq
  · replace hv := hv.2 q
    refine wp_aload_n (i := 0) dX12_bySums_11 rfl rfl ?_
    refine wp_iload_n (i := 1) dX12_bySums_12 rfl rfl ?_
    refine wp_iload_n (i := 2) dX12_bySums_13 rfl rfl ?_
    obtain ⟨v2, hE, hv⟩ := hv
    refine wz_callV (vs := [.int x1, .int x2]) (st := []) dX12_bySums_14 (k57 hK) rfl k12_314_12 hE rfl (Nat.le_of_ble_eq_true rfl) (Nat.le_of_ble_eq_true rfl) ?_
    change wp _ _ _ _ _ [.int v2] _ _ _
    refine wp_if_eq 61 dX12_bySums_17 (by decide) (fun q => ?_) (fun q => ?_)
    · replace hv := hv.1 q
      refine wp_iconst (v := 0) dX12_bySums_61 (by decide) ?_
      obtain rfl := hv
      exact wp_ireturn dX12_bySums_62 rfl (by decide) rfl hq
    · replace hv := hv.2 q
      refine wp_aload_n (i := 0) dX12_bySums_20 rfl rfl ?_
      refine wz_getR (b := 67) dX12_bySums_21 (k57 hK) (f12_38 _ (by decide)) rfl ?_
      refine wp_iload_n (i := 1) dX12_bySums_24 rfl rfl ?_
      obtain ⟨z3, hv⟩ := hv
      refine wz_iaload dX12_bySums_25 (k67 hK) z3 ?_
      refine wp_bipush (v := 110) dX12_bySums_26 (by decide) ?_
      refine wp_icmp_eq 57 dX12_bySums_28 (by decide) (fun q => ?_) (fun q => ?_)
      · replace hv := hv.1 q
        refine wp_iconst (v := 1) dX12_bySums_57 (by decide) ?_
        refine wp_goto 62 dX12_bySums_58 (by decide) ?_
        obtain rfl := hv
        exact wp_ireturn dX12_bySums_62 rfl (by decide) rfl hq
      · replace hv := hv.2 q
        refine wp_aload_n (i := 0) dX12_bySums_31 rfl rfl ?_
        refine wz_getR (b := 67) dX12_bySums_32 (k57 hK) (f12_38 _ (by decide)) rfl ?_
        refine wp_iload_n (i := 1) dX12_bySums_35 rfl rfl ?_
        obtain ⟨z4, hv⟩ := hv
        refine wz_iaload dX12_bySums_36 (k67 hK) z4 ?_
        refine wp_bipush (v := 115) dX12_bySums_37 (by decide) ?_
        refine wp_icmp_ne 61 dX12_bySums_39 (by decide) (fun q => ?_) (fun q => ?_)
        · replace hv := hv.1 q
          refine wp_iconst (v := 0) dX12_bySums_61 (by decide) ?_
          obtain rfl := hv
          exact wp_ireturn dX12_bySums_62 rfl (by decide) rfl hq
        · replace hv := hv.2 q
          refine wp_aload_n (i := 0) dX12_bySums_42 rfl rfl ?_
          refine wz_getR (b := 68) dX12_bySums_43 (k57 hK) (f12_41 _ (by decide)) rfl ?_
          refine wp_iload_n (i := 1) dX12_bySums_46 rfl rfl ?_
          obtain ⟨z5, hv⟩ := hv
          refine wz_iaload dX12_bySums_47 (k68 hK) z5 ?_
          refine wp_aload_n (i := 0) dX12_bySums_48 rfl rfl ?_
          refine wz_getR (b := 71) dX12_bySums_49 (k57 hK) (f12_50 _ (by decide)) rfl ?_
          refine wp_iload_n (i := 2) dX12_bySums_52 rfl rfl ?_
          obtain ⟨z6, hv⟩ := hv
          refine wz_iaload dX12_bySums_53 (k71 hK) z6 ?_
          refine wp_icmp_ne 61 dX12_bySums_54 (by decide) (fun q => ?_) (fun q => ?_)
          · replace hv := hv.1 q
            refine wp_iconst (v := 0) dX12_bySums_61 (by decide) ?_
            obtain rfl := hv
            exact wp_ireturn dX12_bySums_62 rfl (by decide) rfl hq
          · replace hv := hv.2 q
            refine wp_iconst (v := 1) dX12_bySums_57 (by decide) ?_
            refine wp_goto 62 dX12_bySums_58 (by decide) ?_
            obtain rfl := hv
            exact wp_ireturn dX12_bySums_62 rfl (by decide) rfl hq
theorem wX12_seeAll_0 {x1 : Int32} {x2 : Int32} (hK : StK K)  (hv : Ev G (d + 1) mX12_seeAll 2 [(0, .ref 57), (1, .int x1), (2, .int x2), (3, .int (0 : Int32))] (K, n, V, J, O) r (K, n, V', J, O)) : Ev G (d + 1) mX12_seeAll 0 [(0, .ref 57), (1, .int x1), (2, .int x2)] (K, n, V, J, O) r (K, n, V', J, O) := by
  refine Ev.mk fun Q hq => ?_
  refine wp_iconst (v := 0) dX12_seeAll_0 (by decide) ?_
  refine wx_istore_n (ls' := [(0, .ref 57), (1, .int x1), (2, .int x2), (3, .int (0 : Int32))]) (i := 3) dX12_seeAll_1 rfl (by decide) rfl ?_
  exact hv Q hq
theorem wX12_seeAll_2 {x1 : Int32} {x2 : Int32} {x3 : Int32} (hK : StK K)  (hv : (vp_in x2 10 ∧ (((V 73 (x2).toNatClampNeg) ≤ x3 → (r = none ∧ V' = V)) ∧ (¬ (V 73 (x2).toNatClampNeg) ≤ x3 → (vp_in (((80 : Int32) * x2) + x3) 800 ∧ (∃ (V3 : SV), Ev G d mX12_see 0 [(0, .ref 57), (1, .int x1), (2, .int (V 72 ((((80 : Int32) * x2) + x3)).toNatClampNeg))] (K, n, (up2 V 57 33 ((V 57 33) + (1 : Int32))), J, O) none (K, n, V3, J, O) ∧ Ev G (d + 1) mX12_seeAll 2 [(0, .ref 57), (1, .int x1), (2, .int x2), (3, .int (x3 + 1))] (K, n, V3, J, O) r (K, n, V', J, O))))))) : Ev G (d + 1) mX12_seeAll 2 [(0, .ref 57), (1, .int x1), (2, .int x2), (3, .int x3)] (K, n, V, J, O) r (K, n, V', J, O) := by
  refine Ev.mk fun Q hq => ?_
  refine wp_iload_n (i := 3) dX12_seeAll_2 rfl rfl ?_
  refine wp_aload_n (i := 0) dX12_seeAll_3 rfl rfl ?_
  refine wz_getR (b := 73) dX12_seeAll_4 (k57 hK) (f12_56 _ (by decide)) rfl ?_
  refine wp_iload_n (i := 2) dX12_seeAll_7 rfl rfl ?_
  obtain ⟨z1, hv⟩ := hv
  refine wz_iaload dX12_seeAll_8 (k73 hK) z1 ?_
  refine wp_icmp_ge 44 dX12_seeAll_9 (by decide) (fun q => ?_) (fun q => ?_)
  · replace hv := hv.1 q
    obtain ⟨rfl, rfl⟩ := hv
    exact wp_return dX12_seeAll_44 rfl rfl hq
  · replace hv := hv.2 q
    refine wp_aload_n (i := 0) dX12_seeAll_12 rfl rfl ?_
    refine wp_dupR dX12_seeAll_13 ?_
    refine wz_getI dX12_seeAll_14 (k57 hK) (f12_225 _ (by decide)) rfl ?_
    refine wp_iconst (v := 1) dX12_seeAll_17 (by decide) ?_
    refine wp_iadd dX12_seeAll_18 ?_
    refine wz_putI dX12_seeAll_19 (k57 hK) (w12_225 _ (by decide)) rfl ?_
    refine wp_aload_n (i := 0) dX12_seeAll_22 rfl rfl ?_
    refine wp_iload_n (i := 1) dX12_seeAll_23 rfl rfl ?_
    refine wp_aload_n (i := 0) dX12_seeAll_24 rfl rfl ?_
    refine wz_getR (b := 72) dX12_seeAll_25 (k57 hK) (f12_53 _ (by decide)) rfl ?_
    refine wp_bipush (v := 80) dX12_seeAll_28 (by decide) ?_
    refine wp_iload_n (i := 2) dX12_seeAll_30 rfl rfl ?_
    refine wp_imul dX12_seeAll_31 ?_
    refine wp_iload_n (i := 3) dX12_seeAll_32 rfl rfl ?_
    refine wp_iadd dX12_seeAll_33 ?_
    obtain ⟨z2, hv⟩ := hv
    refine wz_ialoade (v := (V 72 ((((80 : Int32) * x2) + x3)).toNatClampNeg)) dX12_seeAll_34 (k72 hK) z2 (up2_a (by decide)) ?_
    obtain ⟨V3, hE, hv⟩ := hv
    refine wz_callV (vs := [.int x1, .int (V 72 ((((80 : Int32) * x2) + x3)).toNatClampNeg)]) (st := []) dX12_seeAll_35 (k57 hK) rfl k12_234_12 hE rfl (Nat.le_of_ble_eq_true rfl) (Nat.le_of_ble_eq_true rfl) ?_
    change wp _ _ _ _ _ [] _ _ _
    refine wx_iinc (v := 1) (ls' := [(0, .ref 57), (1, .int x1), (2, .int x2), (3, .int (x3 + 1))]) dX12_seeAll_38 rfl (by decide) (by decide) rfl ?_
    refine wp_goto 2 dX12_seeAll_41 (by decide) ?_
    exact hv Q hq
theorem wX12_seeSorted_0 {x1 : Int32} {x2 : Int32} (hK : StK K)  (hv : (∃ (v1 : Int32), Ev G d mX12_leastOf 0 [(0, .ref 57), (1, .int x1), (2, .int x2)] (K, n, (up2 V 57 32 (0 : Int32)), J, O) (some (.int v1)) (K, n, (up2 V 57 32 (0 : Int32)), J, O) ∧ (∃ (v3 : Int32) (V2 : SV), Ev G d mX12_placeOf 0 [(0, .ref 57), (1, .int x2), (2, .int v1), (3, .int (-1 : Int32))] (K, n, (up2 V 57 32 (0 : Int32)), J, O) (some (.int v3)) (K, n, V2, J, O) ∧ (vp_in x2 10 ∧ (((V2 73 (x2).toNatClampNeg) ≤ v3 → Ev G (d + 1) mX12_seeSorted 48 [(0, .ref 57), (1, .int x1), (2, .int x2), (3, .int v3), (4, .int (0 : Int32))] (K, n, (up2 V2 57 33 ((V2 57 33) + (V2 57 32))), J, O) r (K, n, V', J, O)) ∧ (¬ (V2 73 (x2).toNatClampNeg) ≤ v3 → Ev G (d + 1) mX12_seeSorted 48 [(0, .ref 57), (1, .int x1), (2, .int x2), (3, .int v3), (4, .int (1 : Int32))] (K, n, (up2 V2 57 33 ((V2 57 33) + (V2 57 32))), J, O) r (K, n, V', J, O))))))) : Ev G (d + 1) mX12_seeSorted 0 [(0, .ref 57), (1, .int x1), (2, .int x2)] (K, n, V, J, O) r (K, n, V', J, O) := by
  refine Ev.mk fun Q hq => ?_
  refine wp_aload_n (i := 0) dX12_seeSorted_0 rfl rfl ?_
  refine wp_iconst (v := 0) dX12_seeSorted_1 (by decide) ?_
  refine wz_putI dX12_seeSorted_2 (k57 hK) (w12_252 _ (by decide)) rfl ?_
  refine wp_aload_n (i := 0) dX12_seeSorted_5 rfl rfl ?_
  refine wp_iload_n (i := 2) dX12_seeSorted_6 rfl rfl ?_
  refine wp_aload_n (i := 0) dX12_seeSorted_7 rfl rfl ?_
  refine wp_iload_n (i := 1) dX12_seeSorted_8 rfl rfl ?_
  refine wp_iload_n (i := 2) dX12_seeSorted_9 rfl rfl ?_
  obtain ⟨v1, hE, hv⟩ := hv
  refine wz_callV (vs := [.int x1, .int x2]) (st := [.int x2, .ref 57]) dX12_seeSorted_10 (k57 hK) rfl k12_317_12 hE rfl (Nat.le_of_ble_eq_true rfl) (Nat.le_of_ble_eq_true rfl) ?_
  change wp _ _ _ _ _ [.int v1, .int x2, .ref 57] _ _ _
  refine wp_iconst (v := -1) dX12_seeSorted_13 (by decide) ?_
  obtain ⟨v3, V2, hE, hv⟩ := hv
  refine wz_callV (vs := [.int x2, .int v1, .int (-1 : Int32)]) (st := []) dX12_seeSorted_14 (k57 hK) rfl k12_270_12 hE rfl (Nat.le_of_ble_eq_true rfl) (Nat.le_of_ble_eq_true rfl) ?_
  change wp _ _ _ _ _ [.int v3] _ _ _
  refine wx_istore_n (ls' := [(0, .ref 57), (1, .int x1), (2, .int x2), (3, .int v3)]) (i := 3) dX12_seeSorted_17 rfl (by decide) rfl ?_
  refine wp_aload_n (i := 0) dX12_seeSorted_18 rfl rfl ?_
  refine wp_dupR dX12_seeSorted_19 ?_
  refine wz_getI dX12_seeSorted_20 (k57 hK) (f12_225 _ (by decide)) rfl ?_
  refine wp_aload_n (i := 0) dX12_seeSorted_23 rfl rfl ?_
  refine wz_getI dX12_seeSorted_24 (k57 hK) (f12_252 _ (by decide)) rfl ?_
  refine wp_iadd dX12_seeSorted_27 ?_
  refine wz_putI dX12_seeSorted_28 (k57 hK) (w12_225 _ (by decide)) rfl ?_
  refine wp_iload_n (i := 3) dX12_seeSorted_31 rfl rfl ?_
  refine wp_aload_n (i := 0) dX12_seeSorted_32 rfl rfl ?_
  refine wz_getR (b := 73) dX12_seeSorted_33 (k57 hK) (f12_56 _ (by decide)) rfl ?_
  refine wp_iload_n (i := 2) dX12_seeSorted_36 rfl rfl ?_
  obtain ⟨z4, hv⟩ := hv
  refine wz_ialoade (v := (V2 73 (x2).toNatClampNeg)) dX12_seeSorted_37 (k73 hK) z4 (up2_a (by decide)) ?_
  refine wp_icmp_ge 45 dX12_seeSorted_38 (by decide) (fun q => ?_) (fun q => ?_)
  · replace hv := hv.1 q
    refine wp_iconst (v := 0) dX12_seeSorted_45 (by decide) ?_
    refine wx_istore (ls' := [(0, .ref 57), (1, .int x1), (2, .int x2), (3, .int v3), (4, .int (0 : Int32))]) dX12_seeSorted_46 (by decide) rfl ?_
    exact hv Q hq
  · replace hv := hv.2 q
    refine wp_iconst (v := 1) dX12_seeSorted_41 (by decide) ?_
    refine wp_goto 46 dX12_seeSorted_42 (by decide) ?_
    refine wx_istore (ls' := [(0, .ref 57), (1, .int x1), (2, .int x2), (3, .int v3), (4, .int (1 : Int32))]) dX12_seeSorted_46 (by decide) rfl ?_
    exact hv Q hq
theorem wX12_seeSorted_48 {x1 : Int32} {x2 : Int32} {x3 : Int32} {x4 : Int32} (hK : StK K)  (hv : ((x4 = 0 → (r = none ∧ V' = V)) ∧ (¬ x4 = 0 → (vp_in (((80 : Int32) * x2) + x3) 800 ∧ (∃ (v2 : Int32), Ev G d mX12_keyIn 0 [(0, .ref 57), (1, .int x2), (2, .int (V 72 ((((80 : Int32) * x2) + x3)).toNatClampNeg))] (K, n, (up2 V 57 33 ((V 57 33) + (1 : Int32))), J, O) (some (.int v2)) (K, n, (up2 V 57 33 ((V 57 33) + (1 : Int32))), J, O) ∧ (∃ (v3 : Int32), Ev G d mX12_mostOf 0 [(0, .ref 57), (1, .int x1), (2, .int x2)] (K, n, (up2 V 57 33 ((V 57 33) + (1 : Int32))), J, O) (some (.int v3)) (K, n, (up2 V 57 33 ((V 57 33) + (1 : Int32))), J, O) ∧ ((v3 < v2 → Ev G (d + 1) mX12_seeSorted 48 [(0, .ref 57), (1, .int x1), (2, .int x2), (3, .int (x3 + 1)), (4, .int (0 : Int32))] (K, n, (up2 V 57 33 ((V 57 33) + (1 : Int32))), J, O) r (K, n, V', J, O)) ∧ (¬ v3 < v2 → (∃ (V4 : SV), Ev G d mX12_see 0 [(0, .ref 57), (1, .int x1), (2, .int (V 72 ((((80 : Int32) * x2) + x3)).toNatClampNeg))] (K, n, (up2 V 57 33 ((V 57 33) + (1 : Int32))), J, O) none (K, n, V4, J, O) ∧ (vp_in x2 10 ∧ (((V4 73 (x2).toNatClampNeg) ≤ (x3 + 1) → Ev G (d + 1) mX12_seeSorted 48 [(0, .ref 57), (1, .int x1), (2, .int x2), (3, .int (x3 + 1)), (4, .int (0 : Int32))] (K, n, V4, J, O) r (K, n, V', J, O)) ∧ (¬ (V4 73 (x2).toNatClampNeg) ≤ (x3 + 1) → Ev G (d + 1) mX12_seeSorted 48 [(0, .ref 57), (1, .int x1), (2, .int x2), (3, .int (x3 + 1)), (4, .int (1 : Int32))] (K, n, V4, J, O) r (K, n, V', J, O))))))))))))) : Ev G (d + 1) mX12_seeSorted 48 [(0, .ref 57), (1, .int x1), (2, .int x2), (3, .int x3), (4, .int x4)] (K, n, V, J, O) r (K, n, V', J, O) := by
  refine Ev.mk fun Q hq => ?_
  refine wp_iload dX12_seeSorted_48 rfl ?_
  refine wp_if_eq 139 dX12_seeSorted_50 (by decide) (fun q => ?_) (fun q => ?_)
  · replace hv := hv.1 q
    obtain ⟨rfl, rfl⟩ := hv
    exact wp_return dX12_seeSorted_139 rfl rfl hq
  · replace hv := hv.2 q
    refine wp_aload_n (i := 0) dX12_seeSorted_53 rfl rfl ?_
    refine wz_getR (b := 72) dX12_seeSorted_54 (k57 hK) (f12_53 _ (by decide)) rfl ?_
    refine wp_bipush (v := 80) dX12_seeSorted_57 (by decide) ?_
    refine wp_iload_n (i := 2) dX12_seeSorted_59 rfl rfl ?_
    refine wp_imul dX12_seeSorted_60 ?_
    refine wp_iload_n (i := 3) dX12_seeSorted_61 rfl rfl ?_
    refine wp_iadd dX12_seeSorted_62 ?_
    obtain ⟨z1, hv⟩ := hv
    refine wz_iaload dX12_seeSorted_63 (k72 hK) z1 ?_
    refine wx_istore (ls' := [(0, .ref 57), (1, .int x1), (2, .int x2), (3, .int x3), (4, .int x4), (5, .int (V 72 ((((80 : Int32) * x2) + x3)).toNatClampNeg))]) dX12_seeSorted_64 (by decide) rfl ?_
    refine wp_aload_n (i := 0) dX12_seeSorted_66 rfl rfl ?_
    refine wp_dupR dX12_seeSorted_67 ?_
    refine wz_getI dX12_seeSorted_68 (k57 hK) (f12_225 _ (by decide)) rfl ?_
    refine wp_iconst (v := 1) dX12_seeSorted_71 (by decide) ?_
    refine wp_iadd dX12_seeSorted_72 ?_
    refine wz_putI dX12_seeSorted_73 (k57 hK) (w12_225 _ (by decide)) rfl ?_
    refine wp_aload_n (i := 0) dX12_seeSorted_76 rfl rfl ?_
    refine wp_iload_n (i := 2) dX12_seeSorted_77 rfl rfl ?_
    refine wp_iload dX12_seeSorted_78 rfl ?_
    obtain ⟨v2, hE, hv⟩ := hv
    refine wz_callV (vs := [.int x2, .int (V 72 ((((80 : Int32) * x2) + x3)).toNatClampNeg)]) (st := []) dX12_seeSorted_80 (k57 hK) rfl k12_244_12 hE rfl (Nat.le_of_ble_eq_true rfl) (Nat.le_of_ble_eq_true rfl) ?_
    change wp _ _ _ _ _ [.int v2] _ _ _
    refine wp_aload_n (i := 0) dX12_seeSorted_83 rfl rfl ?_
    refine wp_iload_n (i := 1) dX12_seeSorted_84 rfl rfl ?_
    refine wp_iload_n (i := 2) dX12_seeSorted_85 rfl rfl ?_
    obtain ⟨v3, hE, hv⟩ := hv
    refine wz_callV (vs := [.int x1, .int x2]) (st := [.int v2]) dX12_seeSorted_86 (k57 hK) rfl k12_320_12 hE rfl (Nat.le_of_ble_eq_true rfl) (Nat.le_of_ble_eq_true rfl) ?_
    change wp _ _ _ _ _ [.int v3, .int v2] _ _ _
    refine wp_icmp_gt 96 dX12_seeSorted_89 (by decide) (fun q => ?_) (fun q => ?_)
    · replace hv := hv.1 q
      refine wp_iconst (v := 0) dX12_seeSorted_96 (by decide) ?_
      refine wx_istore (ls' := [(0, .ref 57), (1, .int x1), (2, .int x2), (3, .int x3), (4, .int (0 : Int32)), (5, .int (V 72 ((((80 : Int32) * x2) + x3)).toNatClampNeg))]) dX12_seeSorted_97 (by decide) rfl ?_
      refine wp_iload dX12_seeSorted_99 rfl ?_
      refine wp_if_eq 111 dX12_seeSorted_101 (by decide) (fun _ => ?_) (fun q => absurd q (by decide))
      refine wx_iinc (v := 1) (ls' := [(0, .ref 57), (1, .int x1), (2, .int x2), (3, .int (x3 + 1)), (4, .int (0 : Int32)), (5, .int (V 72 ((((80 : Int32) * x2) + x3)).toNatClampNeg))]) dX12_seeSorted_111 rfl (by decide) (by decide) rfl ?_
      refine wp_iload dX12_seeSorted_114 rfl ?_
      refine wp_if_eq 133 dX12_seeSorted_116 (by decide) (fun _ => ?_) (fun q => absurd q (by decide))
      refine wp_iconst (v := 0) dX12_seeSorted_133 (by decide) ?_
      refine wx_istore (ls' := [(0, .ref 57), (1, .int x1), (2, .int x2), (3, .int (x3 + 1)), (4, .int (0 : Int32)), (5, .int (V 72 ((((80 : Int32) * x2) + x3)).toNatClampNeg))]) dX12_seeSorted_134 (by decide) rfl ?_
      refine wp_goto 48 dX12_seeSorted_136 (by decide) ?_
      refine wx_sub (ls' := [(0, .ref 57), (1, .int x1), (2, .int x2), (3, .int (x3 + 1)), (4, .int (0 : Int32))]) [0, 1, 2, 3, 4] rfl ?_
      exact hv Q hq
    · replace hv := hv.2 q
      refine wp_iconst (v := 1) dX12_seeSorted_92 (by decide) ?_
      refine wp_goto 97 dX12_seeSorted_93 (by decide) ?_
      refine wx_istore (ls' := [(0, .ref 57), (1, .int x1), (2, .int x2), (3, .int x3), (4, .int (1 : Int32)), (5, .int (V 72 ((((80 : Int32) * x2) + x3)).toNatClampNeg))]) dX12_seeSorted_97 (by decide) rfl ?_
      refine wp_iload dX12_seeSorted_99 rfl ?_
      refine wp_if_eq 111 dX12_seeSorted_101 (by decide) (fun q => absurd q (by decide)) (fun _ => ?_)
      refine wp_aload_n (i := 0) dX12_seeSorted_104 rfl rfl ?_
      refine wp_iload_n (i := 1) dX12_seeSorted_105 rfl rfl ?_
      refine wp_iload dX12_seeSorted_106 rfl ?_
      obtain ⟨V4, hE, hv⟩ := hv
      refine wz_callV (vs := [.int x1, .int (V 72 ((((80 : Int32) * x2) + x3)).toNatClampNeg)]) (st := []) dX12_seeSorted_108 (k57 hK) rfl k12_234_12 hE rfl (Nat.le_of_ble_eq_true rfl) (Nat.le_of_ble_eq_true rfl) ?_
      change wp _ _ _ _ _ [] _ _ _
      refine wx_iinc (v := 1) (ls' := [(0, .ref 57), (1, .int x1), (2, .int x2), (3, .int (x3 + 1)), (4, .int (1 : Int32)), (5, .int (V 72 ((((80 : Int32) * x2) + x3)).toNatClampNeg))]) dX12_seeSorted_111 rfl (by decide) (by decide) rfl ?_
      refine wp_iload dX12_seeSorted_114 rfl ?_
      refine wp_if_eq 133 dX12_seeSorted_116 (by decide) (fun q => absurd q (by decide)) (fun _ => ?_)
      refine wp_iload_n (i := 3) dX12_seeSorted_119 rfl rfl ?_
      refine wp_aload_n (i := 0) dX12_seeSorted_120 rfl rfl ?_
      refine wz_getR (b := 73) dX12_seeSorted_121 (k57 hK) (f12_56 _ (by decide)) rfl ?_
      refine wp_iload_n (i := 2) dX12_seeSorted_124 rfl rfl ?_
      obtain ⟨z5, hv⟩ := hv
      refine wz_iaload dX12_seeSorted_125 (k73 hK) z5 ?_
      refine wp_icmp_ge 133 dX12_seeSorted_126 (by decide) (fun q => ?_) (fun q => ?_)
      · replace hv := hv.1 q
        refine wp_iconst (v := 0) dX12_seeSorted_133 (by decide) ?_
        refine wx_istore (ls' := [(0, .ref 57), (1, .int x1), (2, .int x2), (3, .int (x3 + 1)), (4, .int (0 : Int32)), (5, .int (V 72 ((((80 : Int32) * x2) + x3)).toNatClampNeg))]) dX12_seeSorted_134 (by decide) rfl ?_
        refine wp_goto 48 dX12_seeSorted_136 (by decide) ?_
        refine wx_sub (ls' := [(0, .ref 57), (1, .int x1), (2, .int x2), (3, .int (x3 + 1)), (4, .int (0 : Int32))]) [0, 1, 2, 3, 4] rfl ?_
        exact hv Q hq
      · replace hv := hv.2 q
        refine wp_iconst (v := 1) dX12_seeSorted_129 (by decide) ?_
        refine wp_goto 134 dX12_seeSorted_130 (by decide) ?_
        refine wx_istore (ls' := [(0, .ref 57), (1, .int x1), (2, .int x2), (3, .int (x3 + 1)), (4, .int (1 : Int32)), (5, .int (V 72 ((((80 : Int32) * x2) + x3)).toNatClampNeg))]) dX12_seeSorted_134 (by decide) rfl ?_
        refine wp_goto 48 dX12_seeSorted_136 (by decide) ?_
        refine wx_sub (ls' := [(0, .ref 57), (1, .int x1), (2, .int x2), (3, .int (x3 + 1)), (4, .int (1 : Int32))]) [0, 1, 2, 3, 4] rfl ?_
        exact hv Q hq
theorem wX12_seeSums_0 {x1 : Int32} {x2 : Int32} (hK : StK K)  (hv : (∃ (v1 : Int32), Ev G d mX12_leastOf 0 [(0, .ref 57), (1, .int x1), (2, .int x2)] (K, n, (up2 V 57 32 (0 : Int32)), J, O) (some (.int v1)) (K, n, (up2 V 57 32 (0 : Int32)), J, O) ∧ (∃ (v3 : Int32) (V2 : SV), Ev G d mX12_placeOf 0 [(0, .ref 57), (1, .int x2), (2, .int v1), (3, .int (-1 : Int32))] (K, n, (up2 V 57 32 (0 : Int32)), J, O) (some (.int v3)) (K, n, V2, J, O) ∧ (∃ (v4 : Int32), Ev G d mX12_mostOf 0 [(0, .ref 57), (1, .int x1), (2, .int x2)] (K, n, V2, J, O) (some (.int v4)) (K, n, V2, J, O) ∧ (∃ (v6 : Int32) (V5 : SV), Ev G d mX12_placeOf 0 [(0, .ref 57), (1, .int x2), (2, .int (v4 + (1 : Int32))), (3, .int (-1 : Int32))] (K, n, V2, J, O) (some (.int v6)) (K, n, V5, J, O) ∧ Ev G (d + 1) mX12_seeSums 50 [(0, .ref 57), (1, .int x1), (2, .int x2), (3, .int v3), (4, .int v6), (5, .int v3)] (K, n, (up2 V5 57 33 ((V5 57 33) + (V5 57 32))), J, O) r (K, n, V', J, O)))))) : Ev G (d + 1) mX12_seeSums 0 [(0, .ref 57), (1, .int x1), (2, .int x2)] (K, n, V, J, O) r (K, n, V', J, O) := by
  refine Ev.mk fun Q hq => ?_
  refine wp_aload_n (i := 0) dX12_seeSums_0 rfl rfl ?_
  refine wp_iconst (v := 0) dX12_seeSums_1 (by decide) ?_
  refine wz_putI dX12_seeSums_2 (k57 hK) (w12_252 _ (by decide)) rfl ?_
  refine wp_aload_n (i := 0) dX12_seeSums_5 rfl rfl ?_
  refine wp_iload_n (i := 2) dX12_seeSums_6 rfl rfl ?_
  refine wp_aload_n (i := 0) dX12_seeSums_7 rfl rfl ?_
  refine wp_iload_n (i := 1) dX12_seeSums_8 rfl rfl ?_
  refine wp_iload_n (i := 2) dX12_seeSums_9 rfl rfl ?_
  obtain ⟨v1, hE, hv⟩ := hv
  refine wz_callV (vs := [.int x1, .int x2]) (st := [.int x2, .ref 57]) dX12_seeSums_10 (k57 hK) rfl k12_317_12 hE rfl (Nat.le_of_ble_eq_true rfl) (Nat.le_of_ble_eq_true rfl) ?_
  change wp _ _ _ _ _ [.int v1, .int x2, .ref 57] _ _ _
  refine wp_iconst (v := -1) dX12_seeSums_13 (by decide) ?_
  obtain ⟨v3, V2, hE, hv⟩ := hv
  refine wz_callV (vs := [.int x2, .int v1, .int (-1 : Int32)]) (st := []) dX12_seeSums_14 (k57 hK) rfl k12_270_12 hE rfl (Nat.le_of_ble_eq_true rfl) (Nat.le_of_ble_eq_true rfl) ?_
  change wp _ _ _ _ _ [.int v3] _ _ _
  refine wx_istore_n (ls' := [(0, .ref 57), (1, .int x1), (2, .int x2), (3, .int v3)]) (i := 3) dX12_seeSums_17 rfl (by decide) rfl ?_
  refine wp_aload_n (i := 0) dX12_seeSums_18 rfl rfl ?_
  refine wp_iload_n (i := 2) dX12_seeSums_19 rfl rfl ?_
  refine wp_aload_n (i := 0) dX12_seeSums_20 rfl rfl ?_
  refine wp_iload_n (i := 1) dX12_seeSums_21 rfl rfl ?_
  refine wp_iload_n (i := 2) dX12_seeSums_22 rfl rfl ?_
  obtain ⟨v4, hE, hv⟩ := hv
  refine wz_callV (vs := [.int x1, .int x2]) (st := [.int x2, .ref 57]) dX12_seeSums_23 (k57 hK) rfl k12_320_12 hE rfl (Nat.le_of_ble_eq_true rfl) (Nat.le_of_ble_eq_true rfl) ?_
  change wp _ _ _ _ _ [.int v4, .int x2, .ref 57] _ _ _
  refine wp_iconst (v := 1) dX12_seeSums_26 (by decide) ?_
  refine wp_iadd dX12_seeSums_27 ?_
  refine wp_iconst (v := -1) dX12_seeSums_28 (by decide) ?_
  obtain ⟨v6, V5, hE, hv⟩ := hv
  refine wz_callV (vs := [.int x2, .int (v4 + (1 : Int32)), .int (-1 : Int32)]) (st := []) dX12_seeSums_29 (k57 hK) rfl k12_270_12 hE rfl (Nat.le_of_ble_eq_true rfl) (Nat.le_of_ble_eq_true rfl) ?_
  change wp _ _ _ _ _ [.int v6] _ _ _
  refine wx_istore (ls' := [(0, .ref 57), (1, .int x1), (2, .int x2), (3, .int v3), (4, .int v6)]) dX12_seeSums_32 (by decide) rfl ?_
  refine wp_aload_n (i := 0) dX12_seeSums_34 rfl rfl ?_
  refine wp_dupR dX12_seeSums_35 ?_
  refine wz_getI dX12_seeSums_36 (k57 hK) (f12_225 _ (by decide)) rfl ?_
  refine wp_aload_n (i := 0) dX12_seeSums_39 rfl rfl ?_
  refine wz_getI dX12_seeSums_40 (k57 hK) (f12_252 _ (by decide)) rfl ?_
  refine wp_iadd dX12_seeSums_43 ?_
  refine wz_putI dX12_seeSums_44 (k57 hK) (w12_225 _ (by decide)) rfl ?_
  refine wp_iload_n (i := 3) dX12_seeSums_47 rfl rfl ?_
  refine wx_istore (ls' := [(0, .ref 57), (1, .int x1), (2, .int x2), (3, .int v3), (4, .int v6), (5, .int v3)]) dX12_seeSums_48 (by decide) rfl ?_
  exact hv Q hq
theorem wX12_seeSums_50 {x1 : Int32} {x2 : Int32} {x3 : Int32} {x4 : Int32} {x5 : Int32} (hK : StK K)  (hv : ((x4 ≤ x5 → (r = none ∧ V' = V)) ∧ (¬ x4 ≤ x5 → (vp_in (((80 : Int32) * x2) + x5) 800 ∧ (∃ (v2 : Int32), Ev G d mX12_keyIn 0 [(0, .ref 57), (1, .int x2), (2, .int (V 72 ((((80 : Int32) * x2) + x5)).toNatClampNeg))] (K, n, (up2 V 57 29 ((V 57 29) + (1 : Int32))), J, O) (some (.int v2)) (K, n, (up2 V 57 29 ((V 57 29) + (1 : Int32))), J, O) ∧ Ev G (d + 1) mX12_seeSums 50 [(0, .ref 57), (1, .int x1), (2, .int x2), (3, .int x3), (4, .int x4), (5, .int (x5 + 1))] (K, n, (up2 (up2 V 57 29 ((V 57 29) + (1 : Int32))) 57 31 ((V 57 31) + v2)), J, O) r (K, n, V', J, O)))))) : Ev G (d + 1) mX12_seeSums 50 [(0, .ref 57), (1, .int x1), (2, .int x2), (3, .int x3), (4, .int x4), (5, .int x5)] (K, n, V, J, O) r (K, n, V', J, O) := by
  refine Ev.mk fun Q hq => ?_
  refine wp_iload dX12_seeSums_50 rfl ?_
  refine wp_iload dX12_seeSums_52 rfl ?_
  refine wp_icmp_ge 99 dX12_seeSums_54 (by decide) (fun q => ?_) (fun q => ?_)
  · replace hv := hv.1 q
    obtain ⟨rfl, rfl⟩ := hv
    exact wp_return dX12_seeSums_99 rfl rfl hq
  · replace hv := hv.2 q
    refine wp_aload_n (i := 0) dX12_seeSums_57 rfl rfl ?_
    refine wp_dupR dX12_seeSums_58 ?_
    refine wz_getI dX12_seeSums_59 (k57 hK) (f12_216 _ (by decide)) rfl ?_
    refine wp_iconst (v := 1) dX12_seeSums_62 (by decide) ?_
    refine wp_iadd dX12_seeSums_63 ?_
    refine wz_putI dX12_seeSums_64 (k57 hK) (w12_216 _ (by decide)) rfl ?_
    refine wp_aload_n (i := 0) dX12_seeSums_67 rfl rfl ?_
    refine wp_dupR dX12_seeSums_68 ?_
    refine wz_getIe (v := (V 57 31)) dX12_seeSums_69 (k57 hK) (f12_222 _ (by decide)) rfl (up2_k (by decide)) ?_
    refine wp_aload_n (i := 0) dX12_seeSums_72 rfl rfl ?_
    refine wp_iload_n (i := 2) dX12_seeSums_73 rfl rfl ?_
    refine wp_aload_n (i := 0) dX12_seeSums_74 rfl rfl ?_
    refine wz_getR (b := 72) dX12_seeSums_75 (k57 hK) (f12_53 _ (by decide)) rfl ?_
    refine wp_bipush (v := 80) dX12_seeSums_78 (by decide) ?_
    refine wp_iload_n (i := 2) dX12_seeSums_80 rfl rfl ?_
    refine wp_imul dX12_seeSums_81 ?_
    refine wp_iload dX12_seeSums_82 rfl ?_
    refine wp_iadd dX12_seeSums_84 ?_
    obtain ⟨z1, hv⟩ := hv
    refine wz_ialoade (v := (V 72 ((((80 : Int32) * x2) + x5)).toNatClampNeg)) dX12_seeSums_85 (k72 hK) z1 (up2_a (by decide)) ?_
    obtain ⟨v2, hE, hv⟩ := hv
    refine wz_callV (vs := [.int x2, .int (V 72 ((((80 : Int32) * x2) + x5)).toNatClampNeg)]) (st := [.int (V 57 31), .ref 57]) dX12_seeSums_86 (k57 hK) rfl k12_244_12 hE rfl (Nat.le_of_ble_eq_true rfl) (Nat.le_of_ble_eq_true rfl) ?_
    change wp _ _ _ _ _ [.int v2, .int (V 57 31), .ref 57] _ _ _
    refine wp_iadd dX12_seeSums_89 ?_
    refine wz_putI dX12_seeSums_90 (k57 hK) (w12_222 _ (by decide)) rfl ?_
    refine wx_iinc (v := 1) (ls' := [(0, .ref 57), (1, .int x1), (2, .int x2), (3, .int x3), (4, .int x4), (5, .int (x5 + 1))]) dX12_seeSums_93 rfl (by decide) (by decide) rfl ?_
    refine wp_goto 50 dX12_seeSums_96 (by decide) ?_
    exact hv Q hq
theorem wX12_bucketOf_0 {x1 : Int32} {x2 : Int32} (hK : StK K)  (hv : Ev G (d + 1) mX12_bucketOf 5 [(0, .ref 57), (1, .int x1), (2, .int x2), (3, .int ((16 : Int32) * x1))] (K, n, V, J, O) r (K, n, V, J, O)) : Ev G (d + 1) mX12_bucketOf 0 [(0, .ref 57), (1, .int x1), (2, .int x2)] (K, n, V, J, O) r (K, n, V, J, O) := by
  refine Ev.mk fun Q hq => ?_
  refine wp_bipush (v := 16) dX12_bucketOf_0 (by decide) ?_
  refine wp_iload_n (i := 1) dX12_bucketOf_2 rfl rfl ?_
  refine wp_imul dX12_bucketOf_3 ?_
  refine wx_istore_n (ls' := [(0, .ref 57), (1, .int x1), (2, .int x2), (3, .int ((16 : Int32) * x1))]) (i := 3) dX12_bucketOf_4 rfl (by decide) rfl ?_
  exact hv Q hq
theorem wX12_bucketOf_5 {x1 : Int32} {x2 : Int32} {x3 : Int32} (hK : StK K)  (hv : (vp_in x1 10 ∧ (((((16 : Int32) * x1) + (V 66 (x1).toNatClampNeg)) ≤ x3 → r = some (.int (-1 : Int32))) ∧ (¬ (((16 : Int32) * x1) + (V 66 (x1).toNatClampNeg)) ≤ x3 → (∃ (v2 : Int32), Ev G d mX12_isAbout 0 [(0, .ref 57), (1, .int x3), (2, .int x2)] (K, n, V, J, O) (some (.int v2)) (K, n, V, J, O) ∧ ((v2 = 0 → Ev G (d + 1) mX12_bucketOf 5 [(0, .ref 57), (1, .int x1), (2, .int x2), (3, .int (x3 + 1))] (K, n, V, J, O) r (K, n, V, J, O)) ∧ (¬ v2 = 0 → (vp_in x3 160 ∧ (((V 64 (x3).toNatClampNeg) ≠ (61 : Int32) → Ev G (d + 1) mX12_bucketOf 5 [(0, .ref 57), (1, .int x1), (2, .int x2), (3, .int (x3 + 1))] (K, n, V, J, O) r (K, n, V, J, O)) ∧ ((V 64 (x3).toNatClampNeg) = (61 : Int32) → (∃ (v4 : Int32), Ev G d mX12_valueOf 0 [(0, .ref 57), (1, .int x3)] (K, n, V, J, O) (some (.int v4)) (K, n, V, J, O) ∧ r = some (.int (v4 - v4 / (8 : Int32) * (8 : Int32)))))))))))))) : Ev G (d + 1) mX12_bucketOf 5 [(0, .ref 57), (1, .int x1), (2, .int x2), (3, .int x3)] (K, n, V, J, O) r (K, n, V, J, O) := by
  refine Ev.mk fun Q hq => ?_
  refine wp_iload_n (i := 3) dX12_bucketOf_5 rfl rfl ?_
  refine wp_bipush (v := 16) dX12_bucketOf_6 (by decide) ?_
  refine wp_iload_n (i := 1) dX12_bucketOf_8 rfl rfl ?_
  refine wp_imul dX12_bucketOf_9 ?_
  refine wp_aload_n (i := 0) dX12_bucketOf_10 rfl rfl ?_
  refine wz_getR (b := 66) dX12_bucketOf_11 (k57 hK) (f12_35 _ (by decide)) rfl ?_
  refine wp_iload_n (i := 1) dX12_bucketOf_14 rfl rfl ?_
  obtain ⟨z1, hv⟩ := hv
  refine wz_iaload dX12_bucketOf_15 (k66 hK) z1 ?_
  refine wp_iadd dX12_bucketOf_16 ?_
  refine wp_icmp_ge 55 dX12_bucketOf_17 (by decide) (fun q => ?_) (fun q => ?_)
  · replace hv := hv.1 q
    refine wp_iconst (v := -1) dX12_bucketOf_55 (by decide) ?_
    obtain rfl := hv
    exact wp_ireturn dX12_bucketOf_56 rfl rfl rfl hq
  · replace hv := hv.2 q
    refine wp_aload_n (i := 0) dX12_bucketOf_20 rfl rfl ?_
    refine wp_iload_n (i := 3) dX12_bucketOf_21 rfl rfl ?_
    refine wp_iload_n (i := 2) dX12_bucketOf_22 rfl rfl ?_
    obtain ⟨v2, hE, hv⟩ := hv
    refine wz_callV (vs := [.int x3, .int x2]) (st := []) dX12_bucketOf_23 (k57 hK) rfl k12_311_12 hE rfl (Nat.le_of_ble_eq_true rfl) (Nat.le_of_ble_eq_true rfl) ?_
    change wp _ _ _ _ _ [.int v2] _ _ _
    refine wp_if_eq 49 dX12_bucketOf_26 (by decide) (fun q => ?_) (fun q => ?_)
    · replace hv := hv.1 q
      refine wx_iinc (v := 1) (ls' := [(0, .ref 57), (1, .int x1), (2, .int x2), (3, .int (x3 + 1))]) dX12_bucketOf_49 rfl (by decide) (by decide) rfl ?_
      refine wp_goto 5 dX12_bucketOf_52 (by decide) ?_
      exact hv Q hq
    · replace hv := hv.2 q
      refine wp_aload_n (i := 0) dX12_bucketOf_29 rfl rfl ?_
      refine wz_getR (b := 64) dX12_bucketOf_30 (k57 hK) (f12_29 _ (by decide)) rfl ?_
      refine wp_iload_n (i := 3) dX12_bucketOf_33 rfl rfl ?_
      obtain ⟨z3, hv⟩ := hv
      refine wz_iaload dX12_bucketOf_34 (k64 hK) z3 ?_
      refine wp_bipush (v := 61) dX12_bucketOf_35 (by decide) ?_
      refine wp_icmp_ne 49 dX12_bucketOf_37 (by decide) (fun q => ?_) (fun q => ?_)
      · replace hv := hv.1 q
        refine wx_iinc (v := 1) (ls' := [(0, .ref 57), (1, .int x1), (2, .int x2), (3, .int (x3 + 1))]) dX12_bucketOf_49 rfl (by decide) (by decide) rfl ?_
        refine wp_goto 5 dX12_bucketOf_52 (by decide) ?_
        exact hv Q hq
      · replace hv := hv.2 q
        refine wp_aload_n (i := 0) dX12_bucketOf_40 rfl rfl ?_
        refine wp_iload_n (i := 3) dX12_bucketOf_41 rfl rfl ?_
        obtain ⟨v4, hE, hv⟩ := hv
        refine wz_callV (vs := [.int x3]) (st := []) dX12_bucketOf_42 (k57 hK) rfl k12_213_12 hE rfl (Nat.le_of_ble_eq_true rfl) (Nat.le_of_ble_eq_true rfl) ?_
        change wp _ _ _ _ _ [.int v4] _ _ _
        refine wp_bipush (v := 8) dX12_bucketOf_45 (by decide) ?_
        refine wp_irem dX12_bucketOf_47 (by decide) ?_
        obtain rfl := hv
        exact wp_ireturn dX12_bucketOf_48 rfl rfl rfl hq
theorem wX12_seeTable_0 {x1 : Int32} {x2 : Int32} (hK : StK K)  (hv : (∃ (v1 : Int32), Ev G d mX12_bucketOf 0 [(0, .ref 57), (1, .int x1), (2, .int x2)] (K, n, V, J, O) (some (.int v1)) (K, n, V, J, O) ∧ Ev G (d + 1) mX12_seeTable 10 [(0, .ref 57), (1, .int x1), (2, .int x2), (3, .int v1), (4, .int (0 : Int32))] (K, n, V, J, O) r (K, n, V', J, O))) : Ev G (d + 1) mX12_seeTable 0 [(0, .ref 57), (1, .int x1), (2, .int x2)] (K, n, V, J, O) r (K, n, V', J, O) := by
  refine Ev.mk fun Q hq => ?_
  refine wp_aload_n (i := 0) dX12_seeTable_0 rfl rfl ?_
  refine wp_iload_n (i := 1) dX12_seeTable_1 rfl rfl ?_
  refine wp_iload_n (i := 2) dX12_seeTable_2 rfl rfl ?_
  obtain ⟨v1, hE, hv⟩ := hv
  refine wz_callV (vs := [.int x1, .int x2]) (st := []) dX12_seeTable_3 (k57 hK) rfl k12_323_12 hE rfl (Nat.le_of_ble_eq_true rfl) (Nat.le_of_ble_eq_true rfl) ?_
  change wp _ _ _ _ _ [.int v1] _ _ _
  refine wx_istore_n (ls' := [(0, .ref 57), (1, .int x1), (2, .int x2), (3, .int v1)]) (i := 3) dX12_seeTable_6 rfl (by decide) rfl ?_
  refine wp_iconst (v := 0) dX12_seeTable_7 (by decide) ?_
  refine wx_istore (ls' := [(0, .ref 57), (1, .int x1), (2, .int x2), (3, .int v1), (4, .int (0 : Int32))]) dX12_seeTable_8 (by decide) rfl ?_
  exact hv Q hq
theorem wX12_seeTable_10 {x1 : Int32} {x2 : Int32} {x3 : Int32} {x4 : Int32} (hK : StK K)  (hv : (vp_in x2 10 ∧ (((V 73 (x2).toNatClampNeg) ≤ x4 → (r = none ∧ V' = V)) ∧ (¬ (V 73 (x2).toNatClampNeg) ≤ x4 → (vp_in (((80 : Int32) * x2) + x4) 800 ∧ ((x3 < 0 → (∃ (V3 : SV), Ev G d mX12_see 0 [(0, .ref 57), (1, .int x1), (2, .int (V 72 ((((80 : Int32) * x2) + x4)).toNatClampNeg))] (K, n, (up2 V 57 33 ((V 57 33) + (1 : Int32))), J, O) none (K, n, V3, J, O) ∧ Ev G (d + 1) mX12_seeTable 10 [(0, .ref 57), (1, .int x1), (2, .int x2), (3, .int x3), (4, .int (x4 + 1))] (K, n, V3, J, O) r (K, n, V', J, O))) ∧ (¬ x3 < 0 → (∃ (v4 : Int32), Ev G d mX12_keyIn 0 [(0, .ref 57), (1, .int x2), (2, .int (V 72 ((((80 : Int32) * x2) + x4)).toNatClampNeg))] (K, n, V, J, O) (some (.int v4)) (K, n, V, J, O) ∧ (((v4 - v4 / (8 : Int32) * (8 : Int32)) ≠ x3 → Ev G (d + 1) mX12_seeTable 10 [(0, .ref 57), (1, .int x1), (2, .int x2), (3, .int x3), (4, .int (x4 + 1))] (K, n, V, J, O) r (K, n, V', J, O)) ∧ ((v4 - v4 / (8 : Int32) * (8 : Int32)) = x3 → (∃ (V5 : SV), Ev G d mX12_see 0 [(0, .ref 57), (1, .int x1), (2, .int (V 72 ((((80 : Int32) * x2) + x4)).toNatClampNeg))] (K, n, (up2 V 57 33 ((V 57 33) + (1 : Int32))), J, O) none (K, n, V5, J, O) ∧ Ev G (d + 1) mX12_seeTable 10 [(0, .ref 57), (1, .int x1), (2, .int x2), (3, .int x3), (4, .int (x4 + 1))] (K, n, V5, J, O) r (K, n, V', J, O)))))))))))) : Ev G (d + 1) mX12_seeTable 10 [(0, .ref 57), (1, .int x1), (2, .int x2), (3, .int x3), (4, .int x4)] (K, n, V, J, O) r (K, n, V', J, O) := by
  refine Ev.mk fun Q hq => ?_
  refine wp_iload dX12_seeTable_10 rfl ?_
  refine wp_aload_n (i := 0) dX12_seeTable_12 rfl rfl ?_
  refine wz_getR (b := 73) dX12_seeTable_13 (k57 hK) (f12_56 _ (by decide)) rfl ?_
  refine wp_iload_n (i := 2) dX12_seeTable_16 rfl rfl ?_
  obtain ⟨z1, hv⟩ := hv
  refine wz_iaload dX12_seeTable_17 (k73 hK) z1 ?_
  refine wp_icmp_ge 76 dX12_seeTable_18 (by decide) (fun q => ?_) (fun q => ?_)
  · replace hv := hv.1 q
    obtain ⟨rfl, rfl⟩ := hv
    exact wp_return dX12_seeTable_76 rfl rfl hq
  · replace hv := hv.2 q
    refine wp_aload_n (i := 0) dX12_seeTable_21 rfl rfl ?_
    refine wz_getR (b := 72) dX12_seeTable_22 (k57 hK) (f12_53 _ (by decide)) rfl ?_
    refine wp_bipush (v := 80) dX12_seeTable_25 (by decide) ?_
    refine wp_iload_n (i := 2) dX12_seeTable_27 rfl rfl ?_
    refine wp_imul dX12_seeTable_28 ?_
    refine wp_iload dX12_seeTable_29 rfl ?_
    refine wp_iadd dX12_seeTable_31 ?_
    obtain ⟨z2, hv⟩ := hv
    refine wz_iaload dX12_seeTable_32 (k72 hK) z2 ?_
    refine wx_istore (ls' := [(0, .ref 57), (1, .int x1), (2, .int x2), (3, .int x3), (4, .int x4), (5, .int (V 72 ((((80 : Int32) * x2) + x4)).toNatClampNeg))]) dX12_seeTable_33 (by decide) rfl ?_
    refine wp_iload_n (i := 3) dX12_seeTable_35 rfl rfl ?_
    refine wp_if_lt 53 dX12_seeTable_36 (by decide) (fun q => ?_) (fun q => ?_)
    · replace hv := hv.1 q
      refine wp_aload_n (i := 0) dX12_seeTable_53 rfl rfl ?_
      refine wp_dupR dX12_seeTable_54 ?_
      refine wz_getI dX12_seeTable_55 (k57 hK) (f12_225 _ (by decide)) rfl ?_
      refine wp_iconst (v := 1) dX12_seeTable_58 (by decide) ?_
      refine wp_iadd dX12_seeTable_59 ?_
      refine wz_putI dX12_seeTable_60 (k57 hK) (w12_225 _ (by decide)) rfl ?_
      refine wp_aload_n (i := 0) dX12_seeTable_63 rfl rfl ?_
      refine wp_iload_n (i := 1) dX12_seeTable_64 rfl rfl ?_
      refine wp_iload dX12_seeTable_65 rfl ?_
      obtain ⟨V3, hE, hv⟩ := hv
      refine wz_callV (vs := [.int x1, .int (V 72 ((((80 : Int32) * x2) + x4)).toNatClampNeg)]) (st := []) dX12_seeTable_67 (k57 hK) rfl k12_234_12 hE rfl (Nat.le_of_ble_eq_true rfl) (Nat.le_of_ble_eq_true rfl) ?_
      change wp _ _ _ _ _ [] _ _ _
      refine wx_iinc (v := 1) (ls' := [(0, .ref 57), (1, .int x1), (2, .int x2), (3, .int x3), (4, .int (x4 + 1)), (5, .int (V 72 ((((80 : Int32) * x2) + x4)).toNatClampNeg))]) dX12_seeTable_70 rfl (by decide) (by decide) rfl ?_
      refine wp_goto 10 dX12_seeTable_73 (by decide) ?_
      refine wx_sub (ls' := [(0, .ref 57), (1, .int x1), (2, .int x2), (3, .int x3), (4, .int (x4 + 1))]) [0, 1, 2, 3, 4] rfl ?_
      exact hv Q hq
    · replace hv := hv.2 q
      refine wp_aload_n (i := 0) dX12_seeTable_39 rfl rfl ?_
      refine wp_iload_n (i := 2) dX12_seeTable_40 rfl rfl ?_
      refine wp_iload dX12_seeTable_41 rfl ?_
      obtain ⟨v4, hE, hv⟩ := hv
      refine wz_callV (vs := [.int x2, .int (V 72 ((((80 : Int32) * x2) + x4)).toNatClampNeg)]) (st := []) dX12_seeTable_43 (k57 hK) rfl k12_244_12 hE rfl (Nat.le_of_ble_eq_true rfl) (Nat.le_of_ble_eq_true rfl) ?_
      change wp _ _ _ _ _ [.int v4] _ _ _
      refine wp_bipush (v := 8) dX12_seeTable_46 (by decide) ?_
      refine wp_irem dX12_seeTable_48 (by decide) ?_
      refine wp_iload_n (i := 3) dX12_seeTable_49 rfl rfl ?_
      refine wp_icmp_ne 70 dX12_seeTable_50 (by decide) (fun q => ?_) (fun q => ?_)
      · replace hv := hv.1 q
        refine wx_iinc (v := 1) (ls' := [(0, .ref 57), (1, .int x1), (2, .int x2), (3, .int x3), (4, .int (x4 + 1)), (5, .int (V 72 ((((80 : Int32) * x2) + x4)).toNatClampNeg))]) dX12_seeTable_70 rfl (by decide) (by decide) rfl ?_
        refine wp_goto 10 dX12_seeTable_73 (by decide) ?_
        refine wx_sub (ls' := [(0, .ref 57), (1, .int x1), (2, .int x2), (3, .int x3), (4, .int (x4 + 1))]) [0, 1, 2, 3, 4] rfl ?_
        exact hv Q hq
      · replace hv := hv.2 q
        refine wp_aload_n (i := 0) dX12_seeTable_53 rfl rfl ?_
        refine wp_dupR dX12_seeTable_54 ?_
        refine wz_getI dX12_seeTable_55 (k57 hK) (f12_225 _ (by decide)) rfl ?_
        refine wp_iconst (v := 1) dX12_seeTable_58 (by decide) ?_
        refine wp_iadd dX12_seeTable_59 ?_
        refine wz_putI dX12_seeTable_60 (k57 hK) (w12_225 _ (by decide)) rfl ?_
        refine wp_aload_n (i := 0) dX12_seeTable_63 rfl rfl ?_
        refine wp_iload_n (i := 1) dX12_seeTable_64 rfl rfl ?_
        refine wp_iload dX12_seeTable_65 rfl ?_
        obtain ⟨V5, hE, hv⟩ := hv
        refine wz_callV (vs := [.int x1, .int (V 72 ((((80 : Int32) * x2) + x4)).toNatClampNeg)]) (st := []) dX12_seeTable_67 (k57 hK) rfl k12_234_12 hE rfl (Nat.le_of_ble_eq_true rfl) (Nat.le_of_ble_eq_true rfl) ?_
        change wp _ _ _ _ _ [] _ _ _
        refine wx_iinc (v := 1) (ls' := [(0, .ref 57), (1, .int x1), (2, .int x2), (3, .int x3), (4, .int (x4 + 1)), (5, .int (V 72 ((((80 : Int32) * x2) + x4)).toNatClampNeg))]) dX12_seeTable_70 rfl (by decide) (by decide) rfl ?_
        refine wp_goto 10 dX12_seeTable_73 (by decide) ?_
        refine wx_sub (ls' := [(0, .ref 57), (1, .int x1), (2, .int x2), (3, .int x3), (4, .int (x4 + 1))]) [0, 1, 2, 3, 4] rfl ?_
        exact hv Q hq
theorem wX12_seeTree_0 {x1 : Int32} {x2 : Int32} {x3 : Int32} (hK : StK K)  (hv : ((0 ≤ x3 → (∃ (v1 : Int32), Ev G d mX12_keyIn 0 [(0, .ref 57), (1, .int x2), (2, .int x3)] (K, n, (up2 V 57 33 ((V 57 33) + (1 : Int32))), J, O) (some (.int v1)) (K, n, (up2 V 57 33 ((V 57 33) + (1 : Int32))), J, O) ∧ (∃ (v2 : Int32), Ev G d mX12_leastOf 0 [(0, .ref 57), (1, .int x1), (2, .int x2)] (K, n, (up2 V 57 33 ((V 57 33) + (1 : Int32))), J, O) (some (.int v2)) (K, n, (up2 V 57 33 ((V 57 33) + (1 : Int32))), J, O) ∧ ((v1 < v2 → Ev G (d + 1) mX12_seeTree 51 [(0, .ref 57), (1, .int x1), (2, .int x2), (3, .int x3), (4, .int v1)] (K, n, (up2 V 57 33 ((V 57 33) + (1 : Int32))), J, O) r (K, n, V', J, O)) ∧ (¬ v1 < v2 → (vp_in (((80 : Int32) * x2) + x3) 800 ∧ (∃ (V4 : SV), Ev G d mX12_seeTree 0 [(0, .ref 57), (1, .int x1), (2, .int x2), (3, .int (V 74 ((((80 : Int32) * x2) + x3)).toNatClampNeg))] (K, n, (up2 V 57 33 ((V 57 33) + (1 : Int32))), J, O) none (K, n, V4, J, O) ∧ Ev G (d + 1) mX12_seeTree 51 [(0, .ref 57), (1, .int x1), (2, .int x2), (3, .int x3), (4, .int v1)] (K, n, V4, J, O) r (K, n, V', J, O)))))))) ∧ (¬ 0 ≤ x3 → (r = none ∧ V' = V)))) : Ev G (d + 1) mX12_seeTree 0 [(0, .ref 57), (1, .int x1), (2, .int x2), (3, .int x3)] (K, n, V, J, O) r (K, n, V', J, O) := by
  refine Ev.mk fun Q hq => ?_
  refine wp_iload_n (i := 3) dX12_seeTree_0 rfl rfl ?_
  refine wp_if_ge 5 dX12_seeTree_1 (by decide) (fun q => ?_) (fun q => ?_)
  · replace hv := hv.1 q
    refine wp_aload_n (i := 0) dX12_seeTree_5 rfl rfl ?_
    refine wp_dupR dX12_seeTree_6 ?_
    refine wz_getI dX12_seeTree_7 (k57 hK) (f12_225 _ (by decide)) rfl ?_
    refine wp_iconst (v := 1) dX12_seeTree_10 (by decide) ?_
    refine wp_iadd dX12_seeTree_11 ?_
    refine wz_putI dX12_seeTree_12 (k57 hK) (w12_225 _ (by decide)) rfl ?_
    refine wp_aload_n (i := 0) dX12_seeTree_15 rfl rfl ?_
    refine wp_iload_n (i := 2) dX12_seeTree_16 rfl rfl ?_
    refine wp_iload_n (i := 3) dX12_seeTree_17 rfl rfl ?_
    obtain ⟨v1, hE, hv⟩ := hv
    refine wz_callV (vs := [.int x2, .int x3]) (st := []) dX12_seeTree_18 (k57 hK) rfl k12_244_12 hE rfl (Nat.le_of_ble_eq_true rfl) (Nat.le_of_ble_eq_true rfl) ?_
    change wp _ _ _ _ _ [.int v1] _ _ _
    refine wx_istore (ls' := [(0, .ref 57), (1, .int x1), (2, .int x2), (3, .int x3), (4, .int v1)]) dX12_seeTree_21 (by decide) rfl ?_
    refine wp_iload dX12_seeTree_23 rfl ?_
    refine wp_aload_n (i := 0) dX12_seeTree_25 rfl rfl ?_
    refine wp_iload_n (i := 1) dX12_seeTree_26 rfl rfl ?_
    refine wp_iload_n (i := 2) dX12_seeTree_27 rfl rfl ?_
    obtain ⟨v2, hE, hv⟩ := hv
    refine wz_callV (vs := [.int x1, .int x2]) (st := [.int v1]) dX12_seeTree_28 (k57 hK) rfl k12_317_12 hE rfl (Nat.le_of_ble_eq_true rfl) (Nat.le_of_ble_eq_true rfl) ?_
    change wp _ _ _ _ _ [.int v2, .int v1] _ _ _
    refine wp_icmp_lt 51 dX12_seeTree_31 (by decide) (fun q => ?_) (fun q => ?_)
    · replace hv := hv.1 q
      exact hv Q hq
    · replace hv := hv.2 q
      refine wp_aload_n (i := 0) dX12_seeTree_34 rfl rfl ?_
      refine wp_iload_n (i := 1) dX12_seeTree_35 rfl rfl ?_
      refine wp_iload_n (i := 2) dX12_seeTree_36 rfl rfl ?_
      refine wp_aload_n (i := 0) dX12_seeTree_37 rfl rfl ?_
      refine wz_getR (b := 74) dX12_seeTree_38 (k57 hK) (f12_59 _ (by decide)) rfl ?_
      refine wp_bipush (v := 80) dX12_seeTree_41 (by decide) ?_
      refine wp_iload_n (i := 2) dX12_seeTree_43 rfl rfl ?_
      refine wp_imul dX12_seeTree_44 ?_
      refine wp_iload_n (i := 3) dX12_seeTree_45 rfl rfl ?_
      refine wp_iadd dX12_seeTree_46 ?_
      obtain ⟨z3, hv⟩ := hv
      refine wz_ialoade (v := (V 74 ((((80 : Int32) * x2) + x3)).toNatClampNeg)) dX12_seeTree_47 (k74 hK) z3 (up2_a (by decide)) ?_
      obtain ⟨V4, hE, hv⟩ := hv
      refine wz_callV (vs := [.int x1, .int x2, .int (V 74 ((((80 : Int32) * x2) + x3)).toNatClampNeg)]) (st := []) dX12_seeTree_48 (k57 hK) rfl k12_326_12 hE rfl (Nat.le_of_ble_eq_true rfl) (Nat.le_of_ble_eq_true rfl) ?_
      change wp _ _ _ _ _ [] _ _ _
      exact hv Q hq
  · replace hv := hv.2 q
    obtain ⟨rfl, rfl⟩ := hv
    exact wp_return dX12_seeTree_4 rfl rfl hq
theorem wX12_seeTree_51 {x1 : Int32} {x2 : Int32} {x3 : Int32} {x4 : Int32} (hK : StK K)  (hv : (∃ (v1 : Int32), Ev G d mX12_leastOf 0 [(0, .ref 57), (1, .int x1), (2, .int x2)] (K, n, V, J, O) (some (.int v1)) (K, n, V, J, O) ∧ (∃ (v2 : Int32), Ev G d mX12_mostOf 0 [(0, .ref 57), (1, .int x1), (2, .int x2)] (K, n, V, J, O) (some (.int v2)) (K, n, V, J, O) ∧ (∃ (v3 : Int32), Ev G d mX12_within 0 [(0, .long x4.toInt64), (2, .long v1.toInt64), (4, .long v2.toInt64)] (K, n, V, J, O) (some (.int v3)) (K, n, V, J, O) ∧ ((v3 = 0 → Ev G (d + 1) mX12_seeTree 80 [(0, .ref 57), (1, .int x1), (2, .int x2), (3, .int x3), (4, .int x4)] (K, n, V, J, O) r (K, n, V', J, O)) ∧ (¬ v3 = 0 → (∃ (V4 : SV), Ev G d mX12_see 0 [(0, .ref 57), (1, .int x1), (2, .int x3)] (K, n, V, J, O) none (K, n, V4, J, O) ∧ Ev G (d + 1) mX12_seeTree 80 [(0, .ref 57), (1, .int x1), (2, .int x2), (3, .int x3), (4, .int x4)] (K, n, V4, J, O) r (K, n, V', J, O)))))))) : Ev G (d + 1) mX12_seeTree 51 [(0, .ref 57), (1, .int x1), (2, .int x2), (3, .int x3), (4, .int x4)] (K, n, V, J, O) r (K, n, V', J, O) := by
  refine Ev.mk fun Q hq => ?_
  refine wp_iload dX12_seeTree_51 rfl ?_
  refine wp_i2l dX12_seeTree_53 ?_
  refine wp_aload_n (i := 0) dX12_seeTree_54 rfl rfl ?_
  refine wp_iload_n (i := 1) dX12_seeTree_55 rfl rfl ?_
  refine wp_iload_n (i := 2) dX12_seeTree_56 rfl rfl ?_
  obtain ⟨v1, hE, hv⟩ := hv
  refine wz_callV (vs := [.int x1, .int x2]) (st := [.long x4.toInt64]) dX12_seeTree_57 (k57 hK) rfl k12_317_12 hE rfl (Nat.le_of_ble_eq_true rfl) (Nat.le_of_ble_eq_true rfl) ?_
  change wp _ _ _ _ _ [.int v1, .long x4.toInt64] _ _ _
  refine wp_i2l dX12_seeTree_60 ?_
  refine wp_aload_n (i := 0) dX12_seeTree_61 rfl rfl ?_
  refine wp_iload_n (i := 1) dX12_seeTree_62 rfl rfl ?_
  refine wp_iload_n (i := 2) dX12_seeTree_63 rfl rfl ?_
  obtain ⟨v2, hE, hv⟩ := hv
  refine wz_callV (vs := [.int x1, .int x2]) (st := [.long v1.toInt64, .long x4.toInt64]) dX12_seeTree_64 (k57 hK) rfl k12_320_12 hE rfl (Nat.le_of_ble_eq_true rfl) (Nat.le_of_ble_eq_true rfl) ?_
  change wp _ _ _ _ _ [.int v2, .long v1.toInt64, .long x4.toInt64] _ _ _
  refine wp_i2l dX12_seeTree_67 ?_
  obtain ⟨v3, hE, hv⟩ := hv
  refine wz_callS (vs := [.long x4.toInt64, .long v1.toInt64, .long v2.toInt64]) (st := []) dX12_seeTree_68 k12_135 hE rfl (Nat.le_of_ble_eq_true rfl) (Nat.le_of_ble_eq_true rfl) ?_
  change wp _ _ _ _ _ [.int v3] _ _ _
  refine wp_if_eq 80 dX12_seeTree_71 (by decide) (fun q => ?_) (fun q => ?_)
  · replace hv := hv.1 q
    exact hv Q hq
  · replace hv := hv.2 q
    refine wp_aload_n (i := 0) dX12_seeTree_74 rfl rfl ?_
    refine wp_iload_n (i := 1) dX12_seeTree_75 rfl rfl ?_
    refine wp_iload_n (i := 3) dX12_seeTree_76 rfl rfl ?_
    obtain ⟨V4, hE, hv⟩ := hv
    refine wz_callV (vs := [.int x1, .int x3]) (st := []) dX12_seeTree_77 (k57 hK) rfl k12_234_12 hE rfl (Nat.le_of_ble_eq_true rfl) (Nat.le_of_ble_eq_true rfl) ?_
    change wp _ _ _ _ _ [] _ _ _
    exact hv Q hq
theorem wX12_seeTree_80 {x1 : Int32} {x2 : Int32} {x3 : Int32} {x4 : Int32} (hK : StK K)  (hv : (∃ (v1 : Int32), Ev G d mX12_mostOf 0 [(0, .ref 57), (1, .int x1), (2, .int x2)] (K, n, V, J, O) (some (.int v1)) (K, n, V, J, O) ∧ ((v1 < x4 → (r = none ∧ V' = V)) ∧ (¬ v1 < x4 → (vp_in (((80 : Int32) * x2) + x3) 800 ∧ (∃ (V3 : SV), Ev G d mX12_seeTree 0 [(0, .ref 57), (1, .int x1), (2, .int x2), (3, .int (V 75 ((((80 : Int32) * x2) + x3)).toNatClampNeg))] (K, n, V, J, O) none (K, n, V3, J, O) ∧ (r = none ∧ V' = V3))))))) : Ev G (d + 1) mX12_seeTree 80 [(0, .ref 57), (1, .int x1), (2, .int x2), (3, .int x3), (4, .int x4)] (K, n, V, J, O) r (K, n, V', J, O) := by
  refine Ev.mk fun Q hq => ?_
  refine wp_iload dX12_seeTree_80 rfl ?_
  refine wp_aload_n (i := 0) dX12_seeTree_82 rfl rfl ?_
  refine wp_iload_n (i := 1) dX12_seeTree_83 rfl rfl ?_
  refine wp_iload_n (i := 2) dX12_seeTree_84 rfl rfl ?_
  obtain ⟨v1, hE, hv⟩ := hv
  refine wz_callV (vs := [.int x1, .int x2]) (st := [.int x4]) dX12_seeTree_85 (k57 hK) rfl k12_320_12 hE rfl (Nat.le_of_ble_eq_true rfl) (Nat.le_of_ble_eq_true rfl) ?_
  change wp _ _ _ _ _ [.int v1, .int x4] _ _ _
  refine wp_icmp_gt 108 dX12_seeTree_88 (by decide) (fun q => ?_) (fun q => ?_)
  · replace hv := hv.1 q
    obtain ⟨rfl, rfl⟩ := hv
    exact wp_return dX12_seeTree_108 rfl rfl hq
  · replace hv := hv.2 q
    refine wp_aload_n (i := 0) dX12_seeTree_91 rfl rfl ?_
    refine wp_iload_n (i := 1) dX12_seeTree_92 rfl rfl ?_
    refine wp_iload_n (i := 2) dX12_seeTree_93 rfl rfl ?_
    refine wp_aload_n (i := 0) dX12_seeTree_94 rfl rfl ?_
    refine wz_getR (b := 75) dX12_seeTree_95 (k57 hK) (f12_62 _ (by decide)) rfl ?_
    refine wp_bipush (v := 80) dX12_seeTree_98 (by decide) ?_
    refine wp_iload_n (i := 2) dX12_seeTree_100 rfl rfl ?_
    refine wp_imul dX12_seeTree_101 ?_
    refine wp_iload_n (i := 3) dX12_seeTree_102 rfl rfl ?_
    refine wp_iadd dX12_seeTree_103 ?_
    obtain ⟨z2, hv⟩ := hv
    refine wz_iaload dX12_seeTree_104 (k75 hK) z2 ?_
    obtain ⟨V3, hE, hv⟩ := hv
    refine wz_callV (vs := [.int x1, .int x2, .int (V 75 ((((80 : Int32) * x2) + x3)).toNatClampNeg)]) (st := []) dX12_seeTree_105 (k57 hK) rfl k12_326_12 hE rfl (Nat.le_of_ble_eq_true rfl) (Nat.le_of_ble_eq_true rfl) ?_
    change wp _ _ _ _ _ [] _ _ _
    obtain ⟨rfl, rfl⟩ := hv
    exact wp_return dX12_seeTree_108 rfl rfl hq
theorem wX12_bitsCan_0 {x1 : Int32} {x2 : Int32} (hK : StK K)  (hv : (vp_in x1 10 ∧ (((V 67 (x1).toNatClampNeg) ≠ (110 : Int32) → r = some (.int (0 : Int32))) ∧ ((V 67 (x1).toNatClampNeg) = (110 : Int32) → (vp_in x1 10 ∧ (((V 66 (x1).toNatClampNeg) ≠ (1 : Int32) → r = some (.int (0 : Int32))) ∧ ((V 66 (x1).toNatClampNeg) = (1 : Int32) → (∃ (v3 : Int32), Ev G d mX12_isAbout 0 [(0, .ref 57), (1, .int ((16 : Int32) * x1)), (2, .int x2)] (K, n, V, J, O) (some (.int v3)) (K, n, V, J, O) ∧ ((v3 = 0 → r = some (.int (0 : Int32))) ∧ (¬ v3 = 0 → (vp_in ((16 : Int32) * x1) 160 ∧ (((V 64 (((16 : Int32) * x1)).toNatClampNeg) ≠ (61 : Int32) → r = some (.int (0 : Int32))) ∧ ((V 64 (((16 : Int32) * x1)).toNatClampNeg) = (61 : Int32) → r = some (.int (1 : Int32))))))))))))))) : Ev G (d + 1) mX12_bitsCan 0 [(0, .ref 57), (1, .int x1), (2, .int x2)] (K, n, V, J, O) r (K, n, V, J, O) := by
  refine Ev.mk fun Q hq => ?_
  refine wp_aload_n (i := 0) dX12_bitsCan_0 rfl rfl ?_
  refine wz_getR (b := 67) dX12_bitsCan_1 (k57 hK) (f12_38 _ (by decide)) rfl ?_
  refine wp_iload_n (i := 1) dX12_bitsCan_4 rfl rfl ?_
  obtain ⟨z1, hv⟩ := hv
  refine wz_iaload dX12_bitsCan_5 (k67 hK) z1 ?_
  refine wp_bipush (v := 110) dX12_bitsCan_6 (by decide) ?_
  refine wp_icmp_ne 51 dX12_bitsCan_8 (by decide) (fun q => ?_) (fun q => ?_)
  · replace hv := hv.1 q
    refine wp_iconst (v := 0) dX12_bitsCan_51 (by decide) ?_
    obtain rfl := hv
    exact wp_ireturn dX12_bitsCan_52 rfl (by decide) rfl hq
  · replace hv := hv.2 q
    refine wp_aload_n (i := 0) dX12_bitsCan_11 rfl rfl ?_
    refine wz_getR (b := 66) dX12_bitsCan_12 (k57 hK) (f12_35 _ (by decide)) rfl ?_
    refine wp_iload_n (i := 1) dX12_bitsCan_15 rfl rfl ?_
    obtain ⟨z2, hv⟩ := hv
    refine wz_iaload dX12_bitsCan_16 (k66 hK) z2 ?_
    refine wp_iconst (v := 1) dX12_bitsCan_17 (by decide) ?_
    refine wp_icmp_ne 51 dX12_bitsCan_18 (by decide) (fun q => ?_) (fun q => ?_)
    · replace hv := hv.1 q
      refine wp_iconst (v := 0) dX12_bitsCan_51 (by decide) ?_
      obtain rfl := hv
      exact wp_ireturn dX12_bitsCan_52 rfl (by decide) rfl hq
    · replace hv := hv.2 q
      refine wp_aload_n (i := 0) dX12_bitsCan_21 rfl rfl ?_
      refine wp_bipush (v := 16) dX12_bitsCan_22 (by decide) ?_
      refine wp_iload_n (i := 1) dX12_bitsCan_24 rfl rfl ?_
      refine wp_imul dX12_bitsCan_25 ?_
      refine wp_iload_n (i := 2) dX12_bitsCan_26 rfl rfl ?_
      obtain ⟨v3, hE, hv⟩ := hv
      refine wz_callV (vs := [.int ((16 : Int32) * x1), .int x2]) (st := []) dX12_bitsCan_27 (k57 hK) rfl k12_311_12 hE rfl (Nat.le_of_ble_eq_true rfl) (Nat.le_of_ble_eq_true rfl) ?_
      change wp _ _ _ _ _ [.int v3] _ _ _
      refine wp_if_eq 51 dX12_bitsCan_30 (by decide) (fun q => ?_) (fun q => ?_)
      · replace hv := hv.1 q
        refine wp_iconst (v := 0) dX12_bitsCan_51 (by decide) ?_
        obtain rfl := hv
        exact wp_ireturn dX12_bitsCan_52 rfl (by decide) rfl hq
      · replace hv := hv.2 q
        refine wp_aload_n (i := 0) dX12_bitsCan_33 rfl rfl ?_
        refine wz_getR (b := 64) dX12_bitsCan_34 (k57 hK) (f12_29 _ (by decide)) rfl ?_
        refine wp_bipush (v := 16) dX12_bitsCan_37 (by decide) ?_
        refine wp_iload_n (i := 1) dX12_bitsCan_39 rfl rfl ?_
        refine wp_imul dX12_bitsCan_40 ?_
        obtain ⟨z4, hv⟩ := hv
        refine wz_iaload dX12_bitsCan_41 (k64 hK) z4 ?_
        refine wp_bipush (v := 61) dX12_bitsCan_42 (by decide) ?_
        refine wp_icmp_ne 51 dX12_bitsCan_44 (by decide) (fun q => ?_) (fun q => ?_)
        · replace hv := hv.1 q
          refine wp_iconst (v := 0) dX12_bitsCan_51 (by decide) ?_
          obtain rfl := hv
          exact wp_ireturn dX12_bitsCan_52 rfl (by decide) rfl hq
        · replace hv := hv.2 q
          refine wp_iconst (v := 1) dX12_bitsCan_47 (by decide) ?_
          refine wp_goto 52 dX12_bitsCan_48 (by decide) ?_
          obtain rfl := hv
          exact wp_ireturn dX12_bitsCan_52 rfl (by decide) rfl hq
theorem wX12_can_0 {x1 : Int32} {x2 : Int32} (hK : StK K)  (hv : (vp_in x2 10 ∧ (((V 70 (x2).toNatClampNeg) ≠ (6 : Int32) → (vp_in x2 10 ∧ (((V 70 (x2).toNatClampNeg) = 0 → r = some (.int (0 : Int32))) ∧ (¬ (V 70 (x2).toNatClampNeg) = 0 → r = some (.int (1 : Int32)))))) ∧ ((V 70 (x2).toNatClampNeg) = (6 : Int32) → (∃ (v3 : Int32), Ev G d mX12_bitsCan 0 [(0, .ref 57), (1, .int x1), (2, .int x2)] (K, n, V, J, O) (some (.int v3)) (K, n, V, J, O) ∧ ((v3 = 0 ∨ v3 = 1) ∧ r = some (.int v3))))))) : Ev G (d + 1) mX12_can 0 [(0, .ref 57), (1, .int x1), (2, .int x2)] (K, n, V, J, O) r (K, n, V, J, O) := by
  refine Ev.mk fun Q hq => ?_
  refine wp_aload_n (i := 0) dX12_can_0 rfl rfl ?_
  refine wz_getR (b := 70) dX12_can_1 (k57 hK) (f12_47 _ (by decide)) rfl ?_
  refine wp_iload_n (i := 2) dX12_can_4 rfl rfl ?_
  obtain ⟨z1, hv⟩ := hv
  refine wz_iaload dX12_can_5 (k70 hK) z1 ?_
  refine wp_bipush (v := 6) dX12_can_6 (by decide) ?_
  refine wp_icmp_ne 20 dX12_can_8 (by decide) (fun q => ?_) (fun q => ?_)
  · replace hv := hv.1 q
    refine wp_aload_n (i := 0) dX12_can_20 rfl rfl ?_
    refine wz_getR (b := 70) dX12_can_21 (k57 hK) (f12_47 _ (by decide)) rfl ?_
    refine wp_iload_n (i := 2) dX12_can_24 rfl rfl ?_
    obtain ⟨z2, hv⟩ := hv
    refine wz_iaload dX12_can_25 (k70 hK) z2 ?_
    refine wp_if_eq 33 dX12_can_26 (by decide) (fun q => ?_) (fun q => ?_)
    · replace hv := hv.1 q
      refine wp_iconst (v := 0) dX12_can_33 (by decide) ?_
      obtain rfl := hv
      exact wp_ireturn dX12_can_34 rfl (by decide) rfl hq
    · replace hv := hv.2 q
      refine wp_iconst (v := 1) dX12_can_29 (by decide) ?_
      refine wp_goto 34 dX12_can_30 (by decide) ?_
      obtain rfl := hv
      exact wp_ireturn dX12_can_34 rfl (by decide) rfl hq
  · replace hv := hv.2 q
    refine wp_aload_n (i := 0) dX12_can_11 rfl rfl ?_
    refine wp_iload_n (i := 1) dX12_can_12 rfl rfl ?_
    refine wp_iload_n (i := 2) dX12_can_13 rfl rfl ?_
    obtain ⟨v3, hE, hv⟩ := hv
    refine wz_callV (vs := [.int x1, .int x2]) (st := []) dX12_can_14 (k57 hK) rfl k12_329_12 hE rfl (Nat.le_of_ble_eq_true rfl) (Nat.le_of_ble_eq_true rfl) ?_
    change wp _ _ _ _ _ [.int v3] _ _ _
    refine wp_goto 34 dX12_can_17 (by decide) ?_
    obtain ⟨z, hv⟩ := hv
    obtain rfl := hv
    exact wp_ireturn dX12_can_34 rfl (by rcases z with z | z <;> rw [z] <;> decide) rfl hq
theorem wX12_throughOf_0 {x1 : Int32} {x2 : Int32} {x3 : Int32} {x4 : Int32} (hK : StK K)  (hv : (∃ (V1 : SV), Ev G d mX12_begin 0 [(0, .ref 57), (1, .int x3), (2, .int x4)] (K, n, V, J, O) none (K, n, V1, J, O) ∧ (vp_in x1 10 ∧ (((V1 70 (x1).toNatClampNeg) = (2 : Int32) → (∃ (V3 : SV), Ev G d mX12_seeSorted 0 [(0, .ref 57), (1, .int x2), (2, .int x1)] (K, n, V1, J, O) none (K, n, V3, J, O) ∧ Ev G (d + 1) mX12_throughOf 242 [(0, .ref 57), (1, .int x1), (2, .int x2), (3, .int x3), (4, .int x4)] (K, n, V3, J, O) r (K, n, V', J, O))) ∧ ((V1 70 (x1).toNatClampNeg) = (3 : Int32) → (vp_in x2 10 ∧ (((V1 67 (x2).toNatClampNeg) ≠ (109 : Int32) → Ev G (d + 1) mX12_throughOf 164 [(0, .ref 57), (1, .int x1), (2, .int x2), (3, .int x3), (4, .int x4)] (K, n, V1, J, O) r (K, n, V', J, O)) ∧ ((V1 67 (x2).toNatClampNeg) = (109 : Int32) → (vp_in x2 10 ∧ (vp_in x1 10 ∧ (((V1 68 (x2).toNatClampNeg) ≠ (V1 71 (x1).toNatClampNeg) → Ev G (d + 1) mX12_throughOf 164 [(0, .ref 57), (1, .int x1), (2, .int x2), (3, .int x3), (4, .int x4)] (K, n, V1, J, O) r (K, n, V', J, O)) ∧ ((V1 68 (x2).toNatClampNeg) = (V1 71 (x1).toNatClampNeg) → (vp_in x2 10 ∧ (((V1 66 (x2).toNatClampNeg) ≠ 0 → Ev G (d + 1) mX12_throughOf 164 [(0, .ref 57), (1, .int x1), (2, .int x2), (3, .int x3), (4, .int x4)] (K, n, V1, J, O) r (K, n, V', J, O)) ∧ ((V1 66 (x2).toNatClampNeg) = 0 → (vp_in x1 10 ∧ (((V1 73 (x1).toNatClampNeg) ≤ 0 → (vp_in x1 10 ∧ (((V1 73 (x1).toNatClampNeg) ≤ 0 → (r = some (.int (-1 : Int32)) ∧ V' = (up2 V1 57 33 (0 : Int32)))) ∧ (¬ (V1 73 (x1).toNatClampNeg) ≤ 0 → (vp_in ((80 : Int32) * x1) 800 ∧ (r = some (.int (V1 72 (((80 : Int32) * x1)).toNatClampNeg)) ∧ V' = (up2 V1 57 33 (0 : Int32)))))))) ∧ (¬ (V1 73 (x1).toNatClampNeg) ≤ 0 → (vp_in x1 10 ∧ (((V1 73 (x1).toNatClampNeg) ≤ 0 → (r = some (.int (-1 : Int32)) ∧ V' = (up2 V1 57 33 (1 : Int32)))) ∧ (¬ (V1 73 (x1).toNatClampNeg) ≤ 0 → (vp_in ((80 : Int32) * x1) 800 ∧ (r = some (.int (V1 72 (((80 : Int32) * x1)).toNatClampNeg)) ∧ V' = (up2 V1 57 33 (1 : Int32))))))))))))))))))))) ∧ ((V1 70 (x1).toNatClampNeg) = (4 : Int32) → (∃ (V13 : SV), Ev G d mX12_seeTable 0 [(0, .ref 57), (1, .int x2), (2, .int x1)] (K, n, V1, J, O) none (K, n, V13, J, O) ∧ Ev G (d + 1) mX12_throughOf 242 [(0, .ref 57), (1, .int x1), (2, .int x2), (3, .int x3), (4, .int x4)] (K, n, V13, J, O) r (K, n, V', J, O))) ∧ ((V1 70 (x1).toNatClampNeg) = (5 : Int32) → (vp_in x1 10 ∧ (∃ (V15 : SV), Ev G d mX12_seeTree 0 [(0, .ref 57), (1, .int x2), (2, .int x1), (3, .int (V1 76 (x1).toNatClampNeg))] (K, n, V1, J, O) none (K, n, V15, J, O) ∧ Ev G (d + 1) mX12_throughOf 242 [(0, .ref 57), (1, .int x1), (2, .int x2), (3, .int x3), (4, .int x4)] (K, n, V15, J, O) r (K, n, V', J, O)))) ∧ ((V1 70 (x1).toNatClampNeg) = (6 : Int32) → (∃ (v16 : Int32), Ev G d mX12_valueOf 0 [(0, .ref 57), (1, .int ((16 : Int32) * x2))] (K, n, (up2 V1 57 33 (2 : Int32)), J, O) (some (.int v16)) (K, n, (up2 V1 57 33 (2 : Int32)), J, O) ∧ (∃ (v17 : Int32), Ev G d mX12_bitsOf 0 [(0, .int v16)] (K, n, (up2 V1 57 33 (2 : Int32)), J, O) (some (.int v17)) (K, n, (up2 V1 57 33 (2 : Int32)), J, O) ∧ (vp_in x1 10 ∧ ((((V1 77 (x1).toNatClampNeg) &&& v17) ≠ v17 → (r = some (.int (0 : Int32)) ∧ V' = (up2 V1 57 33 (2 : Int32)))) ∧ (((V1 77 (x1).toNatClampNeg) &&& v17) = v17 → (r = some (.int (-6 : Int32)) ∧ V' = (up2 V1 57 33 (2 : Int32))))))))) ∧ ((V1 70 (x1).toNatClampNeg) = (7 : Int32) → (∃ (v19 : Int32), Ev G d mX12_bySums 0 [(0, .ref 57), (1, .int x2), (2, .int x1)] (K, n, V1, J, O) (some (.int v19)) (K, n, V1, J, O) ∧ ((v19 = 0 → (∃ (V20 : SV), Ev G d mX12_seeSorted 0 [(0, .ref 57), (1, .int x2), (2, .int x1)] (K, n, V1, J, O) none (K, n, V20, J, O) ∧ Ev G (d + 1) mX12_throughOf 242 [(0, .ref 57), (1, .int x1), (2, .int x2), (3, .int x3), (4, .int x4)] (K, n, V20, J, O) r (K, n, V', J, O))) ∧ (¬ v19 = 0 → (∃ (V21 : SV), Ev G d mX12_seeSums 0 [(0, .ref 57), (1, .int x2), (2, .int x1)] (K, n, V1, J, O) none (K, n, V21, J, O) ∧ Ev G (d + 1) mX12_throughOf 242 [(0, .ref 57), (1, .int x1), (2, .int x2), (3, .int x3), (4, .int x4)] (K, n, V21, J, O) r (K, n, V', J, O)))))) ∧ ((¬ (V1 70 (x1).toNatClampNeg) = (2 : Int32) ∧ ¬ (V1 70 (x1).toNatClampNeg) = (3 : Int32) ∧ ¬ (V1 70 (x1).toNatClampNeg) = (4 : Int32) ∧ ¬ (V1 70 (x1).toNatClampNeg) = (5 : Int32) ∧ ¬ (V1 70 (x1).toNatClampNeg) = (6 : Int32) ∧ ¬ (V1 70 (x1).toNatClampNeg) = (7 : Int32)) → (∃ (V22 : SV), Ev G d mX12_seeAll 0 [(0, .ref 57), (1, .int x2), (2, .int x1)] (K, n, V1, J, O) none (K, n, V22, J, O) ∧ Ev G (d + 1) mX12_throughOf 242 [(0, .ref 57), (1, .int x1), (2, .int x2), (3, .int x3), (4, .int x4)] (K, n, V22, J, O) r (K, n, V', J, O))))))) : Ev G (d + 1) mX12_throughOf 0 [(0, .ref 57), (1, .int x1), (2, .int x2), (3, .int x3), (4, .int x4)] (K, n, V, J, O) r (K, n, V', J, O) := by
  refine Ev.mk fun Q hq => ?_
  refine wp_aload_n (i := 0) dX12_throughOf_0 rfl rfl ?_
  refine wp_iload_n (i := 3) dX12_throughOf_1 rfl rfl ?_
  refine wp_iload dX12_throughOf_2 rfl ?_
  obtain ⟨V1, hE, hv⟩ := hv
  refine wz_callV (vs := [.int x3, .int x4]) (st := []) dX12_throughOf_4 (k57 hK) rfl k12_231_12 hE rfl (Nat.le_of_ble_eq_true rfl) (Nat.le_of_ble_eq_true rfl) ?_
  change wp _ _ _ _ _ [] _ _ _
  refine wp_aload_n (i := 0) dX12_throughOf_7 rfl rfl ?_
  refine wz_getR (b := 70) dX12_throughOf_8 (k57 hK) (f12_47 _ (by decide)) rfl ?_
  refine wp_iload_n (i := 1) dX12_throughOf_11 rfl rfl ?_
  obtain ⟨z2, hv⟩ := hv
  refine wz_iaload dX12_throughOf_12 (k70 hK) z2 ?_
  by_cases q0 : (V1 70 (x1).toNatClampNeg) = (2 : Int32)
  · refine wx_tableIn (off := 39) (2 : Int32) q0 52 dX12_throughOf_13 (by decide) (by decide) (by decide +kernel) (by decide) ?_
    replace hv := hv.1 q0
    refine wp_aload_n (i := 0) dX12_throughOf_52 rfl rfl ?_
    refine wp_iload_n (i := 2) dX12_throughOf_53 rfl rfl ?_
    refine wp_iload_n (i := 1) dX12_throughOf_54 rfl rfl ?_
    obtain ⟨V3, hE, hv⟩ := hv
    refine wz_callV (vs := [.int x2, .int x1]) (st := []) dX12_throughOf_55 (k57 hK) rfl k12_332_12 hE rfl (Nat.le_of_ble_eq_true rfl) (Nat.le_of_ble_eq_true rfl) ?_
    change wp _ _ _ _ _ [] _ _ _
    refine wp_goto 242 dX12_throughOf_58 (by decide) ?_
    exact hv Q hq
  by_cases q1 : (V1 70 (x1).toNatClampNeg) = (3 : Int32)
  · refine wx_tableIn (off := 75) (3 : Int32) q1 88 dX12_throughOf_13 (by decide) (by decide) (by decide +kernel) (by decide) ?_
    replace hv := hv.2.1 q1
    refine wp_aload_n (i := 0) dX12_throughOf_88 rfl rfl ?_
    refine wz_getR (b := 67) dX12_throughOf_89 (k57 hK) (f12_38 _ (by decide)) rfl ?_
    refine wp_iload_n (i := 2) dX12_throughOf_92 rfl rfl ?_
    obtain ⟨z4, hv⟩ := hv
    refine wz_iaload dX12_throughOf_93 (k67 hK) z4 ?_
    refine wp_bipush (v := 109) dX12_throughOf_94 (by decide) ?_
    refine wp_icmp_ne 164 dX12_throughOf_96 (by decide) (fun q => ?_) (fun q => ?_)
    · replace hv := hv.1 q
      exact hv Q hq
    · replace hv := hv.2 q
      refine wp_aload_n (i := 0) dX12_throughOf_99 rfl rfl ?_
      refine wz_getR (b := 68) dX12_throughOf_100 (k57 hK) (f12_41 _ (by decide)) rfl ?_
      refine wp_iload_n (i := 2) dX12_throughOf_103 rfl rfl ?_
      obtain ⟨z5, hv⟩ := hv
      refine wz_iaload dX12_throughOf_104 (k68 hK) z5 ?_
      refine wp_aload_n (i := 0) dX12_throughOf_105 rfl rfl ?_
      refine wz_getR (b := 71) dX12_throughOf_106 (k57 hK) (f12_50 _ (by decide)) rfl ?_
      refine wp_iload_n (i := 1) dX12_throughOf_109 rfl rfl ?_
      obtain ⟨z6, hv⟩ := hv
      refine wz_iaload dX12_throughOf_110 (k71 hK) z6 ?_
      refine wp_icmp_ne 164 dX12_throughOf_111 (by decide) (fun q => ?_) (fun q => ?_)
      · replace hv := hv.1 q
        exact hv Q hq
      · replace hv := hv.2 q
        refine wp_aload_n (i := 0) dX12_throughOf_114 rfl rfl ?_
        refine wz_getR (b := 66) dX12_throughOf_115 (k57 hK) (f12_35 _ (by decide)) rfl ?_
        refine wp_iload_n (i := 2) dX12_throughOf_118 rfl rfl ?_
        obtain ⟨z7, hv⟩ := hv
        refine wz_iaload dX12_throughOf_119 (k66 hK) z7 ?_
        refine wp_if_ne 164 dX12_throughOf_120 (by decide) (fun q => ?_) (fun q => ?_)
        · replace hv := hv.1 q
          exact hv Q hq
        · replace hv := hv.2 q
          refine wp_aload_n (i := 0) dX12_throughOf_123 rfl rfl ?_
          refine wp_aload_n (i := 0) dX12_throughOf_124 rfl rfl ?_
          refine wz_getR (b := 73) dX12_throughOf_125 (k57 hK) (f12_56 _ (by decide)) rfl ?_
          refine wp_iload_n (i := 1) dX12_throughOf_128 rfl rfl ?_
          obtain ⟨z8, hv⟩ := hv
          refine wz_iaload dX12_throughOf_129 (k73 hK) z8 ?_
          refine wp_if_le 137 dX12_throughOf_130 (by decide) (fun q => ?_) (fun q => ?_)
          · replace hv := hv.1 q
            refine wp_iconst (v := 0) dX12_throughOf_137 (by decide) ?_
            refine wz_putI dX12_throughOf_138 (k57 hK) (w12_225 _ (by decide)) rfl ?_
            refine wp_aload_n (i := 0) dX12_throughOf_141 rfl rfl ?_
            refine wz_getR (b := 73) dX12_throughOf_142 (k57 hK) (f12_56 _ (by decide)) rfl ?_
            refine wp_iload_n (i := 1) dX12_throughOf_145 rfl rfl ?_
            obtain ⟨z9, hv⟩ := hv
            refine wz_ialoade (v := (V1 73 (x1).toNatClampNeg)) dX12_throughOf_146 (k73 hK) z9 (up2_a (by decide)) ?_
            refine wp_if_le 162 dX12_throughOf_147 (by decide) (fun q => ?_) (fun q => ?_)
            · replace hv := hv.1 q
              refine wp_iconst (v := -1) dX12_throughOf_162 (by decide) ?_
              obtain ⟨rfl, rfl⟩ := hv
              exact wp_ireturn dX12_throughOf_163 rfl rfl rfl hq
            · replace hv := hv.2 q
              refine wp_aload_n (i := 0) dX12_throughOf_150 rfl rfl ?_
              refine wz_getR (b := 72) dX12_throughOf_151 (k57 hK) (f12_53 _ (by decide)) rfl ?_
              refine wp_bipush (v := 80) dX12_throughOf_154 (by decide) ?_
              refine wp_iload_n (i := 1) dX12_throughOf_156 rfl rfl ?_
              refine wp_imul dX12_throughOf_157 ?_
              obtain ⟨z10, hv⟩ := hv
              refine wz_ialoade (v := (V1 72 (((80 : Int32) * x1)).toNatClampNeg)) dX12_throughOf_158 (k72 hK) z10 (up2_a (by decide)) ?_
              refine wp_goto 163 dX12_throughOf_159 (by decide) ?_
              obtain ⟨rfl, rfl⟩ := hv
              exact wp_ireturn dX12_throughOf_163 rfl rfl rfl hq
          · replace hv := hv.2 q
            refine wp_iconst (v := 1) dX12_throughOf_133 (by decide) ?_
            refine wp_goto 138 dX12_throughOf_134 (by decide) ?_
            refine wz_putI dX12_throughOf_138 (k57 hK) (w12_225 _ (by decide)) rfl ?_
            refine wp_aload_n (i := 0) dX12_throughOf_141 rfl rfl ?_
            refine wz_getR (b := 73) dX12_throughOf_142 (k57 hK) (f12_56 _ (by decide)) rfl ?_
            refine wp_iload_n (i := 1) dX12_throughOf_145 rfl rfl ?_
            obtain ⟨z11, hv⟩ := hv
            refine wz_ialoade (v := (V1 73 (x1).toNatClampNeg)) dX12_throughOf_146 (k73 hK) z11 (up2_a (by decide)) ?_
            refine wp_if_le 162 dX12_throughOf_147 (by decide) (fun q => ?_) (fun q => ?_)
            · replace hv := hv.1 q
              refine wp_iconst (v := -1) dX12_throughOf_162 (by decide) ?_
              obtain ⟨rfl, rfl⟩ := hv
              exact wp_ireturn dX12_throughOf_163 rfl rfl rfl hq
            · replace hv := hv.2 q
              refine wp_aload_n (i := 0) dX12_throughOf_150 rfl rfl ?_
              refine wz_getR (b := 72) dX12_throughOf_151 (k57 hK) (f12_53 _ (by decide)) rfl ?_
              refine wp_bipush (v := 80) dX12_throughOf_154 (by decide) ?_
              refine wp_iload_n (i := 1) dX12_throughOf_156 rfl rfl ?_
              refine wp_imul dX12_throughOf_157 ?_
              obtain ⟨z12, hv⟩ := hv
              refine wz_ialoade (v := (V1 72 (((80 : Int32) * x1)).toNatClampNeg)) dX12_throughOf_158 (k72 hK) z12 (up2_a (by decide)) ?_
              refine wp_goto 163 dX12_throughOf_159 (by decide) ?_
              obtain ⟨rfl, rfl⟩ := hv
              exact wp_ireturn dX12_throughOf_163 rfl rfl rfl hq
  by_cases q2 : (V1 70 (x1).toNatClampNeg) = (4 : Int32)
  · refine wx_tableIn (off := 160) (4 : Int32) q2 173 dX12_throughOf_13 (by decide) (by decide) (by decide +kernel) (by decide) ?_
    replace hv := hv.2.2.1 q2
    refine wp_aload_n (i := 0) dX12_throughOf_173 rfl rfl ?_
    refine wp_iload_n (i := 2) dX12_throughOf_174 rfl rfl ?_
    refine wp_iload_n (i := 1) dX12_throughOf_175 rfl rfl ?_
    obtain ⟨V13, hE, hv⟩ := hv
    refine wz_callV (vs := [.int x2, .int x1]) (st := []) dX12_throughOf_176 (k57 hK) rfl k12_344_12 hE rfl (Nat.le_of_ble_eq_true rfl) (Nat.le_of_ble_eq_true rfl) ?_
    change wp _ _ _ _ _ [] _ _ _
    refine wp_goto 242 dX12_throughOf_179 (by decide) ?_
    exact hv Q hq
  by_cases q3 : (V1 70 (x1).toNatClampNeg) = (5 : Int32)
  · refine wx_tableIn (off := 169) (5 : Int32) q3 182 dX12_throughOf_13 (by decide) (by decide) (by decide +kernel) (by decide) ?_
    replace hv := hv.2.2.2.1 q3
    refine wp_aload_n (i := 0) dX12_throughOf_182 rfl rfl ?_
    refine wp_iload_n (i := 2) dX12_throughOf_183 rfl rfl ?_
    refine wp_iload_n (i := 1) dX12_throughOf_184 rfl rfl ?_
    refine wp_aload_n (i := 0) dX12_throughOf_185 rfl rfl ?_
    refine wz_getR (b := 76) dX12_throughOf_186 (k57 hK) (f12_65 _ (by decide)) rfl ?_
    refine wp_iload_n (i := 1) dX12_throughOf_189 rfl rfl ?_
    obtain ⟨z14, hv⟩ := hv
    refine wz_iaload dX12_throughOf_190 (k76 hK) z14 ?_
    obtain ⟨V15, hE, hv⟩ := hv
    refine wz_callV (vs := [.int x2, .int x1, .int (V1 76 (x1).toNatClampNeg)]) (st := []) dX12_throughOf_191 (k57 hK) rfl k12_326_12 hE rfl (Nat.le_of_ble_eq_true rfl) (Nat.le_of_ble_eq_true rfl) ?_
    change wp _ _ _ _ _ [] _ _ _
    refine wp_goto 242 dX12_throughOf_194 (by decide) ?_
    exact hv Q hq
  by_cases q4 : (V1 70 (x1).toNatClampNeg) = (6 : Int32)
  · refine wx_tableIn (off := 184) (6 : Int32) q4 197 dX12_throughOf_13 (by decide) (by decide) (by decide +kernel) (by decide) ?_
    replace hv := hv.2.2.2.2.1 q4
    refine wp_aload_n (i := 0) dX12_throughOf_197 rfl rfl ?_
    refine wp_iconst (v := 2) dX12_throughOf_198 (by decide) ?_
    refine wz_putI dX12_throughOf_199 (k57 hK) (w12_225 _ (by decide)) rfl ?_
    refine wp_aload_n (i := 0) dX12_throughOf_202 rfl rfl ?_
    refine wp_bipush (v := 16) dX12_throughOf_203 (by decide) ?_
    refine wp_iload_n (i := 2) dX12_throughOf_205 rfl rfl ?_
    refine wp_imul dX12_throughOf_206 ?_
    obtain ⟨v16, hE, hv⟩ := hv
    refine wz_callV (vs := [.int ((16 : Int32) * x2)]) (st := []) dX12_throughOf_207 (k57 hK) rfl k12_213_12 hE rfl (Nat.le_of_ble_eq_true rfl) (Nat.le_of_ble_eq_true rfl) ?_
    change wp _ _ _ _ _ [.int v16] _ _ _
    obtain ⟨v17, hE, hv⟩ := hv
    refine wz_callS (vs := [.int v16]) (st := []) dX12_throughOf_210 k12_279 hE rfl (Nat.le_of_ble_eq_true rfl) (Nat.le_of_ble_eq_true rfl) ?_
    change wp _ _ _ _ _ [.int v17] _ _ _
    refine wx_istore (ls' := [(0, .ref 57), (1, .int x1), (2, .int x2), (3, .int x3), (4, .int x4), (5, .int v17)]) dX12_throughOf_213 (by decide) rfl ?_
    refine wp_aload_n (i := 0) dX12_throughOf_215 rfl rfl ?_
    refine wz_getR (b := 77) dX12_throughOf_216 (k57 hK) (f12_68 _ (by decide)) rfl ?_
    refine wp_iload_n (i := 1) dX12_throughOf_219 rfl rfl ?_
    obtain ⟨z18, hv⟩ := hv
    refine wz_ialoade (v := (V1 77 (x1).toNatClampNeg)) dX12_throughOf_220 (k77 hK) z18 (up2_a (by decide)) ?_
    refine wp_iload dX12_throughOf_221 rfl ?_
    refine wp_iand dX12_throughOf_223 ?_
    refine wp_iload dX12_throughOf_224 rfl ?_
    refine wp_icmp_ne 234 dX12_throughOf_226 (by decide) (fun q => ?_) (fun q => ?_)
    · replace hv := hv.1 q
      refine wp_iconst (v := 0) dX12_throughOf_234 (by decide) ?_
      obtain ⟨rfl, rfl⟩ := hv
      exact wp_ireturn dX12_throughOf_235 rfl rfl rfl hq
    · replace hv := hv.2 q
      refine wp_bipush (v := -6) dX12_throughOf_229 (by decide) ?_
      refine wp_goto 235 dX12_throughOf_231 (by decide) ?_
      obtain ⟨rfl, rfl⟩ := hv
      exact wp_ireturn dX12_throughOf_235 rfl rfl rfl hq
  by_cases q5 : (V1 70 (x1).toNatClampNeg) = (7 : Int32)
  · refine wx_tableIn (off := 48) (7 : Int32) q5 61 dX12_throughOf_13 (by decide) (by decide) (by decide +kernel) (by decide) ?_
    replace hv := hv.2.2.2.2.2.1 q5
    refine wp_aload_n (i := 0) dX12_throughOf_61 rfl rfl ?_
    refine wp_iload_n (i := 2) dX12_throughOf_62 rfl rfl ?_
    refine wp_iload_n (i := 1) dX12_throughOf_63 rfl rfl ?_
    obtain ⟨v19, hE, hv⟩ := hv
    refine wz_callV (vs := [.int x2, .int x1]) (st := []) dX12_throughOf_64 (k57 hK) rfl k12_335_12 hE rfl (Nat.le_of_ble_eq_true rfl) (Nat.le_of_ble_eq_true rfl) ?_
    change wp _ _ _ _ _ [.int v19] _ _ _
    refine wp_if_eq 79 dX12_throughOf_67 (by decide) (fun q => ?_) (fun q => ?_)
    · replace hv := hv.1 q
      refine wp_aload_n (i := 0) dX12_throughOf_79 rfl rfl ?_
      refine wp_iload_n (i := 2) dX12_throughOf_80 rfl rfl ?_
      refine wp_iload_n (i := 1) dX12_throughOf_81 rfl rfl ?_
      obtain ⟨V20, hE, hv⟩ := hv
      refine wz_callV (vs := [.int x2, .int x1]) (st := []) dX12_throughOf_82 (k57 hK) rfl k12_332_12 hE rfl (Nat.le_of_ble_eq_true rfl) (Nat.le_of_ble_eq_true rfl) ?_
      change wp _ _ _ _ _ [] _ _ _
      refine wp_goto 242 dX12_throughOf_85 (by decide) ?_
      exact hv Q hq
    · replace hv := hv.2 q
      refine wp_aload_n (i := 0) dX12_throughOf_70 rfl rfl ?_
      refine wp_iload_n (i := 2) dX12_throughOf_71 rfl rfl ?_
      refine wp_iload_n (i := 1) dX12_throughOf_72 rfl rfl ?_
      obtain ⟨V21, hE, hv⟩ := hv
      refine wz_callV (vs := [.int x2, .int x1]) (st := []) dX12_throughOf_73 (k57 hK) rfl k12_338_12 hE rfl (Nat.le_of_ble_eq_true rfl) (Nat.le_of_ble_eq_true rfl) ?_
      change wp _ _ _ _ _ [] _ _ _
      refine wp_goto 242 dX12_throughOf_76 (by decide) ?_
      exact hv Q hq
  refine wp_tableOut 236 dX12_throughOf_13 (by have n0 := lv_neT q0 (show ((2 : Int32)).toInt = 2 by decide); have n1 := lv_neT q1 (show ((3 : Int32)).toInt = 3 by decide); have n2 := lv_neT q2 (show ((4 : Int32)).toInt = 4 by decide); have n3 := lv_neT q3 (show ((5 : Int32)).toInt = 5 by decide); have n4 := lv_neT q4 (show ((6 : Int32)).toInt = 6 by decide); have n5 := lv_neT q5 (show ((7 : Int32)).toInt = 7 by decide); omega) (by decide) ?_
  replace hv := hv.2.2.2.2.2.2 ⟨q0, q1, q2, q3, q4, q5⟩
  refine wp_aload_n (i := 0) dX12_throughOf_236 rfl rfl ?_
  refine wp_iload_n (i := 2) dX12_throughOf_237 rfl rfl ?_
  refine wp_iload_n (i := 1) dX12_throughOf_238 rfl rfl ?_
  obtain ⟨V22, hE, hv⟩ := hv
  refine wz_callV (vs := [.int x2, .int x1]) (st := []) dX12_throughOf_239 (k57 hK) rfl k12_341_12 hE rfl (Nat.le_of_ble_eq_true rfl) (Nat.le_of_ble_eq_true rfl) ?_
  change wp _ _ _ _ _ [] _ _ _
  exact hv Q hq
theorem wX12_throughOf_164 {x1 : Int32} {x2 : Int32} {x3 : Int32} {x4 : Int32} (hK : StK K)  (hv : (∃ (V1 : SV), Ev G d mX12_seeAll 0 [(0, .ref 57), (1, .int x2), (2, .int x1)] (K, n, V, J, O) none (K, n, V1, J, O) ∧ Ev G (d + 1) mX12_throughOf 242 [(0, .ref 57), (1, .int x1), (2, .int x2), (3, .int x3), (4, .int x4)] (K, n, V1, J, O) r (K, n, V', J, O))) : Ev G (d + 1) mX12_throughOf 164 [(0, .ref 57), (1, .int x1), (2, .int x2), (3, .int x3), (4, .int x4)] (K, n, V, J, O) r (K, n, V', J, O) := by
  refine Ev.mk fun Q hq => ?_
  refine wp_aload_n (i := 0) dX12_throughOf_164 rfl rfl ?_
  refine wp_iload_n (i := 2) dX12_throughOf_165 rfl rfl ?_
  refine wp_iload_n (i := 1) dX12_throughOf_166 rfl rfl ?_
  obtain ⟨V1, hE, hv⟩ := hv
  refine wz_callV (vs := [.int x2, .int x1]) (st := []) dX12_throughOf_167 (k57 hK) rfl k12_341_12 hE rfl (Nat.le_of_ble_eq_true rfl) (Nat.le_of_ble_eq_true rfl) ?_
  change wp _ _ _ _ _ [] _ _ _
  refine wp_goto 242 dX12_throughOf_170 (by decide) ?_
  exact hv Q hq
theorem wX12_throughOf_242 {x1 : Int32} {x2 : Int32} {x3 : Int32} {x4 : Int32} (hK : StK K)  (hv : (∃ (v1 : Int32), Ev G d mX12_told 0 [(0, .ref 57), (1, .int x2)] (K, n, V, J, O) (some (.int v1)) (K, n, V, J, O) ∧ (r = some (.int v1) ∧ V' = V))) : Ev G (d + 1) mX12_throughOf 242 [(0, .ref 57), (1, .int x1), (2, .int x2), (3, .int x3), (4, .int x4)] (K, n, V, J, O) r (K, n, V', J, O) := by
  refine Ev.mk fun Q hq => ?_
  refine wp_aload_n (i := 0) dX12_throughOf_242 rfl rfl ?_
  refine wp_iload_n (i := 2) dX12_throughOf_243 rfl rfl ?_
  obtain ⟨v1, hE, hv⟩ := hv
  refine wz_callV (vs := [.int x2]) (st := []) dX12_throughOf_244 (k57 hK) rfl k12_237_12 hE rfl (Nat.le_of_ble_eq_true rfl) (Nat.le_of_ble_eq_true rfl) ?_
  change wp _ _ _ _ _ [.int v1] _ _ _
  obtain ⟨rfl, rfl⟩ := hv
  exact wp_ireturn dX12_throughOf_247 rfl rfl rfl hq
theorem wX12_through_0 {x1 : Int32} {x2 : Int32} {x3 : Int32} {x4 : Int32} (hK : StK K)  (hv : (∃ (v1 : Int32), Ev G d mX12_isStone 0 [(0, .ref 57), (1, .int x1)] (K, n, V, J, O) (some (.int v1)) (K, n, V, J, O) ∧ ((v1 = 0 → (r = some (.int (-2000000000 : Int32)) ∧ V' = V)) ∧ (¬ v1 = 0 → (∃ (v2 : Int32), Ev G d mX12_isAsk 0 [(0, .ref 57), (1, .int x2)] (K, n, V, J, O) (some (.int v2)) (K, n, V, J, O) ∧ ((v2 = 0 → (r = some (.int (-2000000000 : Int32)) ∧ V' = V)) ∧ (¬ v2 = 0 → (∃ (v3 : Int32), Ev G d mX12_isValue 0 [(0, .int x3)] (K, n, V, J, O) (some (.int v3)) (K, n, V, J, O) ∧ ((v3 = 0 → (r = some (.int (-2000000000 : Int32)) ∧ V' = V)) ∧ (¬ v3 = 0 → (∃ (v4 : Int32), Ev G d mX12_isValue 0 [(0, .int x4)] (K, n, V, J, O) (some (.int v4)) (K, n, V, J, O) ∧ ((v4 ≠ 0 → (∃ (v5 : Int32), Ev G d mX12_can 0 [(0, .ref 57), (1, .int x2), (2, .int x1)] (K, n, V, J, O) (some (.int v5)) (K, n, V, J, O) ∧ ((v5 = 0 → (r = some (.int (-2 : Int32)) ∧ V' = V)) ∧ (¬ v5 = 0 → (∃ (v7 : Int32) (V6 : SV), Ev G d mX12_throughOf 0 [(0, .ref 57), (1, .int x1), (2, .int x2), (3, .int x3), (4, .int x4)] (K, n, V, J, O) (some (.int v7)) (K, n, V6, J, O) ∧ (r = some (.int v7) ∧ V' = V6)))))) ∧ (v4 = 0 → (r = some (.int (-2000000000 : Int32)) ∧ V' = V)))))))))))))) : Ev G (d + 1) mX12_through 0 [(0, .ref 57), (1, .int x1), (2, .int x2), (3, .int x3), (4, .int x4)] (K, n, V, J, O) r (K, n, V', J, O) := by
  refine Ev.mk fun Q hq => ?_
  refine wp_aload_n (i := 0) dX12_through_0 rfl rfl ?_
  refine wp_iload_n (i := 1) dX12_through_1 rfl rfl ?_
  obtain ⟨v1, hE, hv⟩ := hv
  refine wz_callV (vs := [.int x1]) (st := []) dX12_through_2 (k57 hK) rfl k12_302_12 hE rfl (Nat.le_of_ble_eq_true rfl) (Nat.le_of_ble_eq_true rfl) ?_
  change wp _ _ _ _ _ [.int v1] _ _ _
  refine wp_if_eq 31 dX12_through_5 (by decide) (fun q => ?_) (fun q => ?_)
  · replace hv := hv.1 q
    refine wp_ldc (v := -2000000000) dX12_through_31 q12_175 ?_
    obtain ⟨rfl, rfl⟩ := hv
    exact wp_ireturn dX12_through_33 rfl rfl rfl hq
  · replace hv := hv.2 q
    refine wp_aload_n (i := 0) dX12_through_8 rfl rfl ?_
    refine wp_iload_n (i := 2) dX12_through_9 rfl rfl ?_
    obtain ⟨v2, hE, hv⟩ := hv
    refine wz_callV (vs := [.int x2]) (st := []) dX12_through_10 (k57 hK) rfl k12_204_12 hE rfl (Nat.le_of_ble_eq_true rfl) (Nat.le_of_ble_eq_true rfl) ?_
    change wp _ _ _ _ _ [.int v2] _ _ _
    refine wp_if_eq 31 dX12_through_13 (by decide) (fun q => ?_) (fun q => ?_)
    · replace hv := hv.1 q
      refine wp_ldc (v := -2000000000) dX12_through_31 q12_175 ?_
      obtain ⟨rfl, rfl⟩ := hv
      exact wp_ireturn dX12_through_33 rfl rfl rfl hq
    · replace hv := hv.2 q
      refine wp_iload_n (i := 3) dX12_through_16 rfl rfl ?_
      obtain ⟨v3, hE, hv⟩ := hv
      refine wz_callS (vs := [.int x3]) (st := []) dX12_through_17 k12_145 hE rfl (Nat.le_of_ble_eq_true rfl) (Nat.le_of_ble_eq_true rfl) ?_
      change wp _ _ _ _ _ [.int v3] _ _ _
      refine wp_if_eq 31 dX12_through_20 (by decide) (fun q => ?_) (fun q => ?_)
      · replace hv := hv.1 q
        refine wp_ldc (v := -2000000000) dX12_through_31 q12_175 ?_
        obtain ⟨rfl, rfl⟩ := hv
        exact wp_ireturn dX12_through_33 rfl rfl rfl hq
      · replace hv := hv.2 q
        refine wp_iload dX12_through_23 rfl ?_
        obtain ⟨v4, hE, hv⟩ := hv
        refine wz_callS (vs := [.int x4]) (st := []) dX12_through_25 k12_145 hE rfl (Nat.le_of_ble_eq_true rfl) (Nat.le_of_ble_eq_true rfl) ?_
        change wp _ _ _ _ _ [.int v4] _ _ _
        refine wp_if_ne 34 dX12_through_28 (by decide) (fun q => ?_) (fun q => ?_)
        · replace hv := hv.1 q
          refine wp_aload_n (i := 0) dX12_through_34 rfl rfl ?_
          refine wp_iload_n (i := 2) dX12_through_35 rfl rfl ?_
          refine wp_iload_n (i := 1) dX12_through_36 rfl rfl ?_
          obtain ⟨v5, hE, hv⟩ := hv
          refine wz_callV (vs := [.int x2, .int x1]) (st := []) dX12_through_37 (k57 hK) rfl k12_347_12 hE rfl (Nat.le_of_ble_eq_true rfl) (Nat.le_of_ble_eq_true rfl) ?_
          change wp _ _ _ _ _ [.int v5] _ _ _
          refine wp_if_eq 55 dX12_through_40 (by decide) (fun q => ?_) (fun q => ?_)
          · replace hv := hv.1 q
            refine wp_bipush (v := -2) dX12_through_55 (by decide) ?_
            obtain ⟨rfl, rfl⟩ := hv
            exact wp_ireturn dX12_through_57 rfl rfl rfl hq
          · replace hv := hv.2 q
            refine wp_aload_n (i := 0) dX12_through_43 rfl rfl ?_
            refine wp_iload_n (i := 1) dX12_through_44 rfl rfl ?_
            refine wp_iload_n (i := 2) dX12_through_45 rfl rfl ?_
            refine wp_iload_n (i := 3) dX12_through_46 rfl rfl ?_
            refine wp_iload dX12_through_47 rfl ?_
            obtain ⟨v7, V6, hE, hv⟩ := hv
            refine wz_callV (vs := [.int x1, .int x2, .int x3, .int x4]) (st := []) dX12_through_49 (k57 hK) rfl k12_350_12 hE rfl (Nat.le_of_ble_eq_true rfl) (Nat.le_of_ble_eq_true rfl) ?_
            change wp _ _ _ _ _ [.int v7] _ _ _
            refine wp_goto 57 dX12_through_52 (by decide) ?_
            obtain ⟨rfl, rfl⟩ := hv
            exact wp_ireturn dX12_through_57 rfl rfl rfl hq
        · replace hv := hv.2 q
          refine wp_ldc (v := -2000000000) dX12_through_31 q12_175 ?_
          obtain ⟨rfl, rfl⟩ := hv
          exact wp_ireturn dX12_through_33 rfl rfl rfl hq
theorem wX12_looks_0  (hK : StK K)  (hv : r = some (.int (V 57 33))) : Ev G d mX12_looks 0 [(0, .ref 57)] (K, n, V, J, O) r (K, n, V, J, O) := by
  refine Ev.mk fun Q hq => ?_
  refine wp_aload_n (i := 0) dX12_looks_0 rfl rfl ?_
  refine wz_getI dX12_looks_1 (k57 hK) (f12_225 _ (by decide)) rfl ?_
  obtain rfl := hv
  exact wp_ireturn dX12_looks_4 rfl rfl rfl hq
theorem wX12_firstUnlike_0 {x1 : Int32} {x2 : Int32} {x3 : Int32} (hK : StK K)  (hv : (∃ (v1 : Int32), Ev G d mX12_isAsk 0 [(0, .ref 57), (1, .int x1)] (K, n, V, J, O) (some (.int v1)) (K, n, V, J, O) ∧ ((v1 = 0 → (r = some (.int (-1 : Int32)) ∧ V' = V)) ∧ (¬ v1 = 0 → (∃ (v2 : Int32), Ev G d mX12_isValue 0 [(0, .int x2)] (K, n, V, J, O) (some (.int v2)) (K, n, V, J, O) ∧ ((v2 = 0 → (r = some (.int (-1 : Int32)) ∧ V' = V)) ∧ (¬ v2 = 0 → (∃ (v3 : Int32), Ev G d mX12_isValue 0 [(0, .int x3)] (K, n, V, J, O) (some (.int v3)) (K, n, V, J, O) ∧ ((v3 ≠ 0 → (∃ (v5 : Int32) (V4 : SV), Ev G d mX12_answerOf 0 [(0, .ref 57), (1, .int x1), (2, .int x2), (3, .int x3)] (K, n, V, J, O) (some (.int v5)) (K, n, V4, J, O) ∧ Ev G (d + 1) mX12_firstUnlike 51 [(0, .ref 57), (1, .int x1), (2, .int x2), (3, .int x3), (4, .int (V 57 33)), (5, .int v5), (6, .int (-2 : Int32)), (7, .int ((V4 57 25) - (1 : Int32)))] (K, n, V4, J, O) r (K, n, V', J, O))) ∧ (v3 = 0 → (r = some (.int (-1 : Int32)) ∧ V' = V))))))))))) : Ev G (d + 1) mX12_firstUnlike 0 [(0, .ref 57), (1, .int x1), (2, .int x2), (3, .int x3)] (K, n, V, J, O) r (K, n, V', J, O) := by
  refine Ev.mk fun Q hq => ?_
  refine wp_aload_n (i := 0) dX12_firstUnlike_0 rfl rfl ?_
  refine wp_iload_n (i := 1) dX12_firstUnlike_1 rfl rfl ?_
  obtain ⟨v1, hE, hv⟩ := hv
  refine wz_callV (vs := [.int x1]) (st := []) dX12_firstUnlike_2 (k57 hK) rfl k12_204_12 hE rfl (Nat.le_of_ble_eq_true rfl) (Nat.le_of_ble_eq_true rfl) ?_
  change wp _ _ _ _ _ [.int v1] _ _ _
  refine wp_if_eq 22 dX12_firstUnlike_5 (by decide) (fun q => ?_) (fun q => ?_)
  · replace hv := hv.1 q
    refine wp_iconst (v := -1) dX12_firstUnlike_22 (by decide) ?_
    obtain ⟨rfl, rfl⟩ := hv
    exact wp_ireturn dX12_firstUnlike_23 rfl rfl rfl hq
  · replace hv := hv.2 q
    refine wp_iload_n (i := 2) dX12_firstUnlike_8 rfl rfl ?_
    obtain ⟨v2, hE, hv⟩ := hv
    refine wz_callS (vs := [.int x2]) (st := []) dX12_firstUnlike_9 k12_145 hE rfl (Nat.le_of_ble_eq_true rfl) (Nat.le_of_ble_eq_true rfl) ?_
    change wp _ _ _ _ _ [.int v2] _ _ _
    refine wp_if_eq 22 dX12_firstUnlike_12 (by decide) (fun q => ?_) (fun q => ?_)
    · replace hv := hv.1 q
      refine wp_iconst (v := -1) dX12_firstUnlike_22 (by decide) ?_
      obtain ⟨rfl, rfl⟩ := hv
      exact wp_ireturn dX12_firstUnlike_23 rfl rfl rfl hq
    · replace hv := hv.2 q
      refine wp_iload_n (i := 3) dX12_firstUnlike_15 rfl rfl ?_
      obtain ⟨v3, hE, hv⟩ := hv
      refine wz_callS (vs := [.int x3]) (st := []) dX12_firstUnlike_16 k12_145 hE rfl (Nat.le_of_ble_eq_true rfl) (Nat.le_of_ble_eq_true rfl) ?_
      change wp _ _ _ _ _ [.int v3] _ _ _
      refine wp_if_ne 24 dX12_firstUnlike_19 (by decide) (fun q => ?_) (fun q => ?_)
      · replace hv := hv.1 q
        refine wp_aload_n (i := 0) dX12_firstUnlike_24 rfl rfl ?_
        refine wz_getI dX12_firstUnlike_25 (k57 hK) (f12_225 _ (by decide)) rfl ?_
        refine wx_istore (ls' := [(0, .ref 57), (1, .int x1), (2, .int x2), (3, .int x3), (4, .int (V 57 33))]) dX12_firstUnlike_28 (by decide) rfl ?_
        refine wp_aload_n (i := 0) dX12_firstUnlike_30 rfl rfl ?_
        refine wp_iload_n (i := 1) dX12_firstUnlike_31 rfl rfl ?_
        refine wp_iload_n (i := 2) dX12_firstUnlike_32 rfl rfl ?_
        refine wp_iload_n (i := 3) dX12_firstUnlike_33 rfl rfl ?_
        obtain ⟨v5, V4, hE, hv⟩ := hv
        refine wz_callV (vs := [.int x1, .int x2, .int x3]) (st := []) dX12_firstUnlike_34 (k57 hK) rfl k12_240_12 hE rfl (Nat.le_of_ble_eq_true rfl) (Nat.le_of_ble_eq_true rfl) ?_
        change wp _ _ _ _ _ [.int v5] _ _ _
        refine wx_istore (ls' := [(0, .ref 57), (1, .int x1), (2, .int x2), (3, .int x3), (4, .int (V 57 33)), (5, .int v5)]) dX12_firstUnlike_37 (by decide) rfl ?_
        refine wp_bipush (v := -2) dX12_firstUnlike_39 (by decide) ?_
        refine wx_istore (ls' := [(0, .ref 57), (1, .int x1), (2, .int x2), (3, .int x3), (4, .int (V 57 33)), (5, .int v5), (6, .int (-2 : Int32))]) dX12_firstUnlike_41 (by decide) rfl ?_
        refine wp_aload_n (i := 0) dX12_firstUnlike_43 rfl rfl ?_
        refine wz_getI dX12_firstUnlike_44 (k57 hK) (f12_153 _ (by decide)) rfl ?_
        refine wp_iconst (v := 1) dX12_firstUnlike_47 (by decide) ?_
        refine wp_isub dX12_firstUnlike_48 ?_
        refine wx_istore (ls' := [(0, .ref 57), (1, .int x1), (2, .int x2), (3, .int x3), (4, .int (V 57 33)), (5, .int v5), (6, .int (-2 : Int32)), (7, .int ((V4 57 25) - (1 : Int32)))]) dX12_firstUnlike_49 (by decide) rfl ?_
        exact hv Q hq
      · replace hv := hv.2 q
        refine wp_iconst (v := -1) dX12_firstUnlike_22 (by decide) ?_
        obtain ⟨rfl, rfl⟩ := hv
        exact wp_ireturn dX12_firstUnlike_23 rfl rfl rfl hq
theorem wX12_firstUnlike_51 {x1 : Int32} {x2 : Int32} {x3 : Int32} {x4 : Int32} {x5 : Int32} {x6 : Int32} {x7 : Int32} (hK : StK K)  (hv : ((x7 < 0 → (r = some (.int x6) ∧ V' = (up2 V 57 33 x4))) ∧ (¬ x7 < 0 → (∃ (v1 : Int32), Ev G d mX12_can 0 [(0, .ref 57), (1, .int x1), (2, .int x7)] (K, n, V, J, O) (some (.int v1)) (K, n, V, J, O) ∧ ((v1 = 0 → Ev G (d + 1) mX12_firstUnlike 51 [(0, .ref 57), (1, .int x1), (2, .int x2), (3, .int x3), (4, .int x4), (5, .int x5), (6, .int x6), (7, .int (x7 + (-1)))] (K, n, V, J, O) r (K, n, V', J, O)) ∧ (¬ v1 = 0 → (∃ (v3 : Int32) (V2 : SV), Ev G d mX12_throughOf 0 [(0, .ref 57), (1, .int x7), (2, .int x1), (3, .int x2), (4, .int x3)] (K, n, V, J, O) (some (.int v3)) (K, n, V2, J, O) ∧ ((v3 = (-6 : Int32) → Ev G (d + 1) mX12_firstUnlike 51 [(0, .ref 57), (1, .int x1), (2, .int x2), (3, .int x3), (4, .int x4), (5, .int x5), (6, .int x6), (7, .int (x7 + (-1)))] (K, n, V2, J, O) r (K, n, V', J, O)) ∧ (¬ v3 = (-6 : Int32) → ((v3 = x5 → Ev G (d + 1) mX12_firstUnlike 51 [(0, .ref 57), (1, .int x1), (2, .int x2), (3, .int x3), (4, .int x4), (5, .int x5), (6, .int x6), (7, .int (x7 + (-1)))] (K, n, V2, J, O) r (K, n, V', J, O)) ∧ (¬ v3 = x5 → Ev G (d + 1) mX12_firstUnlike 51 [(0, .ref 57), (1, .int x1), (2, .int x2), (3, .int x3), (4, .int x4), (5, .int x5), (6, .int x7), (7, .int (x7 + (-1)))] (K, n, V2, J, O) r (K, n, V', J, O)))))))))))) : Ev G (d + 1) mX12_firstUnlike 51 [(0, .ref 57), (1, .int x1), (2, .int x2), (3, .int x3), (4, .int x4), (5, .int x5), (6, .int x6), (7, .int x7)] (K, n, V, J, O) r (K, n, V', J, O) := by
  refine Ev.mk fun Q hq => ?_
  refine wp_iload dX12_firstUnlike_51 rfl ?_
  refine wp_if_lt 106 dX12_firstUnlike_53 (by decide) (fun q => ?_) (fun q => ?_)
  · replace hv := hv.1 q
    refine wp_aload_n (i := 0) dX12_firstUnlike_106 rfl rfl ?_
    refine wp_iload dX12_firstUnlike_107 rfl ?_
    refine wz_putI dX12_firstUnlike_109 (k57 hK) (w12_225 _ (by decide)) rfl ?_
    refine wp_iload dX12_firstUnlike_112 rfl ?_
    obtain ⟨rfl, rfl⟩ := hv
    exact wp_ireturn dX12_firstUnlike_114 rfl rfl rfl hq
  · replace hv := hv.2 q
    refine wp_aload_n (i := 0) dX12_firstUnlike_56 rfl rfl ?_
    refine wp_iload_n (i := 1) dX12_firstUnlike_57 rfl rfl ?_
    refine wp_iload dX12_firstUnlike_58 rfl ?_
    obtain ⟨v1, hE, hv⟩ := hv
    refine wz_callV (vs := [.int x1, .int x7]) (st := []) dX12_firstUnlike_60 (k57 hK) rfl k12_347_12 hE rfl (Nat.le_of_ble_eq_true rfl) (Nat.le_of_ble_eq_true rfl) ?_
    change wp _ _ _ _ _ [.int v1] _ _ _
    refine wp_if_eq 100 dX12_firstUnlike_63 (by decide) (fun q => ?_) (fun q => ?_)
    · replace hv := hv.1 q
      refine wx_iinc (v := -1) (ls' := [(0, .ref 57), (1, .int x1), (2, .int x2), (3, .int x3), (4, .int x4), (5, .int x5), (6, .int x6), (7, .int (x7 + (-1)))]) dX12_firstUnlike_100 rfl (by decide) (by decide) rfl ?_
      refine wp_goto 51 dX12_firstUnlike_103 (by decide) ?_
      exact hv Q hq
    · replace hv := hv.2 q
      refine wp_aload_n (i := 0) dX12_firstUnlike_66 rfl rfl ?_
      refine wp_iload dX12_firstUnlike_67 rfl ?_
      refine wp_iload_n (i := 1) dX12_firstUnlike_69 rfl rfl ?_
      refine wp_iload_n (i := 2) dX12_firstUnlike_70 rfl rfl ?_
      refine wp_iload_n (i := 3) dX12_firstUnlike_71 rfl rfl ?_
      obtain ⟨v3, V2, hE, hv⟩ := hv
      refine wz_callV (vs := [.int x7, .int x1, .int x2, .int x3]) (st := []) dX12_firstUnlike_72 (k57 hK) rfl k12_350_12 hE rfl (Nat.le_of_ble_eq_true rfl) (Nat.le_of_ble_eq_true rfl) ?_
      change wp _ _ _ _ _ [.int v3] _ _ _
      refine wx_istore (ls' := [(0, .ref 57), (1, .int x1), (2, .int x2), (3, .int x3), (4, .int x4), (5, .int x5), (6, .int x6), (7, .int x7), (8, .int v3)]) dX12_firstUnlike_75 (by decide) rfl ?_
      refine wp_iload dX12_firstUnlike_77 rfl ?_
      refine wp_bipush (v := -6) dX12_firstUnlike_79 (by decide) ?_
      refine wp_icmp_eq 96 dX12_firstUnlike_81 (by decide) (fun q => ?_) (fun q => ?_)
      · replace hv := hv.1 q
        refine wp_iload dX12_firstUnlike_96 rfl ?_
        refine wx_istore (ls' := [(0, .ref 57), (1, .int x1), (2, .int x2), (3, .int x3), (4, .int x4), (5, .int x5), (6, .int x6), (7, .int x7), (8, .int v3)]) dX12_firstUnlike_98 (by decide) rfl ?_
        refine wx_iinc (v := -1) (ls' := [(0, .ref 57), (1, .int x1), (2, .int x2), (3, .int x3), (4, .int x4), (5, .int x5), (6, .int x6), (7, .int (x7 + (-1))), (8, .int v3)]) dX12_firstUnlike_100 rfl (by decide) (by decide) rfl ?_
        refine wp_goto 51 dX12_firstUnlike_103 (by decide) ?_
        refine wx_sub (ls' := [(0, .ref 57), (1, .int x1), (2, .int x2), (3, .int x3), (4, .int x4), (5, .int x5), (6, .int x6), (7, .int (x7 + (-1)))]) [0, 1, 2, 3, 4, 5, 6, 7] rfl ?_
        exact hv Q hq
      · replace hv := hv.2 q
        refine wp_iload dX12_firstUnlike_84 rfl ?_
        refine wp_iload dX12_firstUnlike_86 rfl ?_
        refine wp_icmp_eq 96 dX12_firstUnlike_88 (by decide) (fun q => ?_) (fun q => ?_)
        · replace hv := hv.1 q
          refine wp_iload dX12_firstUnlike_96 rfl ?_
          refine wx_istore (ls' := [(0, .ref 57), (1, .int x1), (2, .int x2), (3, .int x3), (4, .int x4), (5, .int x5), (6, .int x6), (7, .int x7), (8, .int v3)]) dX12_firstUnlike_98 (by decide) rfl ?_
          refine wx_iinc (v := -1) (ls' := [(0, .ref 57), (1, .int x1), (2, .int x2), (3, .int x3), (4, .int x4), (5, .int x5), (6, .int x6), (7, .int (x7 + (-1))), (8, .int v3)]) dX12_firstUnlike_100 rfl (by decide) (by decide) rfl ?_
          refine wp_goto 51 dX12_firstUnlike_103 (by decide) ?_
          refine wx_sub (ls' := [(0, .ref 57), (1, .int x1), (2, .int x2), (3, .int x3), (4, .int x4), (5, .int x5), (6, .int x6), (7, .int (x7 + (-1)))]) [0, 1, 2, 3, 4, 5, 6, 7] rfl ?_
          exact hv Q hq
        · replace hv := hv.2 q
          refine wp_iload dX12_firstUnlike_91 rfl ?_
          refine wp_goto 98 dX12_firstUnlike_93 (by decide) ?_
          refine wx_istore (ls' := [(0, .ref 57), (1, .int x1), (2, .int x2), (3, .int x3), (4, .int x4), (5, .int x5), (6, .int x7), (7, .int x7), (8, .int v3)]) dX12_firstUnlike_98 (by decide) rfl ?_
          refine wx_iinc (v := -1) (ls' := [(0, .ref 57), (1, .int x1), (2, .int x2), (3, .int x3), (4, .int x4), (5, .int x5), (6, .int x7), (7, .int (x7 + (-1))), (8, .int v3)]) dX12_firstUnlike_100 rfl (by decide) (by decide) rfl ?_
          refine wp_goto 51 dX12_firstUnlike_103 (by decide) ?_
          refine wx_sub (ls' := [(0, .ref 57), (1, .int x1), (2, .int x2), (3, .int x3), (4, .int x4), (5, .int x5), (6, .int x7), (7, .int (x7 + (-1)))]) [0, 1, 2, 3, 4, 5, 6, 7] rfl ?_
          exact hv Q hq
theorem wX12_levels_0 {x0 : Int32} (hK : StK K)  (hv : Ev G d mX12_levels 2 [(0, .int x0), (1, .int (0 : Int32))] (K, n, V, J, O) r (K, n, V, J, O)) : Ev G d mX12_levels 0 [(0, .int x0)] (K, n, V, J, O) r (K, n, V, J, O) := by
  refine Ev.mk fun Q hq => ?_
  refine wp_iconst (v := 0) dX12_levels_0 (by decide) ?_
  refine wx_istore_n (ls' := [(0, .int x0), (1, .int (0 : Int32))]) (i := 1) dX12_levels_1 rfl (by decide) rfl ?_
  exact hv Q hq
theorem wX12_levels_2 {x0 : Int32} {x1 : Int32} (hK : StK K)  (hv : ((x0 < ((1 : Int32) <<< (x1 &&& 31)) → r = some (.int x1)) ∧ (¬ x0 < ((1 : Int32) <<< (x1 &&& 31)) → Ev G d mX12_levels 2 [(0, .int x0), (1, .int (x1 + 1))] (K, n, V, J, O) r (K, n, V, J, O)))) : Ev G d mX12_levels 2 [(0, .int x0), (1, .int x1)] (K, n, V, J, O) r (K, n, V, J, O) := by
  refine Ev.mk fun Q hq => ?_
  refine wp_iconst (v := 1) dX12_levels_2 (by decide) ?_
  refine wp_iload_n (i := 1) dX12_levels_3 rfl rfl ?_
  refine wp_ishl dX12_levels_4 ?_
  refine wp_iload_n (i := 0) dX12_levels_5 rfl rfl ?_
  refine wp_icmp_gt 15 dX12_levels_6 (by decide) (fun q => ?_) (fun q => ?_)
  · replace hv := hv.1 q
    refine wp_iload_n (i := 1) dX12_levels_15 rfl rfl ?_
    obtain rfl := hv
    exact wp_ireturn dX12_levels_16 rfl rfl rfl hq
  · replace hv := hv.2 q
    refine wx_iinc (v := 1) (ls' := [(0, .int x0), (1, .int (x1 + 1))]) dX12_levels_9 rfl (by decide) (by decide) rfl ?_
    refine wp_goto 2 dX12_levels_12 (by decide) ?_
    exact hv Q hq
theorem wX12_priceOf_0 {x1 : Int32} {x2 : Int32} {x3 : Int32} (hK : StK K)  (hv : Ev G (d + 1) mX12_priceOf 12 [(0, .ref 57), (1, .int x1), (2, .int x2), (3, .int x3), (4, .int (0 : Int32)), (5, .int (0 : Int32)), (6, .int ((16 : Int32) * x2))] (K, n, V, J, O) r (K, n, V, J, O)) : Ev G (d + 1) mX12_priceOf 0 [(0, .ref 57), (1, .int x1), (2, .int x2), (3, .int x3)] (K, n, V, J, O) r (K, n, V, J, O) := by
  refine Ev.mk fun Q hq => ?_
  refine wp_iconst (v := 0) dX12_priceOf_0 (by decide) ?_
  refine wx_istore (ls' := [(0, .ref 57), (1, .int x1), (2, .int x2), (3, .int x3), (4, .int (0 : Int32))]) dX12_priceOf_1 (by decide) rfl ?_
  refine wp_iconst (v := 0) dX12_priceOf_3 (by decide) ?_
  refine wx_istore (ls' := [(0, .ref 57), (1, .int x1), (2, .int x2), (3, .int x3), (4, .int (0 : Int32)), (5, .int (0 : Int32))]) dX12_priceOf_4 (by decide) rfl ?_
  refine wp_bipush (v := 16) dX12_priceOf_6 (by decide) ?_
  refine wp_iload_n (i := 2) dX12_priceOf_8 rfl rfl ?_
  refine wp_imul dX12_priceOf_9 ?_
  refine wx_istore (ls' := [(0, .ref 57), (1, .int x1), (2, .int x2), (3, .int x3), (4, .int (0 : Int32)), (5, .int (0 : Int32)), (6, .int ((16 : Int32) * x2))]) dX12_priceOf_10 (by decide) rfl ?_
  exact hv Q hq
theorem wX12_priceOf_12 {x1 : Int32} {x2 : Int32} {x3 : Int32} {x4 : Int32} {x5 : Int32} {x6 : Int32} (hK : StK K)  (hv : (vp_in x2 10 ∧ (((((16 : Int32) * x2) + (V 66 (x2).toNatClampNeg)) ≤ x6 → (∃ (v2 : Int32), Ev G d mX12_levels 0 [(0, .int x3)] (K, n, V, J, O) (some (.int v2)) (K, n, V, J, O) ∧ (vp_in x1 10 ∧ (((V 70 (x1).toNatClampNeg) = (1 : Int32) → r = some (.int x3)) ∧ ((V 70 (x1).toNatClampNeg) = (2 : Int32) → Ev G (d + 1) mX12_priceOf 146 [(0, .ref 57), (1, .int x1), (2, .int x2), (3, .int x3), (4, .int x4), (5, .int x5), (6, .int v2)] (K, n, V, J, O) r (K, n, V, J, O)) ∧ ((V 70 (x1).toNatClampNeg) = (3 : Int32) → (vp_in x2 10 ∧ (((V 67 (x2).toNatClampNeg) ≠ (109 : Int32) → r = some (.int x3)) ∧ ((V 67 (x2).toNatClampNeg) = (109 : Int32) → (vp_in x2 10 ∧ (vp_in x1 10 ∧ (((V 68 (x2).toNatClampNeg) ≠ (V 71 (x1).toNatClampNeg) → r = some (.int x3)) ∧ ((V 68 (x2).toNatClampNeg) = (V 71 (x1).toNatClampNeg) → (vp_in x2 10 ∧ (((V 66 (x2).toNatClampNeg) ≠ 0 → r = some (.int x3)) ∧ ((V 66 (x2).toNatClampNeg) = 0 → r = some (.int (1 : Int32))))))))))))) ∧ ((V 70 (x1).toNatClampNeg) = (4 : Int32) → ((x5 = 0 → r = some (.int x3)) ∧ (¬ x5 = 0 → r = some (.int ((x3 / (8 : Int32)) + (1 : Int32)))))) ∧ ((V 70 (x1).toNatClampNeg) = (5 : Int32) → Ev G (d + 1) mX12_priceOf 146 [(0, .ref 57), (1, .int x1), (2, .int x2), (3, .int x3), (4, .int x4), (5, .int x5), (6, .int v2)] (K, n, V, J, O) r (K, n, V, J, O)) ∧ ((V 70 (x1).toNatClampNeg) = (6 : Int32) → (∃ (v8 : Int32), Ev G d mX12_bitsCan 0 [(0, .ref 57), (1, .int x2), (2, .int x1)] (K, n, V, J, O) (some (.int v8)) (K, n, V, J, O) ∧ ((v8 = 0 → r = some (.int (-2 : Int32))) ∧ (¬ v8 = 0 → r = some (.int (2 : Int32)))))) ∧ ((V 70 (x1).toNatClampNeg) = (7 : Int32) → Ev G (d + 1) mX12_priceOf 146 [(0, .ref 57), (1, .int x1), (2, .int x2), (3, .int x3), (4, .int x4), (5, .int x5), (6, .int v2)] (K, n, V, J, O) r (K, n, V, J, O)) ∧ ((¬ (V 70 (x1).toNatClampNeg) = (1 : Int32) ∧ ¬ (V 70 (x1).toNatClampNeg) = (2 : Int32) ∧ ¬ (V 70 (x1).toNatClampNeg) = (3 : Int32) ∧ ¬ (V 70 (x1).toNatClampNeg) = (4 : Int32) ∧ ¬ (V 70 (x1).toNatClampNeg) = (5 : Int32) ∧ ¬ (V 70 (x1).toNatClampNeg) = (6 : Int32) ∧ ¬ (V 70 (x1).toNatClampNeg) = (7 : Int32)) → r = some (.int (-2 : Int32))))))) ∧ (¬ (((16 : Int32) * x2) + (V 66 (x2).toNatClampNeg)) ≤ x6 → ((x4 ≠ 0 → Ev G (d + 1) mX12_priceOf 43 [(0, .ref 57), (1, .int x1), (2, .int x2), (3, .int x3), (4, .int x4), (5, .int x5), (6, .int x6)] (K, n, V, J, O) r (K, n, V, J, O)) ∧ (x4 = 0 → (∃ (v9 : Int32), Ev G d mX12_isAbout 0 [(0, .ref 57), (1, .int x6), (2, .int x1)] (K, n, V, J, O) (some (.int v9)) (K, n, V, J, O) ∧ ((v9 = 0 → ((x5 ≠ 0 → Ev G (d + 1) mX12_priceOf 77 [(0, .ref 57), (1, .int x1), (2, .int x2), (3, .int x3), (4, .int (0 : Int32)), (5, .int x5), (6, .int x6)] (K, n, V, J, O) r (K, n, V, J, O)) ∧ (x5 = 0 → (∃ (v10 : Int32), Ev G d mX12_isAbout 0 [(0, .ref 57), (1, .int x6), (2, .int x1)] (K, n, V, J, O) (some (.int v10)) (K, n, V, J, O) ∧ ((v10 = 0 → Ev G (d + 1) mX12_priceOf 81 [(0, .ref 57), (1, .int x1), (2, .int x2), (3, .int x3), (4, .int (0 : Int32)), (5, .int x5), (6, .int x6)] (K, n, V, J, O) r (K, n, V, J, O)) ∧ (¬ v10 = 0 → (vp_in x6 160 ∧ (((V 64 (x6).toNatClampNeg) ≠ (61 : Int32) → Ev G (d + 1) mX12_priceOf 81 [(0, .ref 57), (1, .int x1), (2, .int x2), (3, .int x3), (4, .int (0 : Int32)), (5, .int x5), (6, .int x6)] (K, n, V, J, O) r (K, n, V, J, O)) ∧ ((V 64 (x6).toNatClampNeg) = (61 : Int32) → Ev G (d + 1) mX12_priceOf 77 [(0, .ref 57), (1, .int x1), (2, .int x2), (3, .int x3), (4, .int (0 : Int32)), (5, .int x5), (6, .int x6)] (K, n, V, J, O) r (K, n, V, J, O)))))))))) ∧ (¬ v9 = 0 → Ev G (d + 1) mX12_priceOf 43 [(0, .ref 57), (1, .int x1), (2, .int x2), (3, .int x3), (4, .int x4), (5, .int x5), (6, .int x6)] (K, n, V, J, O) r (K, n, V, J, O)))))))))) : Ev G (d + 1) mX12_priceOf 12 [(0, .ref 57), (1, .int x1), (2, .int x2), (3, .int x3), (4, .int x4), (5, .int x5), (6, .int x6)] (K, n, V, J, O) r (K, n, V, J, O) := by
  refine Ev.mk fun Q hq => ?_
  refine wp_iload dX12_priceOf_12 rfl ?_
  refine wp_bipush (v := 16) dX12_priceOf_14 (by decide) ?_
  refine wp_iload_n (i := 2) dX12_priceOf_16 rfl rfl ?_
  refine wp_imul dX12_priceOf_17 ?_
  refine wp_aload_n (i := 0) dX12_priceOf_18 rfl rfl ?_
  refine wz_getR (b := 66) dX12_priceOf_19 (k57 hK) (f12_35 _ (by decide)) rfl ?_
  refine wp_iload_n (i := 2) dX12_priceOf_22 rfl rfl ?_
  obtain ⟨z1, hv⟩ := hv
  refine wz_iaload dX12_priceOf_23 (k66 hK) z1 ?_
  refine wp_iadd dX12_priceOf_24 ?_
  refine wp_icmp_ge 90 dX12_priceOf_25 (by decide) (fun q => ?_) (fun q => ?_)
  · replace hv := hv.1 q
    refine wp_iload_n (i := 3) dX12_priceOf_90 rfl rfl ?_
    obtain ⟨v2, hE, hv⟩ := hv
    refine wz_callS (vs := [.int x3]) (st := []) dX12_priceOf_91 k12_354 hE rfl (Nat.le_of_ble_eq_true rfl) (Nat.le_of_ble_eq_true rfl) ?_
    change wp _ _ _ _ _ [.int v2] _ _ _
    refine wx_istore (ls' := [(0, .ref 57), (1, .int x1), (2, .int x2), (3, .int x3), (4, .int x4), (5, .int x5), (6, .int v2)]) dX12_priceOf_94 (by decide) rfl ?_
    refine wp_aload_n (i := 0) dX12_priceOf_96 rfl rfl ?_
    refine wz_getR (b := 70) dX12_priceOf_97 (k57 hK) (f12_47 _ (by decide)) rfl ?_
    refine wp_iload_n (i := 1) dX12_priceOf_100 rfl rfl ?_
    obtain ⟨z3, hv⟩ := hv
    refine wz_iaload dX12_priceOf_101 (k70 hK) z3 ?_
    by_cases q0 : (V 70 (x1).toNatClampNeg) = (1 : Int32)
    · refine wx_tableIn (off := 42) (1 : Int32) q0 144 dX12_priceOf_102 (by decide) (by decide) (by decide +kernel) (by decide) ?_
      replace hv := hv.1 q0
      refine wp_iload_n (i := 3) dX12_priceOf_144 rfl rfl ?_
      obtain rfl := hv
      exact wp_ireturn dX12_priceOf_145 rfl rfl rfl hq
    by_cases q1 : (V 70 (x1).toNatClampNeg) = (2 : Int32)
    · refine wx_tableIn (off := 44) (2 : Int32) q1 146 dX12_priceOf_102 (by decide) (by decide) (by decide +kernel) (by decide) ?_
      replace hv := hv.2.1 q1
      exact hv Q hq
    by_cases q2 : (V 70 (x1).toNatClampNeg) = (3 : Int32)
    · refine wx_tableIn (off := 93) (3 : Int32) q2 195 dX12_priceOf_102 (by decide) (by decide) (by decide +kernel) (by decide) ?_
      replace hv := hv.2.2.1 q2
      refine wp_aload_n (i := 0) dX12_priceOf_195 rfl rfl ?_
      refine wz_getR (b := 67) dX12_priceOf_196 (k57 hK) (f12_38 _ (by decide)) rfl ?_
      refine wp_iload_n (i := 2) dX12_priceOf_199 rfl rfl ?_
      obtain ⟨z4, hv⟩ := hv
      refine wz_iaload dX12_priceOf_200 (k67 hK) z4 ?_
      refine wp_bipush (v := 109) dX12_priceOf_201 (by decide) ?_
      refine wp_icmp_ne 234 dX12_priceOf_203 (by decide) (fun q => ?_) (fun q => ?_)
      · replace hv := hv.1 q
        refine wp_iload_n (i := 3) dX12_priceOf_234 rfl rfl ?_
        obtain rfl := hv
        exact wp_ireturn dX12_priceOf_235 rfl rfl rfl hq
      · replace hv := hv.2 q
        refine wp_aload_n (i := 0) dX12_priceOf_206 rfl rfl ?_
        refine wz_getR (b := 68) dX12_priceOf_207 (k57 hK) (f12_41 _ (by decide)) rfl ?_
        refine wp_iload_n (i := 2) dX12_priceOf_210 rfl rfl ?_
        obtain ⟨z5, hv⟩ := hv
        refine wz_iaload dX12_priceOf_211 (k68 hK) z5 ?_
        refine wp_aload_n (i := 0) dX12_priceOf_212 rfl rfl ?_
        refine wz_getR (b := 71) dX12_priceOf_213 (k57 hK) (f12_50 _ (by decide)) rfl ?_
        refine wp_iload_n (i := 1) dX12_priceOf_216 rfl rfl ?_
        obtain ⟨z6, hv⟩ := hv
        refine wz_iaload dX12_priceOf_217 (k71 hK) z6 ?_
        refine wp_icmp_ne 234 dX12_priceOf_218 (by decide) (fun q => ?_) (fun q => ?_)
        · replace hv := hv.1 q
          refine wp_iload_n (i := 3) dX12_priceOf_234 rfl rfl ?_
          obtain rfl := hv
          exact wp_ireturn dX12_priceOf_235 rfl rfl rfl hq
        · replace hv := hv.2 q
          refine wp_aload_n (i := 0) dX12_priceOf_221 rfl rfl ?_
          refine wz_getR (b := 66) dX12_priceOf_222 (k57 hK) (f12_35 _ (by decide)) rfl ?_
          refine wp_iload_n (i := 2) dX12_priceOf_225 rfl rfl ?_
          obtain ⟨z7, hv⟩ := hv
          refine wz_iaload dX12_priceOf_226 (k66 hK) z7 ?_
          refine wp_if_ne 234 dX12_priceOf_227 (by decide) (fun q => ?_) (fun q => ?_)
          · replace hv := hv.1 q
            refine wp_iload_n (i := 3) dX12_priceOf_234 rfl rfl ?_
            obtain rfl := hv
            exact wp_ireturn dX12_priceOf_235 rfl rfl rfl hq
          · replace hv := hv.2 q
            refine wp_iconst (v := 1) dX12_priceOf_230 (by decide) ?_
            refine wp_goto 235 dX12_priceOf_231 (by decide) ?_
            obtain rfl := hv
            exact wp_ireturn dX12_priceOf_235 rfl rfl rfl hq
    by_cases q3 : (V 70 (x1).toNatClampNeg) = (4 : Int32)
    · refine wx_tableIn (off := 134) (4 : Int32) q3 236 dX12_priceOf_102 (by decide) (by decide) (by decide +kernel) (by decide) ?_
      replace hv := hv.2.2.2.1 q3
      refine wp_iload dX12_priceOf_236 rfl ?_
      refine wp_if_eq 250 dX12_priceOf_238 (by decide) (fun q => ?_) (fun q => ?_)
      · replace hv := hv.1 q
        refine wp_iload_n (i := 3) dX12_priceOf_250 rfl rfl ?_
        obtain rfl := hv
        exact wp_ireturn dX12_priceOf_251 rfl rfl rfl hq
      · replace hv := hv.2 q
        refine wp_iload_n (i := 3) dX12_priceOf_241 rfl rfl ?_
        refine wp_bipush (v := 8) dX12_priceOf_242 (by decide) ?_
        refine wp_idiv dX12_priceOf_244 (by decide) ?_
        refine wp_iconst (v := 1) dX12_priceOf_245 (by decide) ?_
        refine wp_iadd dX12_priceOf_246 ?_
        refine wp_goto 251 dX12_priceOf_247 (by decide) ?_
        obtain rfl := hv
        exact wp_ireturn dX12_priceOf_251 rfl rfl rfl hq
    by_cases q4 : (V 70 (x1).toNatClampNeg) = (5 : Int32)
    · refine wx_tableIn (off := 44) (5 : Int32) q4 146 dX12_priceOf_102 (by decide) (by decide) (by decide +kernel) (by decide) ?_
      replace hv := hv.2.2.2.2.1 q4
      exact hv Q hq
    by_cases q5 : (V 70 (x1).toNatClampNeg) = (6 : Int32)
    · refine wx_tableIn (off := 150) (6 : Int32) q5 252 dX12_priceOf_102 (by decide) (by decide) (by decide +kernel) (by decide) ?_
      replace hv := hv.2.2.2.2.2.1 q5
      refine wp_aload_n (i := 0) dX12_priceOf_252 rfl rfl ?_
      refine wp_iload_n (i := 2) dX12_priceOf_253 rfl rfl ?_
      refine wp_iload_n (i := 1) dX12_priceOf_254 rfl rfl ?_
      obtain ⟨v8, hE, hv⟩ := hv
      refine wz_callV (vs := [.int x2, .int x1]) (st := []) dX12_priceOf_255 (k57 hK) rfl k12_329_12 hE rfl (Nat.le_of_ble_eq_true rfl) (Nat.le_of_ble_eq_true rfl) ?_
      change wp _ _ _ _ _ [.int v8] _ _ _
      refine wp_if_eq 265 dX12_priceOf_258 (by decide) (fun q => ?_) (fun q => ?_)
      · replace hv := hv.1 q
        refine wp_bipush (v := -2) dX12_priceOf_265 (by decide) ?_
        obtain rfl := hv
        exact wp_ireturn dX12_priceOf_267 rfl rfl rfl hq
      · replace hv := hv.2 q
        refine wp_iconst (v := 2) dX12_priceOf_261 (by decide) ?_
        refine wp_goto 267 dX12_priceOf_262 (by decide) ?_
        obtain rfl := hv
        exact wp_ireturn dX12_priceOf_267 rfl rfl rfl hq
    by_cases q6 : (V 70 (x1).toNatClampNeg) = (7 : Int32)
    · refine wx_tableIn (off := 44) (7 : Int32) q6 146 dX12_priceOf_102 (by decide) (by decide) (by decide +kernel) (by decide) ?_
      replace hv := hv.2.2.2.2.2.2.1 q6
      exact hv Q hq
    refine wp_tableOut 268 dX12_priceOf_102 (by have n0 := lv_neT q0 (show ((1 : Int32)).toInt = 1 by decide); have n1 := lv_neT q1 (show ((2 : Int32)).toInt = 2 by decide); have n2 := lv_neT q2 (show ((3 : Int32)).toInt = 3 by decide); have n3 := lv_neT q3 (show ((4 : Int32)).toInt = 4 by decide); have n4 := lv_neT q4 (show ((5 : Int32)).toInt = 5 by decide); have n5 := lv_neT q5 (show ((6 : Int32)).toInt = 6 by decide); have n6 := lv_neT q6 (show ((7 : Int32)).toInt = 7 by decide); omega) (by decide) ?_
    replace hv := hv.2.2.2.2.2.2.2 ⟨q0, q1, q2, q3, q4, q5, q6⟩
    refine wp_bipush (v := -2) dX12_priceOf_268 (by decide) ?_
    obtain rfl := hv
    exact wp_ireturn dX12_priceOf_270 rfl rfl rfl hq
  · replace hv := hv.2 q
    refine wp_iload dX12_priceOf_28 rfl ?_
    refine wp_if_ne 43 dX12_priceOf_30 (by decide) (fun q => ?_) (fun q => ?_)
    · replace hv := hv.1 q
      exact hv Q hq
    · replace hv := hv.2 q
      refine wp_aload_n (i := 0) dX12_priceOf_33 rfl rfl ?_
      refine wp_iload dX12_priceOf_34 rfl ?_
      refine wp_iload_n (i := 1) dX12_priceOf_36 rfl rfl ?_
      obtain ⟨v9, hE, hv⟩ := hv
      refine wz_callV (vs := [.int x6, .int x1]) (st := []) dX12_priceOf_37 (k57 hK) rfl k12_311_12 hE rfl (Nat.le_of_ble_eq_true rfl) (Nat.le_of_ble_eq_true rfl) ?_
      change wp _ _ _ _ _ [.int v9] _ _ _
      refine wp_if_eq 47 dX12_priceOf_40 (by decide) (fun q => ?_) (fun q => ?_)
      · replace hv := hv.1 q
        refine wp_iconst (v := 0) dX12_priceOf_47 (by decide) ?_
        refine wx_istore (ls' := [(0, .ref 57), (1, .int x1), (2, .int x2), (3, .int x3), (4, .int (0 : Int32)), (5, .int x5), (6, .int x6)]) dX12_priceOf_48 (by decide) rfl ?_
        refine wp_iload dX12_priceOf_50 rfl ?_
        refine wp_if_ne 77 dX12_priceOf_52 (by decide) (fun q => ?_) (fun q => ?_)
        · replace hv := hv.1 q
          exact hv Q hq
        · replace hv := hv.2 q
          refine wp_aload_n (i := 0) dX12_priceOf_55 rfl rfl ?_
          refine wp_iload dX12_priceOf_56 rfl ?_
          refine wp_iload_n (i := 1) dX12_priceOf_58 rfl rfl ?_
          obtain ⟨v10, hE, hv⟩ := hv
          refine wz_callV (vs := [.int x6, .int x1]) (st := []) dX12_priceOf_59 (k57 hK) rfl k12_311_12 hE rfl (Nat.le_of_ble_eq_true rfl) (Nat.le_of_ble_eq_true rfl) ?_
          change wp _ _ _ _ _ [.int v10] _ _ _
          refine wp_if_eq 81 dX12_priceOf_62 (by decide) (fun q => ?_) (fun q => ?_)
          · replace hv := hv.1 q
            exact hv Q hq
          · replace hv := hv.2 q
            refine wp_aload_n (i := 0) dX12_priceOf_65 rfl rfl ?_
            refine wz_getR (b := 64) dX12_priceOf_66 (k57 hK) (f12_29 _ (by decide)) rfl ?_
            refine wp_iload dX12_priceOf_69 rfl ?_
            obtain ⟨z11, hv⟩ := hv
            refine wz_iaload dX12_priceOf_71 (k64 hK) z11 ?_
            refine wp_bipush (v := 61) dX12_priceOf_72 (by decide) ?_
            refine wp_icmp_ne 81 dX12_priceOf_74 (by decide) (fun q => ?_) (fun q => ?_)
            · replace hv := hv.1 q
              exact hv Q hq
            · replace hv := hv.2 q
              exact hv Q hq
      · replace hv := hv.2 q
        exact hv Q hq
theorem wX12_priceOf_43 {x1 : Int32} {x2 : Int32} {x3 : Int32} {x4 : Int32} {x5 : Int32} {x6 : Int32} (hK : StK K)  (hv : ((x5 ≠ 0 → Ev G (d + 1) mX12_priceOf 77 [(0, .ref 57), (1, .int x1), (2, .int x2), (3, .int x3), (4, .int (1 : Int32)), (5, .int x5), (6, .int x6)] (K, n, V, J, O) r (K, n, V, J, O)) ∧ (x5 = 0 → (∃ (v1 : Int32), Ev G d mX12_isAbout 0 [(0, .ref 57), (1, .int x6), (2, .int x1)] (K, n, V, J, O) (some (.int v1)) (K, n, V, J, O) ∧ ((v1 = 0 → Ev G (d + 1) mX12_priceOf 81 [(0, .ref 57), (1, .int x1), (2, .int x2), (3, .int x3), (4, .int (1 : Int32)), (5, .int x5), (6, .int x6)] (K, n, V, J, O) r (K, n, V, J, O)) ∧ (¬ v1 = 0 → (vp_in x6 160 ∧ (((V 64 (x6).toNatClampNeg) ≠ (61 : Int32) → Ev G (d + 1) mX12_priceOf 81 [(0, .ref 57), (1, .int x1), (2, .int x2), (3, .int x3), (4, .int (1 : Int32)), (5, .int x5), (6, .int x6)] (K, n, V, J, O) r (K, n, V, J, O)) ∧ ((V 64 (x6).toNatClampNeg) = (61 : Int32) → Ev G (d + 1) mX12_priceOf 77 [(0, .ref 57), (1, .int x1), (2, .int x2), (3, .int x3), (4, .int (1 : Int32)), (5, .int x5), (6, .int x6)] (K, n, V, J, O) r (K, n, V, J, O)))))))))) : Ev G (d + 1) mX12_priceOf 43 [(0, .ref 57), (1, .int x1), (2, .int x2), (3, .int x3), (4, .int x4), (5, .int x5), (6, .int x6)] (K, n, V, J, O) r (K, n, V, J, O) := by
  refine Ev.mk fun Q hq => ?_
  refine wp_iconst (v := 1) dX12_priceOf_43 (by decide) ?_
  refine wp_goto 48 dX12_priceOf_44 (by decide) ?_
  refine wx_istore (ls' := [(0, .ref 57), (1, .int x1), (2, .int x2), (3, .int x3), (4, .int (1 : Int32)), (5, .int x5), (6, .int x6)]) dX12_priceOf_48 (by decide) rfl ?_
  refine wp_iload dX12_priceOf_50 rfl ?_
  refine wp_if_ne 77 dX12_priceOf_52 (by decide) (fun q => ?_) (fun q => ?_)
  · replace hv := hv.1 q
    exact hv Q hq
  · replace hv := hv.2 q
    refine wp_aload_n (i := 0) dX12_priceOf_55 rfl rfl ?_
    refine wp_iload dX12_priceOf_56 rfl ?_
    refine wp_iload_n (i := 1) dX12_priceOf_58 rfl rfl ?_
    obtain ⟨v1, hE, hv⟩ := hv
    refine wz_callV (vs := [.int x6, .int x1]) (st := []) dX12_priceOf_59 (k57 hK) rfl k12_311_12 hE rfl (Nat.le_of_ble_eq_true rfl) (Nat.le_of_ble_eq_true rfl) ?_
    change wp _ _ _ _ _ [.int v1] _ _ _
    refine wp_if_eq 81 dX12_priceOf_62 (by decide) (fun q => ?_) (fun q => ?_)
    · replace hv := hv.1 q
      exact hv Q hq
    · replace hv := hv.2 q
      refine wp_aload_n (i := 0) dX12_priceOf_65 rfl rfl ?_
      refine wz_getR (b := 64) dX12_priceOf_66 (k57 hK) (f12_29 _ (by decide)) rfl ?_
      refine wp_iload dX12_priceOf_69 rfl ?_
      obtain ⟨z2, hv⟩ := hv
      refine wz_iaload dX12_priceOf_71 (k64 hK) z2 ?_
      refine wp_bipush (v := 61) dX12_priceOf_72 (by decide) ?_
      refine wp_icmp_ne 81 dX12_priceOf_74 (by decide) (fun q => ?_) (fun q => ?_)
      · replace hv := hv.1 q
        exact hv Q hq
      · replace hv := hv.2 q
        exact hv Q hq
theorem wX12_priceOf_77 {x1 : Int32} {x2 : Int32} {x3 : Int32} {x4 : Int32} {x5 : Int32} {x6 : Int32} (hK : StK K)  (hv : Ev G (d + 1) mX12_priceOf 12 [(0, .ref 57), (1, .int x1), (2, .int x2), (3, .int x3), (4, .int x4), (5, .int (1 : Int32)), (6, .int (x6 + 1))] (K, n, V, J, O) r (K, n, V, J, O)) : Ev G (d + 1) mX12_priceOf 77 [(0, .ref 57), (1, .int x1), (2, .int x2), (3, .int x3), (4, .int x4), (5, .int x5), (6, .int x6)] (K, n, V, J, O) r (K, n, V, J, O) := by
  refine Ev.mk fun Q hq => ?_
  refine wp_iconst (v := 1) dX12_priceOf_77 (by decide) ?_
  refine wp_goto 82 dX12_priceOf_78 (by decide) ?_
  refine wx_istore (ls' := [(0, .ref 57), (1, .int x1), (2, .int x2), (3, .int x3), (4, .int x4), (5, .int (1 : Int32)), (6, .int x6)]) dX12_priceOf_82 (by decide) rfl ?_
  refine wx_iinc (v := 1) (ls' := [(0, .ref 57), (1, .int x1), (2, .int x2), (3, .int x3), (4, .int x4), (5, .int (1 : Int32)), (6, .int (x6 + 1))]) dX12_priceOf_84 rfl (by decide) (by decide) rfl ?_
  refine wp_goto 12 dX12_priceOf_87 (by decide) ?_
  exact hv Q hq
theorem wX12_priceOf_81 {x1 : Int32} {x2 : Int32} {x3 : Int32} {x4 : Int32} {x5 : Int32} {x6 : Int32} (hK : StK K)  (hv : Ev G (d + 1) mX12_priceOf 12 [(0, .ref 57), (1, .int x1), (2, .int x2), (3, .int x3), (4, .int x4), (5, .int (0 : Int32)), (6, .int (x6 + 1))] (K, n, V, J, O) r (K, n, V, J, O)) : Ev G (d + 1) mX12_priceOf 81 [(0, .ref 57), (1, .int x1), (2, .int x2), (3, .int x3), (4, .int x4), (5, .int x5), (6, .int x6)] (K, n, V, J, O) r (K, n, V, J, O) := by
  refine Ev.mk fun Q hq => ?_
  refine wp_iconst (v := 0) dX12_priceOf_81 (by decide) ?_
  refine wx_istore (ls' := [(0, .ref 57), (1, .int x1), (2, .int x2), (3, .int x3), (4, .int x4), (5, .int (0 : Int32)), (6, .int x6)]) dX12_priceOf_82 (by decide) rfl ?_
  refine wx_iinc (v := 1) (ls' := [(0, .ref 57), (1, .int x1), (2, .int x2), (3, .int x3), (4, .int x4), (5, .int (0 : Int32)), (6, .int (x6 + 1))]) dX12_priceOf_84 rfl (by decide) (by decide) rfl ?_
  refine wp_goto 12 dX12_priceOf_87 (by decide) ?_
  exact hv Q hq
theorem wX12_priceOf_146 {x1 : Int32} {x2 : Int32} {x3 : Int32} {x4 : Int32} {x5 : Int32} {x6 : Int32} (hK : StK K)  (hv : (∃ (v1 : Int32), Ev G d mX12_bySums 0 [(0, .ref 57), (1, .int x2), (2, .int x1)] (K, n, V, J, O) (some (.int v1)) (K, n, V, J, O) ∧ ((v1 = 0 → ((x5 = 0 → ((x4 = 0 → r = some (.int (x3 + x6))) ∧ (¬ x4 = 0 → r = some (.int ((x6 + (x3 / (4 : Int32))) + (1 : Int32)))))) ∧ (¬ x5 = 0 → r = some (.int (x6 + (2 : Int32)))))) ∧ (¬ v1 = 0 → r = some (.int ((2 : Int32) * x6)))))) : Ev G (d + 1) mX12_priceOf 146 [(0, .ref 57), (1, .int x1), (2, .int x2), (3, .int x3), (4, .int x4), (5, .int x5), (6, .int x6)] (K, n, V, J, O) r (K, n, V, J, O) := by
  refine Ev.mk fun Q hq => ?_
  refine wp_aload_n (i := 0) dX12_priceOf_146 rfl rfl ?_
  refine wp_iload_n (i := 2) dX12_priceOf_147 rfl rfl ?_
  refine wp_iload_n (i := 1) dX12_priceOf_148 rfl rfl ?_
  obtain ⟨v1, hE, hv⟩ := hv
  refine wz_callV (vs := [.int x2, .int x1]) (st := []) dX12_priceOf_149 (k57 hK) rfl k12_335_12 hE rfl (Nat.le_of_ble_eq_true rfl) (Nat.le_of_ble_eq_true rfl) ?_
  change wp _ _ _ _ _ [.int v1] _ _ _
  refine wp_if_eq 162 dX12_priceOf_152 (by decide) (fun q => ?_) (fun q => ?_)
  · replace hv := hv.1 q
    refine wp_iload dX12_priceOf_162 rfl ?_
    refine wp_if_eq 174 dX12_priceOf_164 (by decide) (fun q => ?_) (fun q => ?_)
    · replace hv := hv.1 q
      refine wp_iload dX12_priceOf_174 rfl ?_
      refine wp_if_eq 190 dX12_priceOf_176 (by decide) (fun q => ?_) (fun q => ?_)
      · replace hv := hv.1 q
        refine wp_iload_n (i := 3) dX12_priceOf_190 rfl rfl ?_
        refine wp_iload dX12_priceOf_191 rfl ?_
        refine wp_iadd dX12_priceOf_193 ?_
        obtain rfl := hv
        exact wp_ireturn dX12_priceOf_194 rfl rfl rfl hq
      · replace hv := hv.2 q
        refine wp_iload dX12_priceOf_179 rfl ?_
        refine wp_iload_n (i := 3) dX12_priceOf_181 rfl rfl ?_
        refine wp_iconst (v := 4) dX12_priceOf_182 (by decide) ?_
        refine wp_idiv dX12_priceOf_183 (by decide) ?_
        refine wp_iadd dX12_priceOf_184 ?_
        refine wp_iconst (v := 1) dX12_priceOf_185 (by decide) ?_
        refine wp_iadd dX12_priceOf_186 ?_
        refine wp_goto 194 dX12_priceOf_187 (by decide) ?_
        obtain rfl := hv
        exact wp_ireturn dX12_priceOf_194 rfl rfl rfl hq
    · replace hv := hv.2 q
      refine wp_iload dX12_priceOf_167 rfl ?_
      refine wp_iconst (v := 2) dX12_priceOf_169 (by decide) ?_
      refine wp_iadd dX12_priceOf_170 ?_
      refine wp_goto 194 dX12_priceOf_171 (by decide) ?_
      obtain rfl := hv
      exact wp_ireturn dX12_priceOf_194 rfl rfl rfl hq
  · replace hv := hv.2 q
    refine wp_iconst (v := 2) dX12_priceOf_155 (by decide) ?_
    refine wp_iload dX12_priceOf_156 rfl ?_
    refine wp_imul dX12_priceOf_158 ?_
    refine wp_goto 194 dX12_priceOf_159 (by decide) ?_
    obtain rfl := hv
    exact wp_ireturn dX12_priceOf_194 rfl rfl rfl hq
theorem wX12_isSize_0 {x0 : Int32} (hK : StK K)  (hv : (∃ (v1 : Int32), Ev G d mX12_within 0 [(0, .long x0.toInt64), (2, .long (1 : Int64)), (4, .long (999 : Int64))] (K, n, V, J, O) (some (.int v1)) (K, n, V, J, O) ∧ ((v1 = 0 ∨ v1 = 1) ∧ r = some (.int v1)))) : Ev G (d + 1) mX12_isSize 0 [(0, .int x0)] (K, n, V, J, O) r (K, n, V, J, O) := by
  refine Ev.mk fun Q hq => ?_
  refine wp_iload_n (i := 0) dX12_isSize_0 rfl rfl ?_
  refine wp_i2l dX12_isSize_1 ?_
  refine wp_lconst (v := 1) dX12_isSize_2 (by decide) ?_
  refine wp_ldc2 (v := 999) dX12_isSize_3 q12_357 ?_
  obtain ⟨v1, hE, hv⟩ := hv
  refine wz_callS (vs := [.long x0.toInt64, .long (1 : Int64), .long (999 : Int64)]) (st := []) dX12_isSize_6 k12_135 hE rfl (Nat.le_of_ble_eq_true rfl) (Nat.le_of_ble_eq_true rfl) ?_
  change wp _ _ _ _ _ [.int v1] _ _ _
  obtain ⟨z, hv⟩ := hv
  obtain rfl := hv
  exact wp_ireturn dX12_isSize_9 rfl (by rcases z with z | z <;> rw [z] <;> decide) rfl hq
theorem wX12_price_0 {x1 : Int32} {x2 : Int32} {x3 : Int32} (hK : StK K)  (hv : (∃ (v1 : Int32), Ev G d mX12_isStone 0 [(0, .ref 57), (1, .int x1)] (K, n, V, J, O) (some (.int v1)) (K, n, V, J, O) ∧ ((v1 = 0 → r = some (.int (-1 : Int32))) ∧ (¬ v1 = 0 → (∃ (v2 : Int32), Ev G d mX12_isAsk 0 [(0, .ref 57), (1, .int x2)] (K, n, V, J, O) (some (.int v2)) (K, n, V, J, O) ∧ ((v2 = 0 → r = some (.int (-1 : Int32))) ∧ (¬ v2 = 0 → (∃ (v3 : Int32), Ev G d mX12_isSize 0 [(0, .int x3)] (K, n, V, J, O) (some (.int v3)) (K, n, V, J, O) ∧ ((v3 = 0 → r = some (.int (-1 : Int32))) ∧ (¬ v3 = 0 → (∃ (v4 : Int32), Ev G d mX12_priceOf 0 [(0, .ref 57), (1, .int x1), (2, .int x2), (3, .int x3)] (K, n, V, J, O) (some (.int v4)) (K, n, V, J, O) ∧ r = some (.int v4)))))))))))) : Ev G (d + 1) mX12_price 0 [(0, .ref 57), (1, .int x1), (2, .int x2), (3, .int x3)] (K, n, V, J, O) r (K, n, V, J, O) := by
  refine Ev.mk fun Q hq => ?_
  refine wp_aload_n (i := 0) dX12_price_0 rfl rfl ?_
  refine wp_iload_n (i := 1) dX12_price_1 rfl rfl ?_
  obtain ⟨v1, hE, hv⟩ := hv
  refine wz_callV (vs := [.int x1]) (st := []) dX12_price_2 (k57 hK) rfl k12_302_12 hE rfl (Nat.le_of_ble_eq_true rfl) (Nat.le_of_ble_eq_true rfl) ?_
  change wp _ _ _ _ _ [.int v1] _ _ _
  refine wp_if_eq 33 dX12_price_5 (by decide) (fun q => ?_) (fun q => ?_)
  · replace hv := hv.1 q
    refine wp_iconst (v := -1) dX12_price_33 (by decide) ?_
    obtain rfl := hv
    exact wp_ireturn dX12_price_34 rfl rfl rfl hq
  · replace hv := hv.2 q
    refine wp_aload_n (i := 0) dX12_price_8 rfl rfl ?_
    refine wp_iload_n (i := 2) dX12_price_9 rfl rfl ?_
    obtain ⟨v2, hE, hv⟩ := hv
    refine wz_callV (vs := [.int x2]) (st := []) dX12_price_10 (k57 hK) rfl k12_204_12 hE rfl (Nat.le_of_ble_eq_true rfl) (Nat.le_of_ble_eq_true rfl) ?_
    change wp _ _ _ _ _ [.int v2] _ _ _
    refine wp_if_eq 33 dX12_price_13 (by decide) (fun q => ?_) (fun q => ?_)
    · replace hv := hv.1 q
      refine wp_iconst (v := -1) dX12_price_33 (by decide) ?_
      obtain rfl := hv
      exact wp_ireturn dX12_price_34 rfl rfl rfl hq
    · replace hv := hv.2 q
      refine wp_iload_n (i := 3) dX12_price_16 rfl rfl ?_
      obtain ⟨v3, hE, hv⟩ := hv
      refine wz_callS (vs := [.int x3]) (st := []) dX12_price_17 k12_359 hE rfl (Nat.le_of_ble_eq_true rfl) (Nat.le_of_ble_eq_true rfl) ?_
      change wp _ _ _ _ _ [.int v3] _ _ _
      refine wp_if_eq 33 dX12_price_20 (by decide) (fun q => ?_) (fun q => ?_)
      · replace hv := hv.1 q
        refine wp_iconst (v := -1) dX12_price_33 (by decide) ?_
        obtain rfl := hv
        exact wp_ireturn dX12_price_34 rfl rfl rfl hq
      · replace hv := hv.2 q
        refine wp_aload_n (i := 0) dX12_price_23 rfl rfl ?_
        refine wp_iload_n (i := 1) dX12_price_24 rfl rfl ?_
        refine wp_iload_n (i := 2) dX12_price_25 rfl rfl ?_
        refine wp_iload_n (i := 3) dX12_price_26 rfl rfl ?_
        obtain ⟨v4, hE, hv⟩ := hv
        refine wz_callV (vs := [.int x1, .int x2, .int x3]) (st := []) dX12_price_27 (k57 hK) rfl k12_362_12 hE rfl (Nat.le_of_ble_eq_true rfl) (Nat.le_of_ble_eq_true rfl) ?_
        change wp _ _ _ _ _ [.int v4] _ _ _
        refine wp_goto 34 dX12_price_30 (by decide) ?_
        obtain rfl := hv
        exact wp_ireturn dX12_price_34 rfl rfl rfl hq
theorem wX12_putPriceOf_0 {x1 : Int32} {x2 : Int32} (hK : StK K)  (hv : (∃ (v1 : Int32), Ev G d mX12_levels 0 [(0, .int x2)] (K, n, V, J, O) (some (.int v1)) (K, n, V, J, O) ∧ (vp_in x1 10 ∧ (((V 70 (x1).toNatClampNeg) = (1 : Int32) → r = some (.int (1 : Int32))) ∧ ((V 70 (x1).toNatClampNeg) = (2 : Int32) → r = some (.int (v1 + (x2 / (2 : Int32))))) ∧ ((V 70 (x1).toNatClampNeg) = (3 : Int32) → r = some (.int v1)) ∧ ((V 70 (x1).toNatClampNeg) = (4 : Int32) → r = some (.int (1 : Int32))) ∧ ((V 70 (x1).toNatClampNeg) = (5 : Int32) → r = some (.int ((2 : Int32) * v1))) ∧ ((V 70 (x1).toNatClampNeg) = (6 : Int32) → r = some (.int (2 : Int32))) ∧ ((V 70 (x1).toNatClampNeg) = (7 : Int32) → r = some (.int (v1 + (x2 / (2 : Int32))))) ∧ ((¬ (V 70 (x1).toNatClampNeg) = (1 : Int32) ∧ ¬ (V 70 (x1).toNatClampNeg) = (2 : Int32) ∧ ¬ (V 70 (x1).toNatClampNeg) = (3 : Int32) ∧ ¬ (V 70 (x1).toNatClampNeg) = (4 : Int32) ∧ ¬ (V 70 (x1).toNatClampNeg) = (5 : Int32) ∧ ¬ (V 70 (x1).toNatClampNeg) = (6 : Int32) ∧ ¬ (V 70 (x1).toNatClampNeg) = (7 : Int32)) → r = some (.int (0 : Int32))))))) : Ev G (d + 1) mX12_putPriceOf 0 [(0, .ref 57), (1, .int x1), (2, .int x2)] (K, n, V, J, O) r (K, n, V, J, O) := by
  refine Ev.mk fun Q hq => ?_
  refine wp_iload_n (i := 2) dX12_putPriceOf_0 rfl rfl ?_
  obtain ⟨v1, hE, hv⟩ := hv
  refine wz_callS (vs := [.int x2]) (st := []) dX12_putPriceOf_1 k12_354 hE rfl (Nat.le_of_ble_eq_true rfl) (Nat.le_of_ble_eq_true rfl) ?_
  change wp _ _ _ _ _ [.int v1] _ _ _
  refine wx_istore_n (ls' := [(0, .ref 57), (1, .int x1), (2, .int x2), (3, .int v1)]) (i := 3) dX12_putPriceOf_4 rfl (by decide) rfl ?_
  refine wp_aload_n (i := 0) dX12_putPriceOf_5 rfl rfl ?_
  refine wz_getR (b := 70) dX12_putPriceOf_6 (k57 hK) (f12_47 _ (by decide)) rfl ?_
  refine wp_iload_n (i := 1) dX12_putPriceOf_9 rfl rfl ?_
  obtain ⟨z2, hv⟩ := hv
  refine wz_iaload dX12_putPriceOf_10 (k70 hK) z2 ?_
  by_cases q0 : (V 70 (x1).toNatClampNeg) = (1 : Int32)
  · refine wx_tableIn (off := 41) (1 : Int32) q0 52 dX12_putPriceOf_11 (by decide) (by decide) (by decide +kernel) (by decide) ?_
    replace hv := hv.1 q0
    refine wp_iconst (v := 1) dX12_putPriceOf_52 (by decide) ?_
    obtain rfl := hv
    exact wp_ireturn dX12_putPriceOf_53 rfl rfl rfl hq
  by_cases q1 : (V 70 (x1).toNatClampNeg) = (2 : Int32)
  · refine wx_tableIn (off := 43) (2 : Int32) q1 54 dX12_putPriceOf_11 (by decide) (by decide) (by decide +kernel) (by decide) ?_
    replace hv := hv.2.1 q1
    refine wp_iload_n (i := 3) dX12_putPriceOf_54 rfl rfl ?_
    refine wp_iload_n (i := 2) dX12_putPriceOf_55 rfl rfl ?_
    refine wp_iconst (v := 2) dX12_putPriceOf_56 (by decide) ?_
    refine wp_idiv dX12_putPriceOf_57 (by decide) ?_
    refine wp_iadd dX12_putPriceOf_58 ?_
    obtain rfl := hv
    exact wp_ireturn dX12_putPriceOf_59 rfl rfl rfl hq
  by_cases q2 : (V 70 (x1).toNatClampNeg) = (3 : Int32)
  · refine wx_tableIn (off := 49) (3 : Int32) q2 60 dX12_putPriceOf_11 (by decide) (by decide) (by decide +kernel) (by decide) ?_
    replace hv := hv.2.2.1 q2
    refine wp_iload_n (i := 3) dX12_putPriceOf_60 rfl rfl ?_
    obtain rfl := hv
    exact wp_ireturn dX12_putPriceOf_61 rfl rfl rfl hq
  by_cases q3 : (V 70 (x1).toNatClampNeg) = (4 : Int32)
  · refine wx_tableIn (off := 41) (4 : Int32) q3 52 dX12_putPriceOf_11 (by decide) (by decide) (by decide +kernel) (by decide) ?_
    replace hv := hv.2.2.2.1 q3
    refine wp_iconst (v := 1) dX12_putPriceOf_52 (by decide) ?_
    obtain rfl := hv
    exact wp_ireturn dX12_putPriceOf_53 rfl rfl rfl hq
  by_cases q4 : (V 70 (x1).toNatClampNeg) = (5 : Int32)
  · refine wx_tableIn (off := 51) (5 : Int32) q4 62 dX12_putPriceOf_11 (by decide) (by decide) (by decide +kernel) (by decide) ?_
    replace hv := hv.2.2.2.2.1 q4
    refine wp_iconst (v := 2) dX12_putPriceOf_62 (by decide) ?_
    refine wp_iload_n (i := 3) dX12_putPriceOf_63 rfl rfl ?_
    refine wp_imul dX12_putPriceOf_64 ?_
    obtain rfl := hv
    exact wp_ireturn dX12_putPriceOf_65 rfl rfl rfl hq
  by_cases q5 : (V 70 (x1).toNatClampNeg) = (6 : Int32)
  · refine wx_tableIn (off := 55) (6 : Int32) q5 66 dX12_putPriceOf_11 (by decide) (by decide) (by decide +kernel) (by decide) ?_
    replace hv := hv.2.2.2.2.2.1 q5
    refine wp_iconst (v := 2) dX12_putPriceOf_66 (by decide) ?_
    obtain rfl := hv
    exact wp_ireturn dX12_putPriceOf_67 rfl rfl rfl hq
  by_cases q6 : (V 70 (x1).toNatClampNeg) = (7 : Int32)
  · refine wx_tableIn (off := 43) (7 : Int32) q6 54 dX12_putPriceOf_11 (by decide) (by decide) (by decide +kernel) (by decide) ?_
    replace hv := hv.2.2.2.2.2.2.1 q6
    refine wp_iload_n (i := 3) dX12_putPriceOf_54 rfl rfl ?_
    refine wp_iload_n (i := 2) dX12_putPriceOf_55 rfl rfl ?_
    refine wp_iconst (v := 2) dX12_putPriceOf_56 (by decide) ?_
    refine wp_idiv dX12_putPriceOf_57 (by decide) ?_
    refine wp_iadd dX12_putPriceOf_58 ?_
    obtain rfl := hv
    exact wp_ireturn dX12_putPriceOf_59 rfl rfl rfl hq
  refine wp_tableOut 68 dX12_putPriceOf_11 (by have n0 := lv_neT q0 (show ((1 : Int32)).toInt = 1 by decide); have n1 := lv_neT q1 (show ((2 : Int32)).toInt = 2 by decide); have n2 := lv_neT q2 (show ((3 : Int32)).toInt = 3 by decide); have n3 := lv_neT q3 (show ((4 : Int32)).toInt = 4 by decide); have n4 := lv_neT q4 (show ((5 : Int32)).toInt = 5 by decide); have n5 := lv_neT q5 (show ((6 : Int32)).toInt = 6 by decide); have n6 := lv_neT q6 (show ((7 : Int32)).toInt = 7 by decide); omega) (by decide) ?_
  replace hv := hv.2.2.2.2.2.2.2 ⟨q0, q1, q2, q3, q4, q5, q6⟩
  refine wp_iconst (v := 0) dX12_putPriceOf_68 (by decide) ?_
  obtain rfl := hv
  exact wp_ireturn dX12_putPriceOf_69 rfl rfl rfl hq
theorem wX12_putPrice_0 {x1 : Int32} {x2 : Int32} (hK : StK K)  (hv : (∃ (v1 : Int32), Ev G d mX12_isStone 0 [(0, .ref 57), (1, .int x1)] (K, n, V, J, O) (some (.int v1)) (K, n, V, J, O) ∧ ((v1 = 0 → r = some (.int (-1 : Int32))) ∧ (¬ v1 = 0 → (∃ (v2 : Int32), Ev G d mX12_isSize 0 [(0, .int x2)] (K, n, V, J, O) (some (.int v2)) (K, n, V, J, O) ∧ ((v2 = 0 → r = some (.int (-1 : Int32))) ∧ (¬ v2 = 0 → (∃ (v3 : Int32), Ev G d mX12_putPriceOf 0 [(0, .ref 57), (1, .int x1), (2, .int x2)] (K, n, V, J, O) (some (.int v3)) (K, n, V, J, O) ∧ r = some (.int v3))))))))) : Ev G (d + 1) mX12_putPrice 0 [(0, .ref 57), (1, .int x1), (2, .int x2)] (K, n, V, J, O) r (K, n, V, J, O) := by
  refine Ev.mk fun Q hq => ?_
  refine wp_aload_n (i := 0) dX12_putPrice_0 rfl rfl ?_
  refine wp_iload_n (i := 1) dX12_putPrice_1 rfl rfl ?_
  obtain ⟨v1, hE, hv⟩ := hv
  refine wz_callV (vs := [.int x1]) (st := []) dX12_putPrice_2 (k57 hK) rfl k12_302_12 hE rfl (Nat.le_of_ble_eq_true rfl) (Nat.le_of_ble_eq_true rfl) ?_
  change wp _ _ _ _ _ [.int v1] _ _ _
  refine wp_if_eq 24 dX12_putPrice_5 (by decide) (fun q => ?_) (fun q => ?_)
  · replace hv := hv.1 q
    refine wp_iconst (v := -1) dX12_putPrice_24 (by decide) ?_
    obtain rfl := hv
    exact wp_ireturn dX12_putPrice_25 rfl rfl rfl hq
  · replace hv := hv.2 q
    refine wp_iload_n (i := 2) dX12_putPrice_8 rfl rfl ?_
    obtain ⟨v2, hE, hv⟩ := hv
    refine wz_callS (vs := [.int x2]) (st := []) dX12_putPrice_9 k12_359 hE rfl (Nat.le_of_ble_eq_true rfl) (Nat.le_of_ble_eq_true rfl) ?_
    change wp _ _ _ _ _ [.int v2] _ _ _
    refine wp_if_eq 24 dX12_putPrice_12 (by decide) (fun q => ?_) (fun q => ?_)
    · replace hv := hv.1 q
      refine wp_iconst (v := -1) dX12_putPrice_24 (by decide) ?_
      obtain rfl := hv
      exact wp_ireturn dX12_putPrice_25 rfl rfl rfl hq
    · replace hv := hv.2 q
      refine wp_aload_n (i := 0) dX12_putPrice_15 rfl rfl ?_
      refine wp_iload_n (i := 1) dX12_putPrice_16 rfl rfl ?_
      refine wp_iload_n (i := 2) dX12_putPrice_17 rfl rfl ?_
      obtain ⟨v3, hE, hv⟩ := hv
      refine wz_callV (vs := [.int x1, .int x2]) (st := []) dX12_putPrice_18 (k57 hK) rfl k12_365_12 hE rfl (Nat.le_of_ble_eq_true rfl) (Nat.le_of_ble_eq_true rfl) ?_
      change wp _ _ _ _ _ [.int v3] _ _ _
      refine wp_goto 25 dX12_putPrice_21 (by decide) ?_
      obtain rfl := hv
      exact wp_ireturn dX12_putPrice_25 rfl rfl rfl hq
theorem wX12_isPlan_0 {x1 : Int32} (hK : StK K)  (hv : ((x1 < 0 → r = some (.int (0 : Int32))) ∧ (¬ x1 < 0 → (((x1 >>> ((V 57 25) &&& 31)) ≠ 0 → r = some (.int (0 : Int32))) ∧ ((x1 >>> ((V 57 25) &&& 31)) = 0 → r = some (.int (1 : Int32))))))) : Ev G d mX12_isPlan 0 [(0, .ref 57), (1, .int x1)] (K, n, V, J, O) r (K, n, V, J, O) := by
  refine Ev.mk fun Q hq => ?_
  refine wp_iload_n (i := 1) dX12_isPlan_0 rfl rfl ?_
  refine wp_if_lt 17 dX12_isPlan_1 (by decide) (fun q => ?_) (fun q => ?_)
  · replace hv := hv.1 q
    refine wp_iconst (v := 0) dX12_isPlan_17 (by decide) ?_
    obtain rfl := hv
    exact wp_ireturn dX12_isPlan_18 rfl (by decide) rfl hq
  · replace hv := hv.2 q
    refine wp_iload_n (i := 1) dX12_isPlan_4 rfl rfl ?_
    refine wp_aload_n (i := 0) dX12_isPlan_5 rfl rfl ?_
    refine wz_getI dX12_isPlan_6 (k57 hK) (f12_153 _ (by decide)) rfl ?_
    refine wp_ishr dX12_isPlan_9 ?_
    refine wp_if_ne 17 dX12_isPlan_10 (by decide) (fun q => ?_) (fun q => ?_)
    · replace hv := hv.1 q
      refine wp_iconst (v := 0) dX12_isPlan_17 (by decide) ?_
      obtain rfl := hv
      exact wp_ireturn dX12_isPlan_18 rfl (by decide) rfl hq
    · replace hv := hv.2 q
      refine wp_iconst (v := 1) dX12_isPlan_13 (by decide) ?_
      refine wp_goto 18 dX12_isPlan_14 (by decide) ?_
      obtain rfl := hv
      exact wp_ireturn dX12_isPlan_18 rfl (by decide) rfl hq
theorem wX12_cheapest_0 {x1 : Int32} {x2 : Int32} {x3 : Int32} (hK : StK K)  (hv : Ev G (d + 1) mX12_cheapest 12 [(0, .ref 57), (1, .int x1), (2, .int x2), (3, .int x3), (4, .int (-2 : Int32)), (5, .int ((V 57 25) - (1 : Int32)))] (K, n, V, J, O) r (K, n, V, J, O)) : Ev G (d + 1) mX12_cheapest 0 [(0, .ref 57), (1, .int x1), (2, .int x2), (3, .int x3)] (K, n, V, J, O) r (K, n, V, J, O) := by
  refine Ev.mk fun Q hq => ?_
  refine wp_bipush (v := -2) dX12_cheapest_0 (by decide) ?_
  refine wx_istore (ls' := [(0, .ref 57), (1, .int x1), (2, .int x2), (3, .int x3), (4, .int (-2 : Int32))]) dX12_cheapest_2 (by decide) rfl ?_
  refine wp_aload_n (i := 0) dX12_cheapest_4 rfl rfl ?_
  refine wz_getI dX12_cheapest_5 (k57 hK) (f12_153 _ (by decide)) rfl ?_
  refine wp_iconst (v := 1) dX12_cheapest_8 (by decide) ?_
  refine wp_isub dX12_cheapest_9 ?_
  refine wx_istore (ls' := [(0, .ref 57), (1, .int x1), (2, .int x2), (3, .int x3), (4, .int (-2 : Int32)), (5, .int ((V 57 25) - (1 : Int32)))]) dX12_cheapest_10 (by decide) rfl ?_
  exact hv Q hq
theorem wX12_cheapest_12 {x1 : Int32} {x2 : Int32} {x3 : Int32} {x4 : Int32} {x5 : Int32} (hK : StK K)  (hv : ((x5 < 0 → r = some (.int x4)) ∧ (¬ x5 < 0 → ((((x1 >>> (x5 &&& 31)) &&& (1 : Int32)) ≠ (1 : Int32) → Ev G (d + 1) mX12_cheapest 12 [(0, .ref 57), (1, .int x1), (2, .int x2), (3, .int x3), (4, .int x4), (5, .int (x5 + (-1)))] (K, n, V, J, O) r (K, n, V, J, O)) ∧ (((x1 >>> (x5 &&& 31)) &&& (1 : Int32)) = (1 : Int32) → (∃ (v1 : Int32), Ev G d mX12_priceOf 0 [(0, .ref 57), (1, .int x5), (2, .int x2), (3, .int x3)] (K, n, V, J, O) (some (.int v1)) (K, n, V, J, O) ∧ ((v1 < 0 → Ev G (d + 1) mX12_cheapest 12 [(0, .ref 57), (1, .int x1), (2, .int x2), (3, .int x3), (4, .int x4), (5, .int (x5 + (-1)))] (K, n, V, J, O) r (K, n, V, J, O)) ∧ (¬ v1 < 0 → ((x4 < 0 → Ev G (d + 1) mX12_cheapest 12 [(0, .ref 57), (1, .int x1), (2, .int x2), (3, .int x3), (4, .int x5), (5, .int (x5 + (-1)))] (K, n, V, J, O) r (K, n, V, J, O)) ∧ (¬ x4 < 0 → (∃ (v2 : Int32), Ev G d mX12_priceOf 0 [(0, .ref 57), (1, .int x5), (2, .int x2), (3, .int x3)] (K, n, V, J, O) (some (.int v2)) (K, n, V, J, O) ∧ (∃ (v3 : Int32), Ev G d mX12_priceOf 0 [(0, .ref 57), (1, .int x4), (2, .int x2), (3, .int x3)] (K, n, V, J, O) (some (.int v3)) (K, n, V, J, O) ∧ ((v3 < v2 → Ev G (d + 1) mX12_cheapest 12 [(0, .ref 57), (1, .int x1), (2, .int x2), (3, .int x3), (4, .int x4), (5, .int (x5 + (-1)))] (K, n, V, J, O) r (K, n, V, J, O)) ∧ (¬ v3 < v2 → Ev G (d + 1) mX12_cheapest 12 [(0, .ref 57), (1, .int x1), (2, .int x2), (3, .int x3), (4, .int x5), (5, .int (x5 + (-1)))] (K, n, V, J, O) r (K, n, V, J, O))))))))))))))) : Ev G (d + 1) mX12_cheapest 12 [(0, .ref 57), (1, .int x1), (2, .int x2), (3, .int x3), (4, .int x4), (5, .int x5)] (K, n, V, J, O) r (K, n, V, J, O) := by
  refine Ev.mk fun Q hq => ?_
  refine wp_iload dX12_cheapest_12 rfl ?_
  refine wp_if_lt 89 dX12_cheapest_14 (by decide) (fun q => ?_) (fun q => ?_)
  · replace hv := hv.1 q
    refine wp_iload dX12_cheapest_89 rfl ?_
    obtain rfl := hv
    exact wp_ireturn dX12_cheapest_91 rfl rfl rfl hq
  · replace hv := hv.2 q
    refine wp_iload_n (i := 1) dX12_cheapest_17 rfl rfl ?_
    refine wp_iload dX12_cheapest_18 rfl ?_
    refine wp_ishr dX12_cheapest_20 ?_
    refine wp_iconst (v := 1) dX12_cheapest_21 (by decide) ?_
    refine wp_iand dX12_cheapest_22 ?_
    refine wp_iconst (v := 1) dX12_cheapest_23 (by decide) ?_
    refine wp_icmp_ne 42 dX12_cheapest_24 (by decide) (fun q => ?_) (fun q => ?_)
    · replace hv := hv.1 q
      refine wp_iconst (v := 0) dX12_cheapest_42 (by decide) ?_
      refine wx_istore (ls' := [(0, .ref 57), (1, .int x1), (2, .int x2), (3, .int x3), (4, .int x4), (5, .int x5), (6, .int (0 : Int32))]) dX12_cheapest_43 (by decide) rfl ?_
      refine wp_iload dX12_cheapest_45 rfl ?_
      refine wp_if_eq 79 dX12_cheapest_47 (by decide) (fun _ => ?_) (fun q => absurd q (by decide))
      refine wp_iload dX12_cheapest_79 rfl ?_
      refine wx_istore (ls' := [(0, .ref 57), (1, .int x1), (2, .int x2), (3, .int x3), (4, .int x4), (5, .int x5), (6, .int (0 : Int32))]) dX12_cheapest_81 (by decide) rfl ?_
      refine wx_iinc (v := -1) (ls' := [(0, .ref 57), (1, .int x1), (2, .int x2), (3, .int x3), (4, .int x4), (5, .int (x5 + (-1))), (6, .int (0 : Int32))]) dX12_cheapest_83 rfl (by decide) (by decide) rfl ?_
      refine wp_goto 12 dX12_cheapest_86 (by decide) ?_
      refine wx_sub (ls' := [(0, .ref 57), (1, .int x1), (2, .int x2), (3, .int x3), (4, .int x4), (5, .int (x5 + (-1)))]) [0, 1, 2, 3, 4, 5] rfl ?_
      exact hv Q hq
    · replace hv := hv.2 q
      refine wp_aload_n (i := 0) dX12_cheapest_27 rfl rfl ?_
      refine wp_iload dX12_cheapest_28 rfl ?_
      refine wp_iload_n (i := 2) dX12_cheapest_30 rfl rfl ?_
      refine wp_iload_n (i := 3) dX12_cheapest_31 rfl rfl ?_
      obtain ⟨v1, hE, hv⟩ := hv
      refine wz_callV (vs := [.int x5, .int x2, .int x3]) (st := []) dX12_cheapest_32 (k57 hK) rfl k12_362_12 hE rfl (Nat.le_of_ble_eq_true rfl) (Nat.le_of_ble_eq_true rfl) ?_
      change wp _ _ _ _ _ [.int v1] _ _ _
      refine wp_if_lt 42 dX12_cheapest_35 (by decide) (fun q => ?_) (fun q => ?_)
      · replace hv := hv.1 q
        refine wp_iconst (v := 0) dX12_cheapest_42 (by decide) ?_
        refine wx_istore (ls' := [(0, .ref 57), (1, .int x1), (2, .int x2), (3, .int x3), (4, .int x4), (5, .int x5), (6, .int (0 : Int32))]) dX12_cheapest_43 (by decide) rfl ?_
        refine wp_iload dX12_cheapest_45 rfl ?_
        refine wp_if_eq 79 dX12_cheapest_47 (by decide) (fun _ => ?_) (fun q => absurd q (by decide))
        refine wp_iload dX12_cheapest_79 rfl ?_
        refine wx_istore (ls' := [(0, .ref 57), (1, .int x1), (2, .int x2), (3, .int x3), (4, .int x4), (5, .int x5), (6, .int (0 : Int32))]) dX12_cheapest_81 (by decide) rfl ?_
        refine wx_iinc (v := -1) (ls' := [(0, .ref 57), (1, .int x1), (2, .int x2), (3, .int x3), (4, .int x4), (5, .int (x5 + (-1))), (6, .int (0 : Int32))]) dX12_cheapest_83 rfl (by decide) (by decide) rfl ?_
        refine wp_goto 12 dX12_cheapest_86 (by decide) ?_
        refine wx_sub (ls' := [(0, .ref 57), (1, .int x1), (2, .int x2), (3, .int x3), (4, .int x4), (5, .int (x5 + (-1)))]) [0, 1, 2, 3, 4, 5] rfl ?_
        exact hv Q hq
      · replace hv := hv.2 q
        refine wp_iconst (v := 1) dX12_cheapest_38 (by decide) ?_
        refine wp_goto 43 dX12_cheapest_39 (by decide) ?_
        refine wx_istore (ls' := [(0, .ref 57), (1, .int x1), (2, .int x2), (3, .int x3), (4, .int x4), (5, .int x5), (6, .int (1 : Int32))]) dX12_cheapest_43 (by decide) rfl ?_
        refine wp_iload dX12_cheapest_45 rfl ?_
        refine wp_if_eq 79 dX12_cheapest_47 (by decide) (fun q => absurd q (by decide)) (fun _ => ?_)
        refine wp_iload dX12_cheapest_50 rfl ?_
        refine wp_if_lt 74 dX12_cheapest_52 (by decide) (fun q => ?_) (fun q => ?_)
        · replace hv := hv.1 q
          refine wp_iload dX12_cheapest_74 rfl ?_
          refine wp_goto 81 dX12_cheapest_76 (by decide) ?_
          refine wx_istore (ls' := [(0, .ref 57), (1, .int x1), (2, .int x2), (3, .int x3), (4, .int x5), (5, .int x5), (6, .int (1 : Int32))]) dX12_cheapest_81 (by decide) rfl ?_
          refine wx_iinc (v := -1) (ls' := [(0, .ref 57), (1, .int x1), (2, .int x2), (3, .int x3), (4, .int x5), (5, .int (x5 + (-1))), (6, .int (1 : Int32))]) dX12_cheapest_83 rfl (by decide) (by decide) rfl ?_
          refine wp_goto 12 dX12_cheapest_86 (by decide) ?_
          refine wx_sub (ls' := [(0, .ref 57), (1, .int x1), (2, .int x2), (3, .int x3), (4, .int x5), (5, .int (x5 + (-1)))]) [0, 1, 2, 3, 4, 5] rfl ?_
          exact hv Q hq
        · replace hv := hv.2 q
          refine wp_aload_n (i := 0) dX12_cheapest_55 rfl rfl ?_
          refine wp_iload dX12_cheapest_56 rfl ?_
          refine wp_iload_n (i := 2) dX12_cheapest_58 rfl rfl ?_
          refine wp_iload_n (i := 3) dX12_cheapest_59 rfl rfl ?_
          obtain ⟨v2, hE, hv⟩ := hv
          refine wz_callV (vs := [.int x5, .int x2, .int x3]) (st := []) dX12_cheapest_60 (k57 hK) rfl k12_362_12 hE rfl (Nat.le_of_ble_eq_true rfl) (Nat.le_of_ble_eq_true rfl) ?_
          change wp _ _ _ _ _ [.int v2] _ _ _
          refine wp_aload_n (i := 0) dX12_cheapest_63 rfl rfl ?_
          refine wp_iload dX12_cheapest_64 rfl ?_
          refine wp_iload_n (i := 2) dX12_cheapest_66 rfl rfl ?_
          refine wp_iload_n (i := 3) dX12_cheapest_67 rfl rfl ?_
          obtain ⟨v3, hE, hv⟩ := hv
          refine wz_callV (vs := [.int x4, .int x2, .int x3]) (st := [.int v2]) dX12_cheapest_68 (k57 hK) rfl k12_362_12 hE rfl (Nat.le_of_ble_eq_true rfl) (Nat.le_of_ble_eq_true rfl) ?_
          change wp _ _ _ _ _ [.int v3, .int v2] _ _ _
          refine wp_icmp_gt 79 dX12_cheapest_71 (by decide) (fun q => ?_) (fun q => ?_)
          · replace hv := hv.1 q
            refine wp_iload dX12_cheapest_79 rfl ?_
            refine wx_istore (ls' := [(0, .ref 57), (1, .int x1), (2, .int x2), (3, .int x3), (4, .int x4), (5, .int x5), (6, .int (1 : Int32))]) dX12_cheapest_81 (by decide) rfl ?_
            refine wx_iinc (v := -1) (ls' := [(0, .ref 57), (1, .int x1), (2, .int x2), (3, .int x3), (4, .int x4), (5, .int (x5 + (-1))), (6, .int (1 : Int32))]) dX12_cheapest_83 rfl (by decide) (by decide) rfl ?_
            refine wp_goto 12 dX12_cheapest_86 (by decide) ?_
            refine wx_sub (ls' := [(0, .ref 57), (1, .int x1), (2, .int x2), (3, .int x3), (4, .int x4), (5, .int (x5 + (-1)))]) [0, 1, 2, 3, 4, 5] rfl ?_
            exact hv Q hq
          · replace hv := hv.2 q
            refine wp_iload dX12_cheapest_74 rfl ?_
            refine wp_goto 81 dX12_cheapest_76 (by decide) ?_
            refine wx_istore (ls' := [(0, .ref 57), (1, .int x1), (2, .int x2), (3, .int x3), (4, .int x5), (5, .int x5), (6, .int (1 : Int32))]) dX12_cheapest_81 (by decide) rfl ?_
            refine wx_iinc (v := -1) (ls' := [(0, .ref 57), (1, .int x1), (2, .int x2), (3, .int x3), (4, .int x5), (5, .int (x5 + (-1))), (6, .int (1 : Int32))]) dX12_cheapest_83 rfl (by decide) (by decide) rfl ?_
            refine wp_goto 12 dX12_cheapest_86 (by decide) ?_
            refine wx_sub (ls' := [(0, .ref 57), (1, .int x1), (2, .int x2), (3, .int x3), (4, .int x5), (5, .int (x5 + (-1)))]) [0, 1, 2, 3, 4, 5] rfl ?_
            exact hv Q hq
theorem wX12_planOf_0 {x1 : Int32} {x2 : Int32} {x3 : Int32} (hK : StK K)  (hv : Ev G (d + 1) mX12_planOf 6 [(0, .ref 57), (1, .int x1), (2, .int x2), (3, .int x3), (4, .long (0 : Int64)), (6, .int (0 : Int32))] (K, n, V, J, O) r (K, n, V, J, O)) : Ev G (d + 1) mX12_planOf 0 [(0, .ref 57), (1, .int x1), (2, .int x2), (3, .int x3)] (K, n, V, J, O) r (K, n, V, J, O) := by
  refine Ev.mk fun Q hq => ?_
  refine wp_lconst (v := 0) dX12_planOf_0 (by decide) ?_
  refine wx_lstore (ls' := [(0, .ref 57), (1, .int x1), (2, .int x2), (3, .int x3), (4, .long (0 : Int64))]) dX12_planOf_1 (by decide) rfl ?_
  refine wp_iconst (v := 0) dX12_planOf_3 (by decide) ?_
  refine wx_istore (ls' := [(0, .ref 57), (1, .int x1), (2, .int x2), (3, .int x3), (4, .long (0 : Int64)), (6, .int (0 : Int32))]) dX12_planOf_4 (by decide) rfl ?_
  exact hv Q hq
theorem wX12_planOf_6 {x1 : Int32} {x2 : Int32} {x3 : Int32} {l4 : Int64} {x6 : Int32} (hK : StK K)  (hv : (((V 57 14) ≤ x6 → Ev G (d + 1) mX12_planOf 94 [(0, .ref 57), (1, .int x1), (2, .int x2), (3, .int x3), (4, .long l4), (6, .int (0 : Int32))] (K, n, V, J, O) r (K, n, V, J, O)) ∧ (¬ (V 57 14) ≤ x6 → (vp_in x6 10 ∧ (((V 69 (x6).toNatClampNeg) ≤ 0 → (vp_in x6 10 ∧ (((V 69 (x6).toNatClampNeg) ≤ 0 → Ev G (d + 1) mX12_planOf 6 [(0, .ref 57), (1, .int x1), (2, .int x2), (3, .int x3), (4, .long (l4 + (0 : Int64))), (6, .int (x6 + 1))] (K, n, V, J, O) r (K, n, V, J, O)) ∧ (¬ (V 69 (x6).toNatClampNeg) ≤ 0 → (vp_in x6 10 ∧ (∃ (v4 : Int32), Ev G d mX12_priceOf 0 [(0, .ref 57), (1, .int (0 : Int32)), (2, .int x6), (3, .int x2)] (K, n, V, J, O) (some (.int v4)) (K, n, V, J, O) ∧ Ev G (d + 1) mX12_planOf 6 [(0, .ref 57), (1, .int x1), (2, .int x2), (3, .int x3), (4, .long (l4 + (((V 69 (x6).toNatClampNeg).toInt64) * (v4.toInt64)))), (6, .int (x6 + 1))] (K, n, V, J, O) r (K, n, V, J, O))))))) ∧ (¬ (V 69 (x6).toNatClampNeg) ≤ 0 → (∃ (v5 : Int32), Ev G d mX12_cheapest 0 [(0, .ref 57), (1, .int x1), (2, .int x6), (3, .int x2)] (K, n, V, J, O) (some (.int v5)) (K, n, V, J, O) ∧ ((0 ≤ v5 → (vp_in x6 10 ∧ (((V 69 (x6).toNatClampNeg) ≤ 0 → Ev G (d + 1) mX12_planOf 6 [(0, .ref 57), (1, .int x1), (2, .int x2), (3, .int x3), (4, .long (l4 + (0 : Int64))), (6, .int (x6 + 1))] (K, n, V, J, O) r (K, n, V, J, O)) ∧ (¬ (V 69 (x6).toNatClampNeg) ≤ 0 → (vp_in x6 10 ∧ (∃ (v8 : Int32), Ev G d mX12_priceOf 0 [(0, .ref 57), (1, .int v5), (2, .int x6), (3, .int x2)] (K, n, V, J, O) (some (.int v8)) (K, n, V, J, O) ∧ Ev G (d + 1) mX12_planOf 6 [(0, .ref 57), (1, .int x1), (2, .int x2), (3, .int x3), (4, .long (l4 + (((V 69 (x6).toNatClampNeg).toInt64) * (v8.toInt64)))), (6, .int (x6 + 1))] (K, n, V, J, O) r (K, n, V, J, O))))))) ∧ (¬ 0 ≤ v5 → r = some (.int (-2 : Int32))))))))))) : Ev G (d + 1) mX12_planOf 6 [(0, .ref 57), (1, .int x1), (2, .int x2), (3, .int x3), (4, .long l4), (6, .int x6)] (K, n, V, J, O) r (K, n, V, J, O) := by
  refine Ev.mk fun Q hq => ?_
  refine wp_iload dX12_planOf_6 rfl ?_
  refine wp_aload_n (i := 0) dX12_planOf_8 rfl rfl ?_
  refine wz_getI dX12_planOf_9 (k57 hK) (f12_198 _ (by decide)) rfl ?_
  refine wp_icmp_ge 91 dX12_planOf_12 (by decide) (fun q => ?_) (fun q => ?_)
  · replace hv := hv.1 q
    refine wp_iconst (v := 0) dX12_planOf_91 (by decide) ?_
    refine wx_istore (ls' := [(0, .ref 57), (1, .int x1), (2, .int x2), (3, .int x3), (4, .long l4), (6, .int (0 : Int32))]) dX12_planOf_92 (by decide) rfl ?_
    exact hv Q hq
  · replace hv := hv.2 q
    refine wp_aload_n (i := 0) dX12_planOf_15 rfl rfl ?_
    refine wz_getR (b := 69) dX12_planOf_16 (k57 hK) (f12_44 _ (by decide)) rfl ?_
    refine wp_iload dX12_planOf_19 rfl ?_
    obtain ⟨z1, hv⟩ := hv
    refine wz_iaload dX12_planOf_21 (k69 hK) z1 ?_
    refine wp_if_le 36 dX12_planOf_22 (by decide) (fun q => ?_) (fun q => ?_)
    · replace hv := hv.1 q
      refine wp_iconst (v := 0) dX12_planOf_36 (by decide) ?_
      refine wx_istore (ls' := [(0, .ref 57), (1, .int x1), (2, .int x2), (3, .int x3), (4, .long l4), (6, .int x6), (7, .int (0 : Int32))]) dX12_planOf_37 (by decide) rfl ?_
      refine wp_iload dX12_planOf_39 rfl ?_
      refine wp_if_ge 47 dX12_planOf_41 (by decide) (fun _ => ?_) (fun q => absurd q (by decide))
      refine wp_lload dX12_planOf_47 rfl ?_
      refine wp_aload_n (i := 0) dX12_planOf_49 rfl rfl ?_
      refine wz_getR (b := 69) dX12_planOf_50 (k57 hK) (f12_44 _ (by decide)) rfl ?_
      refine wp_iload dX12_planOf_53 rfl ?_
      obtain ⟨z2, hv⟩ := hv
      refine wz_iaload dX12_planOf_55 (k69 hK) z2 ?_
      refine wp_if_le 81 dX12_planOf_56 (by decide) (fun q => ?_) (fun q => ?_)
      · replace hv := hv.1 q
        refine wp_lconst (v := 0) dX12_planOf_81 (by decide) ?_
        refine wp_ladd dX12_planOf_82 ?_
        refine wx_lstore (ls' := [(0, .ref 57), (1, .int x1), (2, .int x2), (3, .int x3), (4, .long (l4 + (0 : Int64))), (6, .int x6), (7, .int (0 : Int32))]) dX12_planOf_83 (by decide) rfl ?_
        refine wx_iinc (v := 1) (ls' := [(0, .ref 57), (1, .int x1), (2, .int x2), (3, .int x3), (4, .long (l4 + (0 : Int64))), (6, .int (x6 + 1)), (7, .int (0 : Int32))]) dX12_planOf_85 rfl (by decide) (by decide) rfl ?_
        refine wp_goto 6 dX12_planOf_88 (by decide) ?_
        refine wx_sub (ls' := [(0, .ref 57), (1, .int x1), (2, .int x2), (3, .int x3), (4, .long (l4 + (0 : Int64))), (6, .int (x6 + 1))]) [0, 1, 2, 3, 4, 5] rfl ?_
        exact hv Q hq
      · replace hv := hv.2 q
        refine wp_aload_n (i := 0) dX12_planOf_59 rfl rfl ?_
        refine wz_getR (b := 69) dX12_planOf_60 (k57 hK) (f12_44 _ (by decide)) rfl ?_
        refine wp_iload dX12_planOf_63 rfl ?_
        obtain ⟨z3, hv⟩ := hv
        refine wz_iaload dX12_planOf_65 (k69 hK) z3 ?_
        refine wp_i2l dX12_planOf_66 ?_
        refine wp_aload_n (i := 0) dX12_planOf_67 rfl rfl ?_
        refine wp_iload dX12_planOf_68 rfl ?_
        refine wp_iload dX12_planOf_70 rfl ?_
        refine wp_iload_n (i := 2) dX12_planOf_72 rfl rfl ?_
        obtain ⟨v4, hE, hv⟩ := hv
        refine wz_callV (vs := [.int (0 : Int32), .int x6, .int x2]) (st := [.long (V 69 (x6).toNatClampNeg).toInt64, .long l4]) dX12_planOf_73 (k57 hK) rfl k12_362_12 hE rfl (Nat.le_of_ble_eq_true rfl) (Nat.le_of_ble_eq_true rfl) ?_
        change wp _ _ _ _ _ [.int v4, .long (V 69 (x6).toNatClampNeg).toInt64, .long l4] _ _ _
        refine wp_i2l dX12_planOf_76 ?_
        refine wp_lmul dX12_planOf_77 ?_
        refine wp_goto 82 dX12_planOf_78 (by decide) ?_
        refine wp_ladd dX12_planOf_82 ?_
        refine wx_lstore (ls' := [(0, .ref 57), (1, .int x1), (2, .int x2), (3, .int x3), (4, .long (l4 + (((V 69 (x6).toNatClampNeg).toInt64) * (v4.toInt64)))), (6, .int x6), (7, .int (0 : Int32))]) dX12_planOf_83 (by decide) rfl ?_
        refine wx_iinc (v := 1) (ls' := [(0, .ref 57), (1, .int x1), (2, .int x2), (3, .int x3), (4, .long (l4 + (((V 69 (x6).toNatClampNeg).toInt64) * (v4.toInt64)))), (6, .int (x6 + 1)), (7, .int (0 : Int32))]) dX12_planOf_85 rfl (by decide) (by decide) rfl ?_
        refine wp_goto 6 dX12_planOf_88 (by decide) ?_
        refine wx_sub (ls' := [(0, .ref 57), (1, .int x1), (2, .int x2), (3, .int x3), (4, .long (l4 + (((V 69 (x6).toNatClampNeg).toInt64) * (v4.toInt64)))), (6, .int (x6 + 1))]) [0, 1, 2, 3, 4, 5] rfl ?_
        exact hv Q hq
    · replace hv := hv.2 q
      refine wp_aload_n (i := 0) dX12_planOf_25 rfl rfl ?_
      refine wp_iload_n (i := 1) dX12_planOf_26 rfl rfl ?_
      refine wp_iload dX12_planOf_27 rfl ?_
      refine wp_iload_n (i := 2) dX12_planOf_29 rfl rfl ?_
      obtain ⟨v5, hE, hv⟩ := hv
      refine wz_callV (vs := [.int x1, .int x6, .int x2]) (st := []) dX12_planOf_30 (k57 hK) rfl k12_368_12 hE rfl (Nat.le_of_ble_eq_true rfl) (Nat.le_of_ble_eq_true rfl) ?_
      change wp _ _ _ _ _ [.int v5] _ _ _
      refine wp_goto 37 dX12_planOf_33 (by decide) ?_
      refine wx_istore (ls' := [(0, .ref 57), (1, .int x1), (2, .int x2), (3, .int x3), (4, .long l4), (6, .int x6), (7, .int v5)]) dX12_planOf_37 (by decide) rfl ?_
      refine wp_iload dX12_planOf_39 rfl ?_
      refine wp_if_ge 47 dX12_planOf_41 (by decide) (fun q => ?_) (fun q => ?_)
      · replace hv := hv.1 q
        refine wp_lload dX12_planOf_47 rfl ?_
        refine wp_aload_n (i := 0) dX12_planOf_49 rfl rfl ?_
        refine wz_getR (b := 69) dX12_planOf_50 (k57 hK) (f12_44 _ (by decide)) rfl ?_
        refine wp_iload dX12_planOf_53 rfl ?_
        obtain ⟨z6, hv⟩ := hv
        refine wz_iaload dX12_planOf_55 (k69 hK) z6 ?_
        refine wp_if_le 81 dX12_planOf_56 (by decide) (fun q => ?_) (fun q => ?_)
        · replace hv := hv.1 q
          refine wp_lconst (v := 0) dX12_planOf_81 (by decide) ?_
          refine wp_ladd dX12_planOf_82 ?_
          refine wx_lstore (ls' := [(0, .ref 57), (1, .int x1), (2, .int x2), (3, .int x3), (4, .long (l4 + (0 : Int64))), (6, .int x6), (7, .int v5)]) dX12_planOf_83 (by decide) rfl ?_
          refine wx_iinc (v := 1) (ls' := [(0, .ref 57), (1, .int x1), (2, .int x2), (3, .int x3), (4, .long (l4 + (0 : Int64))), (6, .int (x6 + 1)), (7, .int v5)]) dX12_planOf_85 rfl (by decide) (by decide) rfl ?_
          refine wp_goto 6 dX12_planOf_88 (by decide) ?_
          refine wx_sub (ls' := [(0, .ref 57), (1, .int x1), (2, .int x2), (3, .int x3), (4, .long (l4 + (0 : Int64))), (6, .int (x6 + 1))]) [0, 1, 2, 3, 4, 5] rfl ?_
          exact hv Q hq
        · replace hv := hv.2 q
          refine wp_aload_n (i := 0) dX12_planOf_59 rfl rfl ?_
          refine wz_getR (b := 69) dX12_planOf_60 (k57 hK) (f12_44 _ (by decide)) rfl ?_
          refine wp_iload dX12_planOf_63 rfl ?_
          obtain ⟨z7, hv⟩ := hv
          refine wz_iaload dX12_planOf_65 (k69 hK) z7 ?_
          refine wp_i2l dX12_planOf_66 ?_
          refine wp_aload_n (i := 0) dX12_planOf_67 rfl rfl ?_
          refine wp_iload dX12_planOf_68 rfl ?_
          refine wp_iload dX12_planOf_70 rfl ?_
          refine wp_iload_n (i := 2) dX12_planOf_72 rfl rfl ?_
          obtain ⟨v8, hE, hv⟩ := hv
          refine wz_callV (vs := [.int v5, .int x6, .int x2]) (st := [.long (V 69 (x6).toNatClampNeg).toInt64, .long l4]) dX12_planOf_73 (k57 hK) rfl k12_362_12 hE rfl (Nat.le_of_ble_eq_true rfl) (Nat.le_of_ble_eq_true rfl) ?_
          change wp _ _ _ _ _ [.int v8, .long (V 69 (x6).toNatClampNeg).toInt64, .long l4] _ _ _
          refine wp_i2l dX12_planOf_76 ?_
          refine wp_lmul dX12_planOf_77 ?_
          refine wp_goto 82 dX12_planOf_78 (by decide) ?_
          refine wp_ladd dX12_planOf_82 ?_
          refine wx_lstore (ls' := [(0, .ref 57), (1, .int x1), (2, .int x2), (3, .int x3), (4, .long (l4 + (((V 69 (x6).toNatClampNeg).toInt64) * (v8.toInt64)))), (6, .int x6), (7, .int v5)]) dX12_planOf_83 (by decide) rfl ?_
          refine wx_iinc (v := 1) (ls' := [(0, .ref 57), (1, .int x1), (2, .int x2), (3, .int x3), (4, .long (l4 + (((V 69 (x6).toNatClampNeg).toInt64) * (v8.toInt64)))), (6, .int (x6 + 1)), (7, .int v5)]) dX12_planOf_85 rfl (by decide) (by decide) rfl ?_
          refine wp_goto 6 dX12_planOf_88 (by decide) ?_
          refine wx_sub (ls' := [(0, .ref 57), (1, .int x1), (2, .int x2), (3, .int x3), (4, .long (l4 + (((V 69 (x6).toNatClampNeg).toInt64) * (v8.toInt64)))), (6, .int (x6 + 1))]) [0, 1, 2, 3, 4, 5] rfl ?_
          exact hv Q hq
      · replace hv := hv.2 q
        refine wp_bipush (v := -2) dX12_planOf_44 (by decide) ?_
        obtain rfl := hv
        exact wp_ireturn dX12_planOf_46 rfl rfl rfl hq
theorem wX12_planOf_94 {x1 : Int32} {x2 : Int32} {x3 : Int32} {l4 : Int64} {x6 : Int32} (hK : StK K)  (hv : (((V 57 25) ≤ x6 → (((lg_cmp l4 (1999999999 : Int64)) ≤ 0 → r = some (.int l4.toInt32)) ∧ (¬ (lg_cmp l4 (1999999999 : Int64)) ≤ 0 → r = some (.int (1999999999 : Int64).toInt32)))) ∧ (¬ (V 57 25) ≤ x6 → ((((x1 >>> (x6 &&& 31)) &&& (1 : Int32)) ≠ (1 : Int32) → Ev G (d + 1) mX12_planOf 94 [(0, .ref 57), (1, .int x1), (2, .int x2), (3, .int x3), (4, .long (l4 + (0 : Int64))), (6, .int (x6 + 1))] (K, n, V, J, O) r (K, n, V, J, O)) ∧ (((x1 >>> (x6 &&& 31)) &&& (1 : Int32)) = (1 : Int32) → (∃ (v1 : Int32), Ev G d mX12_putPriceOf 0 [(0, .ref 57), (1, .int x6), (2, .int x2)] (K, n, V, J, O) (some (.int v1)) (K, n, V, J, O) ∧ Ev G (d + 1) mX12_planOf 94 [(0, .ref 57), (1, .int x1), (2, .int x2), (3, .int x3), (4, .long (l4 + ((x3.toInt64) * (v1.toInt64)))), (6, .int (x6 + 1))] (K, n, V, J, O) r (K, n, V, J, O))))))) : Ev G (d + 1) mX12_planOf 94 [(0, .ref 57), (1, .int x1), (2, .int x2), (3, .int x3), (4, .long l4), (6, .int x6)] (K, n, V, J, O) r (K, n, V, J, O) := by
  refine Ev.mk fun Q hq => ?_
  refine wp_iload dX12_planOf_94 rfl ?_
  refine wp_aload_n (i := 0) dX12_planOf_96 rfl rfl ?_
  refine wz_getI dX12_planOf_97 (k57 hK) (f12_153 _ (by decide)) rfl ?_
  refine wp_icmp_ge 139 dX12_planOf_100 (by decide) (fun q => ?_) (fun q => ?_)
  · replace hv := hv.1 q
    refine wp_lload dX12_planOf_139 rfl ?_
    refine wp_ldc2 (v := 1999999999) dX12_planOf_141 q12_371 ?_
    refine wp_lcmp dX12_planOf_144 ?_
    refine wp_if_le 154 dX12_planOf_145 (by decide) (fun q => ?_) (fun q => ?_)
    · replace hv := hv.1 q
      refine wp_lload dX12_planOf_154 rfl ?_
      refine wp_l2i dX12_planOf_156 ?_
      obtain rfl := hv
      exact wp_ireturn dX12_planOf_157 rfl rfl rfl hq
    · replace hv := hv.2 q
      refine wp_ldc2 (v := 1999999999) dX12_planOf_148 q12_371 ?_
      refine wp_goto 156 dX12_planOf_151 (by decide) ?_
      refine wp_l2i dX12_planOf_156 ?_
      obtain rfl := hv
      exact wp_ireturn dX12_planOf_157 rfl rfl rfl hq
  · replace hv := hv.2 q
    refine wp_lload dX12_planOf_103 rfl ?_
    refine wp_iload_n (i := 1) dX12_planOf_105 rfl rfl ?_
    refine wp_iload dX12_planOf_106 rfl ?_
    refine wp_ishr dX12_planOf_108 ?_
    refine wp_iconst (v := 1) dX12_planOf_109 (by decide) ?_
    refine wp_iand dX12_planOf_110 ?_
    refine wp_iconst (v := 1) dX12_planOf_111 (by decide) ?_
    refine wp_icmp_ne 129 dX12_planOf_112 (by decide) (fun q => ?_) (fun q => ?_)
    · replace hv := hv.1 q
      refine wp_lconst (v := 0) dX12_planOf_129 (by decide) ?_
      refine wp_ladd dX12_planOf_130 ?_
      refine wx_lstore (ls' := [(0, .ref 57), (1, .int x1), (2, .int x2), (3, .int x3), (4, .long (l4 + (0 : Int64))), (6, .int x6)]) dX12_planOf_131 (by decide) rfl ?_
      refine wx_iinc (v := 1) (ls' := [(0, .ref 57), (1, .int x1), (2, .int x2), (3, .int x3), (4, .long (l4 + (0 : Int64))), (6, .int (x6 + 1))]) dX12_planOf_133 rfl (by decide) (by decide) rfl ?_
      refine wp_goto 94 dX12_planOf_136 (by decide) ?_
      exact hv Q hq
    · replace hv := hv.2 q
      refine wp_iload_n (i := 3) dX12_planOf_115 rfl rfl ?_
      refine wp_i2l dX12_planOf_116 ?_
      refine wp_aload_n (i := 0) dX12_planOf_117 rfl rfl ?_
      refine wp_iload dX12_planOf_118 rfl ?_
      refine wp_iload_n (i := 2) dX12_planOf_120 rfl rfl ?_
      obtain ⟨v1, hE, hv⟩ := hv
      refine wz_callV (vs := [.int x6, .int x2]) (st := [.long x3.toInt64, .long l4]) dX12_planOf_121 (k57 hK) rfl k12_365_12 hE rfl (Nat.le_of_ble_eq_true rfl) (Nat.le_of_ble_eq_true rfl) ?_
      change wp _ _ _ _ _ [.int v1, .long x3.toInt64, .long l4] _ _ _
      refine wp_i2l dX12_planOf_124 ?_
      refine wp_lmul dX12_planOf_125 ?_
      refine wp_goto 130 dX12_planOf_126 (by decide) ?_
      refine wp_ladd dX12_planOf_130 ?_
      refine wx_lstore (ls' := [(0, .ref 57), (1, .int x1), (2, .int x2), (3, .int x3), (4, .long (l4 + ((x3.toInt64) * (v1.toInt64)))), (6, .int x6)]) dX12_planOf_131 (by decide) rfl ?_
      refine wx_iinc (v := 1) (ls' := [(0, .ref 57), (1, .int x1), (2, .int x2), (3, .int x3), (4, .long (l4 + ((x3.toInt64) * (v1.toInt64)))), (6, .int (x6 + 1))]) dX12_planOf_133 rfl (by decide) (by decide) rfl ?_
      refine wp_goto 94 dX12_planOf_136 (by decide) ?_
      exact hv Q hq
theorem wX12_plan_0 {x1 : Int32} {x2 : Int32} {x3 : Int32} (hK : StK K)  (hv : (∃ (v1 : Int32), Ev G d mX12_isPlan 0 [(0, .ref 57), (1, .int x1)] (K, n, V, J, O) (some (.int v1)) (K, n, V, J, O) ∧ ((v1 = 0 → r = some (.int (-1 : Int32))) ∧ (¬ v1 = 0 → (∃ (v2 : Int32), Ev G d mX12_isSize 0 [(0, .int x2)] (K, n, V, J, O) (some (.int v2)) (K, n, V, J, O) ∧ ((v2 = 0 → r = some (.int (-1 : Int32))) ∧ (¬ v2 = 0 → (∃ (v3 : Int32), Ev G d mX12_within 0 [(0, .long x3.toInt64), (2, .long (0 : Int64)), (4, .long (999 : Int64))] (K, n, V, J, O) (some (.int v3)) (K, n, V, J, O) ∧ ((v3 = 0 → r = some (.int (-1 : Int32))) ∧ (¬ v3 = 0 → (∃ (v4 : Int32), Ev G d mX12_planOf 0 [(0, .ref 57), (1, .int x1), (2, .int x2), (3, .int x3)] (K, n, V, J, O) (some (.int v4)) (K, n, V, J, O) ∧ r = some (.int v4)))))))))))) : Ev G (d + 1) mX12_plan 0 [(0, .ref 57), (1, .int x1), (2, .int x2), (3, .int x3)] (K, n, V, J, O) r (K, n, V, J, O) := by
  refine Ev.mk fun Q hq => ?_
  refine wp_aload_n (i := 0) dX12_plan_0 rfl rfl ?_
  refine wp_iload_n (i := 1) dX12_plan_1 rfl rfl ?_
  obtain ⟨v1, hE, hv⟩ := hv
  refine wz_callV (vs := [.int x1]) (st := []) dX12_plan_2 (k57 hK) rfl k12_373_12 hE rfl (Nat.le_of_ble_eq_true rfl) (Nat.le_of_ble_eq_true rfl) ?_
  change wp _ _ _ _ _ [.int v1] _ _ _
  refine wp_if_eq 37 dX12_plan_5 (by decide) (fun q => ?_) (fun q => ?_)
  · replace hv := hv.1 q
    refine wp_iconst (v := -1) dX12_plan_37 (by decide) ?_
    obtain rfl := hv
    exact wp_ireturn dX12_plan_38 rfl rfl rfl hq
  · replace hv := hv.2 q
    refine wp_iload_n (i := 2) dX12_plan_8 rfl rfl ?_
    obtain ⟨v2, hE, hv⟩ := hv
    refine wz_callS (vs := [.int x2]) (st := []) dX12_plan_9 k12_359 hE rfl (Nat.le_of_ble_eq_true rfl) (Nat.le_of_ble_eq_true rfl) ?_
    change wp _ _ _ _ _ [.int v2] _ _ _
    refine wp_if_eq 37 dX12_plan_12 (by decide) (fun q => ?_) (fun q => ?_)
    · replace hv := hv.1 q
      refine wp_iconst (v := -1) dX12_plan_37 (by decide) ?_
      obtain rfl := hv
      exact wp_ireturn dX12_plan_38 rfl rfl rfl hq
    · replace hv := hv.2 q
      refine wp_iload_n (i := 3) dX12_plan_15 rfl rfl ?_
      refine wp_i2l dX12_plan_16 ?_
      refine wp_lconst (v := 0) dX12_plan_17 (by decide) ?_
      refine wp_ldc2 (v := 999) dX12_plan_18 q12_357 ?_
      obtain ⟨v3, hE, hv⟩ := hv
      refine wz_callS (vs := [.long x3.toInt64, .long (0 : Int64), .long (999 : Int64)]) (st := []) dX12_plan_21 k12_135 hE rfl (Nat.le_of_ble_eq_true rfl) (Nat.le_of_ble_eq_true rfl) ?_
      change wp _ _ _ _ _ [.int v3] _ _ _
      refine wp_if_eq 37 dX12_plan_24 (by decide) (fun q => ?_) (fun q => ?_)
      · replace hv := hv.1 q
        refine wp_iconst (v := -1) dX12_plan_37 (by decide) ?_
        obtain rfl := hv
        exact wp_ireturn dX12_plan_38 rfl rfl rfl hq
      · replace hv := hv.2 q
        refine wp_aload_n (i := 0) dX12_plan_27 rfl rfl ?_
        refine wp_iload_n (i := 1) dX12_plan_28 rfl rfl ?_
        refine wp_iload_n (i := 2) dX12_plan_29 rfl rfl ?_
        refine wp_iload_n (i := 3) dX12_plan_30 rfl rfl ?_
        obtain ⟨v4, hE, hv⟩ := hv
        refine wz_callV (vs := [.int x1, .int x2, .int x3]) (st := []) dX12_plan_31 (k57 hK) rfl k12_376_12 hE rfl (Nat.le_of_ble_eq_true rfl) (Nat.le_of_ble_eq_true rfl) ?_
        change wp _ _ _ _ _ [.int v4] _ _ _
        refine wp_goto 38 dX12_plan_34 (by decide) ?_
        obtain rfl := hv
        exact wp_ireturn dX12_plan_38 rfl rfl rfl hq
theorem wX12_leastPlan_0 {x1 : Int32} {x2 : Int32} {x3 : Int32} (hK : StK K)  (hv : (∃ (v1 : Int32), Ev G d mX12_isSize 0 [(0, .int x1)] (K, n, V, J, O) (some (.int v1)) (K, n, V, J, O) ∧ ((v1 = 0 → r = some (.int (-1 : Int32))) ∧ (¬ v1 = 0 → (∃ (v2 : Int32), Ev G d mX12_within 0 [(0, .long x2.toInt64), (2, .long (0 : Int64)), (4, .long (999 : Int64))] (K, n, V, J, O) (some (.int v2)) (K, n, V, J, O) ∧ ((v2 = 0 → r = some (.int (-1 : Int32))) ∧ (¬ v2 = 0 → (∃ (v3 : Int32), Ev G d mX12_within 0 [(0, .long x3.toInt64), (2, .long (1 : Int64)), (4, .long (4 : Int64))] (K, n, V, J, O) (some (.int v3)) (K, n, V, J, O) ∧ ((v3 ≠ 0 → Ev G (d + 1) mX12_leastPlan 47 [(0, .ref 57), (1, .int x1), (2, .int x2), (3, .int x3), (4, .int (-2 : Int32)), (5, .int (((1 : Int32) <<< ((V 57 25) &&& 31)) - (1 : Int32)))] (K, n, V, J, O) r (K, n, V, J, O)) ∧ (v3 = 0 → r = some (.int (-1 : Int32)))))))))))) : Ev G (d + 1) mX12_leastPlan 0 [(0, .ref 57), (1, .int x1), (2, .int x2), (3, .int x3)] (K, n, V, J, O) r (K, n, V, J, O) := by
  refine Ev.mk fun Q hq => ?_
  refine wp_iload_n (i := 1) dX12_leastPlan_0 rfl rfl ?_
  obtain ⟨v1, hE, hv⟩ := hv
  refine wz_callS (vs := [.int x1]) (st := []) dX12_leastPlan_1 k12_359 hE rfl (Nat.le_of_ble_eq_true rfl) (Nat.le_of_ble_eq_true rfl) ?_
  change wp _ _ _ _ _ [.int v1] _ _ _
  refine wp_if_eq 31 dX12_leastPlan_4 (by decide) (fun q => ?_) (fun q => ?_)
  · replace hv := hv.1 q
    refine wp_iconst (v := -1) dX12_leastPlan_31 (by decide) ?_
    obtain rfl := hv
    exact wp_ireturn dX12_leastPlan_32 rfl rfl rfl hq
  · replace hv := hv.2 q
    refine wp_iload_n (i := 2) dX12_leastPlan_7 rfl rfl ?_
    refine wp_i2l dX12_leastPlan_8 ?_
    refine wp_lconst (v := 0) dX12_leastPlan_9 (by decide) ?_
    refine wp_ldc2 (v := 999) dX12_leastPlan_10 q12_357 ?_
    obtain ⟨v2, hE, hv⟩ := hv
    refine wz_callS (vs := [.long x2.toInt64, .long (0 : Int64), .long (999 : Int64)]) (st := []) dX12_leastPlan_13 k12_135 hE rfl (Nat.le_of_ble_eq_true rfl) (Nat.le_of_ble_eq_true rfl) ?_
    change wp _ _ _ _ _ [.int v2] _ _ _
    refine wp_if_eq 31 dX12_leastPlan_16 (by decide) (fun q => ?_) (fun q => ?_)
    · replace hv := hv.1 q
      refine wp_iconst (v := -1) dX12_leastPlan_31 (by decide) ?_
      obtain rfl := hv
      exact wp_ireturn dX12_leastPlan_32 rfl rfl rfl hq
    · replace hv := hv.2 q
      refine wp_iload_n (i := 3) dX12_leastPlan_19 rfl rfl ?_
      refine wp_i2l dX12_leastPlan_20 ?_
      refine wp_lconst (v := 1) dX12_leastPlan_21 (by decide) ?_
      refine wp_ldc2 (v := 4) dX12_leastPlan_22 q12_166 ?_
      obtain ⟨v3, hE, hv⟩ := hv
      refine wz_callS (vs := [.long x3.toInt64, .long (1 : Int64), .long (4 : Int64)]) (st := []) dX12_leastPlan_25 k12_135 hE rfl (Nat.le_of_ble_eq_true rfl) (Nat.le_of_ble_eq_true rfl) ?_
      change wp _ _ _ _ _ [.int v3] _ _ _
      refine wp_if_ne 33 dX12_leastPlan_28 (by decide) (fun q => ?_) (fun q => ?_)
      · replace hv := hv.1 q
        refine wp_bipush (v := -2) dX12_leastPlan_33 (by decide) ?_
        refine wx_istore (ls' := [(0, .ref 57), (1, .int x1), (2, .int x2), (3, .int x3), (4, .int (-2 : Int32))]) dX12_leastPlan_35 (by decide) rfl ?_
        refine wp_iconst (v := 1) dX12_leastPlan_37 (by decide) ?_
        refine wp_aload_n (i := 0) dX12_leastPlan_38 rfl rfl ?_
        refine wz_getI dX12_leastPlan_39 (k57 hK) (f12_153 _ (by decide)) rfl ?_
        refine wp_ishl dX12_leastPlan_42 ?_
        refine wp_iconst (v := 1) dX12_leastPlan_43 (by decide) ?_
        refine wp_isub dX12_leastPlan_44 ?_
        refine wx_istore (ls' := [(0, .ref 57), (1, .int x1), (2, .int x2), (3, .int x3), (4, .int (-2 : Int32)), (5, .int (((1 : Int32) <<< ((V 57 25) &&& 31)) - (1 : Int32)))]) dX12_leastPlan_45 (by decide) rfl ?_
        exact hv Q hq
      · replace hv := hv.2 q
        refine wp_iconst (v := -1) dX12_leastPlan_31 (by decide) ?_
        obtain rfl := hv
        exact wp_ireturn dX12_leastPlan_32 rfl rfl rfl hq
theorem wX12_leastPlan_47 {x1 : Int32} {x2 : Int32} {x3 : Int32} {x4 : Int32} {x5 : Int32} (hK : StK K)  (hv : ((x5 < 0 → r = some (.int x4)) ∧ (¬ x5 < 0 → (∃ (v1 : Int32), Ev G d mX12_countOf 0 [(0, .int x5)] (K, n, V, J, O) (some (.int v1)) (K, n, V, J, O) ∧ ((x3 < v1 → Ev G (d + 1) mX12_leastPlan 47 [(0, .ref 57), (1, .int x1), (2, .int x2), (3, .int x3), (4, .int x4), (5, .int (x5 + (-1)))] (K, n, V, J, O) r (K, n, V, J, O)) ∧ (¬ x3 < v1 → (∃ (v2 : Int32), Ev G d mX12_planOf 0 [(0, .ref 57), (1, .int x5), (2, .int x1), (3, .int x2)] (K, n, V, J, O) (some (.int v2)) (K, n, V, J, O) ∧ ((v2 < 0 → Ev G (d + 1) mX12_leastPlan 47 [(0, .ref 57), (1, .int x1), (2, .int x2), (3, .int x3), (4, .int x4), (5, .int (x5 + (-1)))] (K, n, V, J, O) r (K, n, V, J, O)) ∧ (¬ v2 < 0 → ((0 ≤ x4 → (∃ (v3 : Int32), Ev G d mX12_planOf 0 [(0, .ref 57), (1, .int x4), (2, .int x1), (3, .int x2)] (K, n, V, J, O) (some (.int v3)) (K, n, V, J, O) ∧ (((v2 - v3) < 0 → Ev G (d + 1) mX12_leastPlan 47 [(0, .ref 57), (1, .int x1), (2, .int x2), (3, .int x3), (4, .int x5), (5, .int (x5 + (-1)))] (K, n, V, J, O) r (K, n, V, J, O)) ∧ (¬ (v2 - v3) < 0 → (((v2 - v3) ≠ 0 → Ev G (d + 1) mX12_leastPlan 47 [(0, .ref 57), (1, .int x1), (2, .int x2), (3, .int x3), (4, .int x4), (5, .int (x5 + (-1)))] (K, n, V, J, O) r (K, n, V, J, O)) ∧ ((v2 - v3) = 0 → (∃ (v4 : Int32), Ev G d mX12_countOf 0 [(0, .int x5)] (K, n, V, J, O) (some (.int v4)) (K, n, V, J, O) ∧ (∃ (v5 : Int32), Ev G d mX12_countOf 0 [(0, .int x4)] (K, n, V, J, O) (some (.int v5)) (K, n, V, J, O) ∧ ((v5 < v4 → Ev G (d + 1) mX12_leastPlan 47 [(0, .ref 57), (1, .int x1), (2, .int x2), (3, .int x3), (4, .int x4), (5, .int (x5 + (-1)))] (K, n, V, J, O) r (K, n, V, J, O)) ∧ (¬ v5 < v4 → Ev G (d + 1) mX12_leastPlan 47 [(0, .ref 57), (1, .int x1), (2, .int x2), (3, .int x3), (4, .int x5), (5, .int (x5 + (-1)))] (K, n, V, J, O) r (K, n, V, J, O))))))))))) ∧ (¬ 0 ≤ x4 → Ev G (d + 1) mX12_leastPlan 47 [(0, .ref 57), (1, .int x1), (2, .int x2), (3, .int x3), (4, .int x5), (5, .int (x5 + (-1)))] (K, n, V, J, O) r (K, n, V, J, O)))))))))))) : Ev G (d + 1) mX12_leastPlan 47 [(0, .ref 57), (1, .int x1), (2, .int x2), (3, .int x3), (4, .int x4), (5, .int x5)] (K, n, V, J, O) r (K, n, V, J, O) := by
  refine Ev.mk fun Q hq => ?_
  refine wp_iload dX12_leastPlan_47 rfl ?_
  refine wp_if_lt 153 dX12_leastPlan_49 (by decide) (fun q => ?_) (fun q => ?_)
  · replace hv := hv.1 q
    refine wp_iload dX12_leastPlan_153 rfl ?_
    obtain rfl := hv
    exact wp_ireturn dX12_leastPlan_155 rfl rfl rfl hq
  · replace hv := hv.2 q
    refine wp_iload dX12_leastPlan_52 rfl ?_
    obtain ⟨v1, hE, hv⟩ := hv
    refine wz_callS (vs := [.int x5]) (st := []) dX12_leastPlan_54 k12_305 hE rfl (Nat.le_of_ble_eq_true rfl) (Nat.le_of_ble_eq_true rfl) ?_
    change wp _ _ _ _ _ [.int v1] _ _ _
    refine wp_iload_n (i := 3) dX12_leastPlan_57 rfl rfl ?_
    refine wp_icmp_gt 72 dX12_leastPlan_58 (by decide) (fun q => ?_) (fun q => ?_)
    · replace hv := hv.1 q
      refine wp_bipush (v := -2) dX12_leastPlan_72 (by decide) ?_
      refine wx_istore (ls' := [(0, .ref 57), (1, .int x1), (2, .int x2), (3, .int x3), (4, .int x4), (5, .int x5), (6, .int (-2 : Int32))]) dX12_leastPlan_74 (by decide) rfl ?_
      refine wp_iload dX12_leastPlan_76 rfl ?_
      refine wp_if_lt 147 dX12_leastPlan_78 (by decide) (fun _ => ?_) (fun q => absurd q (by decide))
      refine wx_iinc (v := -1) (ls' := [(0, .ref 57), (1, .int x1), (2, .int x2), (3, .int x3), (4, .int x4), (5, .int (x5 + (-1))), (6, .int (-2 : Int32))]) dX12_leastPlan_147 rfl (by decide) (by decide) rfl ?_
      refine wp_goto 47 dX12_leastPlan_150 (by decide) ?_
      refine wx_sub (ls' := [(0, .ref 57), (1, .int x1), (2, .int x2), (3, .int x3), (4, .int x4), (5, .int (x5 + (-1)))]) [0, 1, 2, 3, 4, 5] rfl ?_
      exact hv Q hq
    · replace hv := hv.2 q
      refine wp_aload_n (i := 0) dX12_leastPlan_61 rfl rfl ?_
      refine wp_iload dX12_leastPlan_62 rfl ?_
      refine wp_iload_n (i := 1) dX12_leastPlan_64 rfl rfl ?_
      refine wp_iload_n (i := 2) dX12_leastPlan_65 rfl rfl ?_
      obtain ⟨v2, hE, hv⟩ := hv
      refine wz_callV (vs := [.int x5, .int x1, .int x2]) (st := []) dX12_leastPlan_66 (k57 hK) rfl k12_376_12 hE rfl (Nat.le_of_ble_eq_true rfl) (Nat.le_of_ble_eq_true rfl) ?_
      change wp _ _ _ _ _ [.int v2] _ _ _
      refine wp_goto 74 dX12_leastPlan_69 (by decide) ?_
      refine wx_istore (ls' := [(0, .ref 57), (1, .int x1), (2, .int x2), (3, .int x3), (4, .int x4), (5, .int x5), (6, .int v2)]) dX12_leastPlan_74 (by decide) rfl ?_
      refine wp_iload dX12_leastPlan_76 rfl ?_
      refine wp_if_lt 147 dX12_leastPlan_78 (by decide) (fun q => ?_) (fun q => ?_)
      · replace hv := hv.1 q
        refine wx_iinc (v := -1) (ls' := [(0, .ref 57), (1, .int x1), (2, .int x2), (3, .int x3), (4, .int x4), (5, .int (x5 + (-1))), (6, .int v2)]) dX12_leastPlan_147 rfl (by decide) (by decide) rfl ?_
        refine wp_goto 47 dX12_leastPlan_150 (by decide) ?_
        refine wx_sub (ls' := [(0, .ref 57), (1, .int x1), (2, .int x2), (3, .int x3), (4, .int x4), (5, .int (x5 + (-1)))]) [0, 1, 2, 3, 4, 5] rfl ?_
        exact hv Q hq
      · replace hv := hv.2 q
        refine wp_iload dX12_leastPlan_81 rfl ?_
        refine wp_if_ge 90 dX12_leastPlan_83 (by decide) (fun q => ?_) (fun q => ?_)
        · replace hv := hv.1 q
          refine wp_iload dX12_leastPlan_90 rfl ?_
          refine wp_aload_n (i := 0) dX12_leastPlan_92 rfl rfl ?_
          refine wp_iload dX12_leastPlan_93 rfl ?_
          refine wp_iload_n (i := 1) dX12_leastPlan_95 rfl rfl ?_
          refine wp_iload_n (i := 2) dX12_leastPlan_96 rfl rfl ?_
          obtain ⟨v3, hE, hv⟩ := hv
          refine wz_callV (vs := [.int x4, .int x1, .int x2]) (st := [.int v2]) dX12_leastPlan_97 (k57 hK) rfl k12_376_12 hE rfl (Nat.le_of_ble_eq_true rfl) (Nat.le_of_ble_eq_true rfl) ?_
          change wp _ _ _ _ _ [.int v3, .int v2] _ _ _
          refine wp_isub dX12_leastPlan_100 ?_
          refine wx_istore (ls' := [(0, .ref 57), (1, .int x1), (2, .int x2), (3, .int x3), (4, .int x4), (5, .int x5), (6, .int v2), (7, .int (v2 - v3))]) dX12_leastPlan_101 (by decide) rfl ?_
          refine wp_iload dX12_leastPlan_103 rfl ?_
          refine wp_if_lt 126 dX12_leastPlan_105 (by decide) (fun q => ?_) (fun q => ?_)
          · replace hv := hv.1 q
            refine wp_iconst (v := 1) dX12_leastPlan_126 (by decide) ?_
            refine wp_goto 131 dX12_leastPlan_127 (by decide) ?_
            refine wx_istore (ls' := [(0, .ref 57), (1, .int x1), (2, .int x2), (3, .int x3), (4, .int x4), (5, .int x5), (6, .int v2), (7, .int (v2 - v3)), (8, .int (1 : Int32))]) dX12_leastPlan_131 (by decide) rfl ?_
            refine wp_iload dX12_leastPlan_133 rfl ?_
            refine wp_if_eq 143 dX12_leastPlan_135 (by decide) (fun q => absurd q (by decide)) (fun _ => ?_)
            refine wp_iload dX12_leastPlan_138 rfl ?_
            refine wp_goto 145 dX12_leastPlan_140 (by decide) ?_
            refine wx_istore (ls' := [(0, .ref 57), (1, .int x1), (2, .int x2), (3, .int x3), (4, .int x5), (5, .int x5), (6, .int v2), (7, .int (v2 - v3)), (8, .int (1 : Int32))]) dX12_leastPlan_145 (by decide) rfl ?_
            refine wx_iinc (v := -1) (ls' := [(0, .ref 57), (1, .int x1), (2, .int x2), (3, .int x3), (4, .int x5), (5, .int (x5 + (-1))), (6, .int v2), (7, .int (v2 - v3)), (8, .int (1 : Int32))]) dX12_leastPlan_147 rfl (by decide) (by decide) rfl ?_
            refine wp_goto 47 dX12_leastPlan_150 (by decide) ?_
            refine wx_sub (ls' := [(0, .ref 57), (1, .int x1), (2, .int x2), (3, .int x3), (4, .int x5), (5, .int (x5 + (-1)))]) [0, 1, 2, 3, 4, 5] rfl ?_
            exact hv Q hq
          · replace hv := hv.2 q
            refine wp_iload dX12_leastPlan_108 rfl ?_
            refine wp_if_ne 130 dX12_leastPlan_110 (by decide) (fun q => ?_) (fun q => ?_)
            · replace hv := hv.1 q
              refine wp_iconst (v := 0) dX12_leastPlan_130 (by decide) ?_
              refine wx_istore (ls' := [(0, .ref 57), (1, .int x1), (2, .int x2), (3, .int x3), (4, .int x4), (5, .int x5), (6, .int v2), (7, .int (v2 - v3)), (8, .int (0 : Int32))]) dX12_leastPlan_131 (by decide) rfl ?_
              refine wp_iload dX12_leastPlan_133 rfl ?_
              refine wp_if_eq 143 dX12_leastPlan_135 (by decide) (fun _ => ?_) (fun q => absurd q (by decide))
              refine wp_iload dX12_leastPlan_143 rfl ?_
              refine wx_istore (ls' := [(0, .ref 57), (1, .int x1), (2, .int x2), (3, .int x3), (4, .int x4), (5, .int x5), (6, .int v2), (7, .int (v2 - v3)), (8, .int (0 : Int32))]) dX12_leastPlan_145 (by decide) rfl ?_
              refine wx_iinc (v := -1) (ls' := [(0, .ref 57), (1, .int x1), (2, .int x2), (3, .int x3), (4, .int x4), (5, .int (x5 + (-1))), (6, .int v2), (7, .int (v2 - v3)), (8, .int (0 : Int32))]) dX12_leastPlan_147 rfl (by decide) (by decide) rfl ?_
              refine wp_goto 47 dX12_leastPlan_150 (by decide) ?_
              refine wx_sub (ls' := [(0, .ref 57), (1, .int x1), (2, .int x2), (3, .int x3), (4, .int x4), (5, .int (x5 + (-1)))]) [0, 1, 2, 3, 4, 5] rfl ?_
              exact hv Q hq
            · replace hv := hv.2 q
              refine wp_iload dX12_leastPlan_113 rfl ?_
              obtain ⟨v4, hE, hv⟩ := hv
              refine wz_callS (vs := [.int x5]) (st := []) dX12_leastPlan_115 k12_305 hE rfl (Nat.le_of_ble_eq_true rfl) (Nat.le_of_ble_eq_true rfl) ?_
              change wp _ _ _ _ _ [.int v4] _ _ _
              refine wp_iload dX12_leastPlan_118 rfl ?_
              obtain ⟨v5, hE, hv⟩ := hv
              refine wz_callS (vs := [.int x4]) (st := [.int v4]) dX12_leastPlan_120 k12_305 hE rfl (Nat.le_of_ble_eq_true rfl) (Nat.le_of_ble_eq_true rfl) ?_
              change wp _ _ _ _ _ [.int v5, .int v4] _ _ _
              refine wp_icmp_gt 130 dX12_leastPlan_123 (by decide) (fun q => ?_) (fun q => ?_)
              · replace hv := hv.1 q
                refine wp_iconst (v := 0) dX12_leastPlan_130 (by decide) ?_
                refine wx_istore (ls' := [(0, .ref 57), (1, .int x1), (2, .int x2), (3, .int x3), (4, .int x4), (5, .int x5), (6, .int v2), (7, .int (v2 - v3)), (8, .int (0 : Int32))]) dX12_leastPlan_131 (by decide) rfl ?_
                refine wp_iload dX12_leastPlan_133 rfl ?_
                refine wp_if_eq 143 dX12_leastPlan_135 (by decide) (fun _ => ?_) (fun q => absurd q (by decide))
                refine wp_iload dX12_leastPlan_143 rfl ?_
                refine wx_istore (ls' := [(0, .ref 57), (1, .int x1), (2, .int x2), (3, .int x3), (4, .int x4), (5, .int x5), (6, .int v2), (7, .int (v2 - v3)), (8, .int (0 : Int32))]) dX12_leastPlan_145 (by decide) rfl ?_
                refine wx_iinc (v := -1) (ls' := [(0, .ref 57), (1, .int x1), (2, .int x2), (3, .int x3), (4, .int x4), (5, .int (x5 + (-1))), (6, .int v2), (7, .int (v2 - v3)), (8, .int (0 : Int32))]) dX12_leastPlan_147 rfl (by decide) (by decide) rfl ?_
                refine wp_goto 47 dX12_leastPlan_150 (by decide) ?_
                refine wx_sub (ls' := [(0, .ref 57), (1, .int x1), (2, .int x2), (3, .int x3), (4, .int x4), (5, .int (x5 + (-1)))]) [0, 1, 2, 3, 4, 5] rfl ?_
                exact hv Q hq
              · replace hv := hv.2 q
                refine wp_iconst (v := 1) dX12_leastPlan_126 (by decide) ?_
                refine wp_goto 131 dX12_leastPlan_127 (by decide) ?_
                refine wx_istore (ls' := [(0, .ref 57), (1, .int x1), (2, .int x2), (3, .int x3), (4, .int x4), (5, .int x5), (6, .int v2), (7, .int (v2 - v3)), (8, .int (1 : Int32))]) dX12_leastPlan_131 (by decide) rfl ?_
                refine wp_iload dX12_leastPlan_133 rfl ?_
                refine wp_if_eq 143 dX12_leastPlan_135 (by decide) (fun q => absurd q (by decide)) (fun _ => ?_)
                refine wp_iload dX12_leastPlan_138 rfl ?_
                refine wp_goto 145 dX12_leastPlan_140 (by decide) ?_
                refine wx_istore (ls' := [(0, .ref 57), (1, .int x1), (2, .int x2), (3, .int x3), (4, .int x5), (5, .int x5), (6, .int v2), (7, .int (v2 - v3)), (8, .int (1 : Int32))]) dX12_leastPlan_145 (by decide) rfl ?_
                refine wx_iinc (v := -1) (ls' := [(0, .ref 57), (1, .int x1), (2, .int x2), (3, .int x3), (4, .int x5), (5, .int (x5 + (-1))), (6, .int v2), (7, .int (v2 - v3)), (8, .int (1 : Int32))]) dX12_leastPlan_147 rfl (by decide) (by decide) rfl ?_
                refine wp_goto 47 dX12_leastPlan_150 (by decide) ?_
                refine wx_sub (ls' := [(0, .ref 57), (1, .int x1), (2, .int x2), (3, .int x3), (4, .int x5), (5, .int (x5 + (-1)))]) [0, 1, 2, 3, 4, 5] rfl ?_
                exact hv Q hq
        · replace hv := hv.2 q
          refine wp_iconst (v := -1) dX12_leastPlan_86 (by decide) ?_
          refine wp_goto 101 dX12_leastPlan_87 (by decide) ?_
          refine wx_istore (ls' := [(0, .ref 57), (1, .int x1), (2, .int x2), (3, .int x3), (4, .int x4), (5, .int x5), (6, .int v2), (7, .int (-1 : Int32))]) dX12_leastPlan_101 (by decide) rfl ?_
          refine wp_iload dX12_leastPlan_103 rfl ?_
          refine wp_if_lt 126 dX12_leastPlan_105 (by decide) (fun _ => ?_) (fun q => absurd q (by decide))
          refine wp_iconst (v := 1) dX12_leastPlan_126 (by decide) ?_
          refine wp_goto 131 dX12_leastPlan_127 (by decide) ?_
          refine wx_istore (ls' := [(0, .ref 57), (1, .int x1), (2, .int x2), (3, .int x3), (4, .int x4), (5, .int x5), (6, .int v2), (7, .int (-1 : Int32)), (8, .int (1 : Int32))]) dX12_leastPlan_131 (by decide) rfl ?_
          refine wp_iload dX12_leastPlan_133 rfl ?_
          refine wp_if_eq 143 dX12_leastPlan_135 (by decide) (fun q => absurd q (by decide)) (fun _ => ?_)
          refine wp_iload dX12_leastPlan_138 rfl ?_
          refine wp_goto 145 dX12_leastPlan_140 (by decide) ?_
          refine wx_istore (ls' := [(0, .ref 57), (1, .int x1), (2, .int x2), (3, .int x3), (4, .int x5), (5, .int x5), (6, .int v2), (7, .int (-1 : Int32)), (8, .int (1 : Int32))]) dX12_leastPlan_145 (by decide) rfl ?_
          refine wx_iinc (v := -1) (ls' := [(0, .ref 57), (1, .int x1), (2, .int x2), (3, .int x3), (4, .int x5), (5, .int (x5 + (-1))), (6, .int v2), (7, .int (-1 : Int32)), (8, .int (1 : Int32))]) dX12_leastPlan_147 rfl (by decide) (by decide) rfl ?_
          refine wp_goto 47 dX12_leastPlan_150 (by decide) ?_
          refine wx_sub (ls' := [(0, .ref 57), (1, .int x1), (2, .int x2), (3, .int x3), (4, .int x5), (5, .int (x5 + (-1)))]) [0, 1, 2, 3, 4, 5] rfl ?_
          exact hv Q hq
theorem wX12_goesThrough_0 {x1 : Int32} {x2 : Int32} {x3 : Int32} (hK : StK K)  (hv : (∃ (v1 : Int32), Ev G d mX12_isPlan 0 [(0, .ref 57), (1, .int x1)] (K, n, V, J, O) (some (.int v1)) (K, n, V, J, O) ∧ ((v1 = 0 → r = some (.int (-1 : Int32))) ∧ (¬ v1 = 0 → (∃ (v2 : Int32), Ev G d mX12_isAsk 0 [(0, .ref 57), (1, .int x2)] (K, n, V, J, O) (some (.int v2)) (K, n, V, J, O) ∧ ((v2 = 0 → r = some (.int (-1 : Int32))) ∧ (¬ v2 = 0 → (∃ (v3 : Int32), Ev G d mX12_isSize 0 [(0, .int x3)] (K, n, V, J, O) (some (.int v3)) (K, n, V, J, O) ∧ ((v3 = 0 → r = some (.int (-1 : Int32))) ∧ (¬ v3 = 0 → (∃ (v4 : Int32), Ev G d mX12_cheapest 0 [(0, .ref 57), (1, .int x1), (2, .int x2), (3, .int x3)] (K, n, V, J, O) (some (.int v4)) (K, n, V, J, O) ∧ r = some (.int v4)))))))))))) : Ev G (d + 1) mX12_goesThrough 0 [(0, .ref 57), (1, .int x1), (2, .int x2), (3, .int x3)] (K, n, V, J, O) r (K, n, V, J, O) := by
  refine Ev.mk fun Q hq => ?_
  refine wp_aload_n (i := 0) dX12_goesThrough_0 rfl rfl ?_
  refine wp_iload_n (i := 1) dX12_goesThrough_1 rfl rfl ?_
  obtain ⟨v1, hE, hv⟩ := hv
  refine wz_callV (vs := [.int x1]) (st := []) dX12_goesThrough_2 (k57 hK) rfl k12_373_12 hE rfl (Nat.le_of_ble_eq_true rfl) (Nat.le_of_ble_eq_true rfl) ?_
  change wp _ _ _ _ _ [.int v1] _ _ _
  refine wp_if_eq 33 dX12_goesThrough_5 (by decide) (fun q => ?_) (fun q => ?_)
  · replace hv := hv.1 q
    refine wp_iconst (v := -1) dX12_goesThrough_33 (by decide) ?_
    obtain rfl := hv
    exact wp_ireturn dX12_goesThrough_34 rfl rfl rfl hq
  · replace hv := hv.2 q
    refine wp_aload_n (i := 0) dX12_goesThrough_8 rfl rfl ?_
    refine wp_iload_n (i := 2) dX12_goesThrough_9 rfl rfl ?_
    obtain ⟨v2, hE, hv⟩ := hv
    refine wz_callV (vs := [.int x2]) (st := []) dX12_goesThrough_10 (k57 hK) rfl k12_204_12 hE rfl (Nat.le_of_ble_eq_true rfl) (Nat.le_of_ble_eq_true rfl) ?_
    change wp _ _ _ _ _ [.int v2] _ _ _
    refine wp_if_eq 33 dX12_goesThrough_13 (by decide) (fun q => ?_) (fun q => ?_)
    · replace hv := hv.1 q
      refine wp_iconst (v := -1) dX12_goesThrough_33 (by decide) ?_
      obtain rfl := hv
      exact wp_ireturn dX12_goesThrough_34 rfl rfl rfl hq
    · replace hv := hv.2 q
      refine wp_iload_n (i := 3) dX12_goesThrough_16 rfl rfl ?_
      obtain ⟨v3, hE, hv⟩ := hv
      refine wz_callS (vs := [.int x3]) (st := []) dX12_goesThrough_17 k12_359 hE rfl (Nat.le_of_ble_eq_true rfl) (Nat.le_of_ble_eq_true rfl) ?_
      change wp _ _ _ _ _ [.int v3] _ _ _
      refine wp_if_eq 33 dX12_goesThrough_20 (by decide) (fun q => ?_) (fun q => ?_)
      · replace hv := hv.1 q
        refine wp_iconst (v := -1) dX12_goesThrough_33 (by decide) ?_
        obtain rfl := hv
        exact wp_ireturn dX12_goesThrough_34 rfl rfl rfl hq
      · replace hv := hv.2 q
        refine wp_aload_n (i := 0) dX12_goesThrough_23 rfl rfl ?_
        refine wp_iload_n (i := 1) dX12_goesThrough_24 rfl rfl ?_
        refine wp_iload_n (i := 2) dX12_goesThrough_25 rfl rfl ?_
        refine wp_iload_n (i := 3) dX12_goesThrough_26 rfl rfl ?_
        obtain ⟨v4, hE, hv⟩ := hv
        refine wz_callV (vs := [.int x1, .int x2, .int x3]) (st := []) dX12_goesThrough_27 (k57 hK) rfl k12_368_12 hE rfl (Nat.le_of_ble_eq_true rfl) (Nat.le_of_ble_eq_true rfl) ?_
        change wp _ _ _ _ _ [.int v4] _ _ _
        refine wp_goto 34 dX12_goesThrough_30 (by decide) ?_
        obtain rfl := hv
        exact wp_ireturn dX12_goesThrough_34 rfl rfl rfl hq
theorem wX12_drift_0 {x1 : Int32} {x2 : Int32} (hK : StK K)  (hv : (∃ (v1 : Int32), Ev G d mX12_within 0 [(0, .long x1.toInt64), (2, .long (0 : Int64)), (4, .long (999 : Int64))] (K, n, V, J, O) (some (.int v1)) (K, n, V, J, O) ∧ ((v1 = 0 → (r = some (.int (-1 : Int32)) ∧ V' = V)) ∧ (¬ v1 = 0 → (∃ (v2 : Int32), Ev G d mX12_within 0 [(0, .long x2.toInt64), (2, .long (0 : Int64)), (4, .long (999 : Int64))] (K, n, V, J, O) (some (.int v2)) (K, n, V, J, O) ∧ ((v2 ≠ 0 → (((V 57 36) ≠ (12 : Int32) → (vp_in (V 57 36) 12 ∧ (vp_in (V 57 36) 12 ∧ (r = some (.int ((V 57 36) + (1 : Int32))) ∧ V' = (up2 (up2 (up2 V 80 ((V 57 36)).toNatClampNeg x1) 81 ((V 57 36)).toNatClampNeg x2) 57 36 ((V 57 36) + (1 : Int32))))))) ∧ ((V 57 36) = (12 : Int32) → (r = some (.int (-3 : Int32)) ∧ V' = V)))) ∧ (v2 = 0 → (r = some (.int (-1 : Int32)) ∧ V' = V)))))))) : Ev G (d + 1) mX12_drift 0 [(0, .ref 57), (1, .int x1), (2, .int x2)] (K, n, V, J, O) r (K, n, V', J, O) := by
  refine Ev.mk fun Q hq => ?_
  refine wp_iload_n (i := 1) dX12_drift_0 rfl rfl ?_
  refine wp_i2l dX12_drift_1 ?_
  refine wp_lconst (v := 0) dX12_drift_2 (by decide) ?_
  refine wp_ldc2 (v := 999) dX12_drift_3 q12_357 ?_
  obtain ⟨v1, hE, hv⟩ := hv
  refine wz_callS (vs := [.long x1.toInt64, .long (0 : Int64), .long (999 : Int64)]) (st := []) dX12_drift_6 k12_135 hE rfl (Nat.le_of_ble_eq_true rfl) (Nat.le_of_ble_eq_true rfl) ?_
  change wp _ _ _ _ _ [.int v1] _ _ _
  refine wp_if_eq 24 dX12_drift_9 (by decide) (fun q => ?_) (fun q => ?_)
  · replace hv := hv.1 q
    refine wp_iconst (v := -1) dX12_drift_24 (by decide) ?_
    obtain ⟨rfl, rfl⟩ := hv
    exact wp_ireturn dX12_drift_25 rfl rfl rfl hq
  · replace hv := hv.2 q
    refine wp_iload_n (i := 2) dX12_drift_12 rfl rfl ?_
    refine wp_i2l dX12_drift_13 ?_
    refine wp_lconst (v := 0) dX12_drift_14 (by decide) ?_
    refine wp_ldc2 (v := 999) dX12_drift_15 q12_357 ?_
    obtain ⟨v2, hE, hv⟩ := hv
    refine wz_callS (vs := [.long x2.toInt64, .long (0 : Int64), .long (999 : Int64)]) (st := []) dX12_drift_18 k12_135 hE rfl (Nat.le_of_ble_eq_true rfl) (Nat.le_of_ble_eq_true rfl) ?_
    change wp _ _ _ _ _ [.int v2] _ _ _
    refine wp_if_ne 26 dX12_drift_21 (by decide) (fun q => ?_) (fun q => ?_)
    · replace hv := hv.1 q
      refine wp_aload_n (i := 0) dX12_drift_26 rfl rfl ?_
      refine wz_getI dX12_drift_27 (k57 hK) (f12_379 _ (by decide)) rfl ?_
      refine wp_bipush (v := 12) dX12_drift_30 (by decide) ?_
      refine wp_icmp_ne 38 dX12_drift_32 (by decide) (fun q => ?_) (fun q => ?_)
      · replace hv := hv.1 q
        refine wp_aload_n (i := 0) dX12_drift_38 rfl rfl ?_
        refine wz_getR (b := 80) dX12_drift_39 (k57 hK) (f12_77 _ (by decide)) rfl ?_
        refine wp_aload_n (i := 0) dX12_drift_42 rfl rfl ?_
        refine wz_getI dX12_drift_43 (k57 hK) (f12_379 _ (by decide)) rfl ?_
        refine wp_iload_n (i := 1) dX12_drift_46 rfl rfl ?_
        obtain ⟨z3, hv⟩ := hv
        refine wz_iastore dX12_drift_47 (k80 hK) z3 ?_
        refine wp_aload_n (i := 0) dX12_drift_48 rfl rfl ?_
        refine wz_getR (b := 81) dX12_drift_49 (k57 hK) (f12_80 _ (by decide)) rfl ?_
        refine wp_aload_n (i := 0) dX12_drift_52 rfl rfl ?_
        refine wz_getIe (v := (V 57 36)) dX12_drift_53 (k57 hK) (f12_379 _ (by decide)) rfl (up2_a (by decide)) ?_
        refine wp_iload_n (i := 2) dX12_drift_56 rfl rfl ?_
        obtain ⟨z4, hv⟩ := hv
        refine wz_iastore dX12_drift_57 (k81 hK) z4 ?_
        refine wp_aload_n (i := 0) dX12_drift_58 rfl rfl ?_
        refine wp_dupR dX12_drift_59 ?_
        refine wz_getIe (v := (V 57 36)) dX12_drift_60 (k57 hK) (f12_379 _ (by decide)) rfl (Eq.trans (up2_a (by decide)) (up2_a (by decide))) ?_
        refine wp_iconst (v := 1) dX12_drift_63 (by decide) ?_
        refine wp_iadd dX12_drift_64 ?_
        refine wz_putI dX12_drift_65 (k57 hK) (w12_379 _ (by decide)) rfl ?_
        refine wp_aload_n (i := 0) dX12_drift_68 rfl rfl ?_
        refine wz_getIe (v := ((V 57 36) + (1 : Int32))) dX12_drift_69 (k57 hK) (f12_379 _ (by decide)) rfl up2_s ?_
        obtain ⟨rfl, rfl⟩ := hv
        exact wp_ireturn dX12_drift_72 rfl rfl rfl hq
      · replace hv := hv.2 q
        refine wp_bipush (v := -3) dX12_drift_35 (by decide) ?_
        obtain ⟨rfl, rfl⟩ := hv
        exact wp_ireturn dX12_drift_37 rfl rfl rfl hq
    · replace hv := hv.2 q
      refine wp_iconst (v := -1) dX12_drift_24 (by decide) ?_
      obtain ⟨rfl, rfl⟩ := hv
      exact wp_ireturn dX12_drift_25 rfl rfl rfl hq
theorem wX12_costOf_0 {x1 : Int32} {x2 : Int32} (hK : StK K)  (hv : ((x1 ≠ 0 → (vp_in x2 12 ∧ r = some (.int (V 81 (x2).toNatClampNeg)))) ∧ (x1 = 0 → (vp_in x2 12 ∧ r = some (.int (V 80 (x2).toNatClampNeg)))))) : Ev G d mX12_costOf 0 [(0, .ref 57), (1, .int x1), (2, .int x2)] (K, n, V, J, O) r (K, n, V, J, O) := by
  refine Ev.mk fun Q hq => ?_
  refine wp_iload_n (i := 1) dX12_costOf_0 rfl rfl ?_
  refine wp_if_ne 13 dX12_costOf_1 (by decide) (fun q => ?_) (fun q => ?_)
  · replace hv := hv.1 q
    refine wp_aload_n (i := 0) dX12_costOf_13 rfl rfl ?_
    refine wz_getR (b := 81) dX12_costOf_14 (k57 hK) (f12_80 _ (by decide)) rfl ?_
    refine wp_iload_n (i := 2) dX12_costOf_17 rfl rfl ?_
    obtain ⟨z1, hv⟩ := hv
    refine wz_iaload dX12_costOf_18 (k81 hK) z1 ?_
    obtain rfl := hv
    exact wp_ireturn dX12_costOf_19 rfl rfl rfl hq
  · replace hv := hv.2 q
    refine wp_aload_n (i := 0) dX12_costOf_4 rfl rfl ?_
    refine wz_getR (b := 80) dX12_costOf_5 (k57 hK) (f12_77 _ (by decide)) rfl ?_
    refine wp_iload_n (i := 2) dX12_costOf_8 rfl rfl ?_
    obtain ⟨z2, hv⟩ := hv
    refine wz_iaload dX12_costOf_9 (k80 hK) z2 ?_
    refine wp_goto 19 dX12_costOf_10 (by decide) ?_
    obtain rfl := hv
    exact wp_ireturn dX12_costOf_19 rfl rfl rfl hq
theorem wX12_leastDrift_0 {x1 : Int32} (hK : StK K)  (hv : Ev G (d + 1) mX12_leastDrift 6 [(0, .ref 57), (1, .int x1), (2, .int (1999999999 : Int32)), (3, .int (0 : Int32))] (K, n, V, J, O) r (K, n, V, J, O)) : Ev G (d + 1) mX12_leastDrift 0 [(0, .ref 57), (1, .int x1)] (K, n, V, J, O) r (K, n, V, J, O) := by
  refine Ev.mk fun Q hq => ?_
  refine wp_ldcw (v := 1999999999) dX12_leastDrift_0 q12_382 ?_
  refine wx_istore_n (ls' := [(0, .ref 57), (1, .int x1), (2, .int (1999999999 : Int32))]) (i := 2) dX12_leastDrift_3 rfl (by decide) rfl ?_
  refine wp_iconst (v := 0) dX12_leastDrift_4 (by decide) ?_
  refine wx_istore_n (ls' := [(0, .ref 57), (1, .int x1), (2, .int (1999999999 : Int32)), (3, .int (0 : Int32))]) (i := 3) dX12_leastDrift_5 rfl (by decide) rfl ?_
  exact hv Q hq
theorem wX12_leastDrift_6 {x1 : Int32} {x2 : Int32} {x3 : Int32} (hK : StK K)  (hv : ((((1 : Int32) <<< ((V 57 36) &&& 31)) ≤ x3 → r = some (.int x2)) ∧ (¬ ((1 : Int32) <<< ((V 57 36) &&& 31)) ≤ x3 → Ev G (d + 1) mX12_leastDrift 22 [(0, .ref 57), (1, .int x1), (2, .int x2), (3, .int x3), (4, .int (0 : Int32)), (5, .int (0 : Int32))] (K, n, V, J, O) r (K, n, V, J, O)))) : Ev G (d + 1) mX12_leastDrift 6 [(0, .ref 57), (1, .int x1), (2, .int x2), (3, .int x3)] (K, n, V, J, O) r (K, n, V, J, O) := by
  refine Ev.mk fun Q hq => ?_
  refine wp_iload_n (i := 3) dX12_leastDrift_6 rfl rfl ?_
  refine wp_iconst (v := 1) dX12_leastDrift_7 (by decide) ?_
  refine wp_aload_n (i := 0) dX12_leastDrift_8 rfl rfl ?_
  refine wz_getI dX12_leastDrift_9 (k57 hK) (f12_379 _ (by decide)) rfl ?_
  refine wp_ishl dX12_leastDrift_12 ?_
  refine wp_icmp_ge 101 dX12_leastDrift_13 (by decide) (fun q => ?_) (fun q => ?_)
  · replace hv := hv.1 q
    refine wp_iload_n (i := 2) dX12_leastDrift_101 rfl rfl ?_
    obtain rfl := hv
    exact wp_ireturn dX12_leastDrift_102 rfl rfl rfl hq
  · replace hv := hv.2 q
    refine wp_iconst (v := 0) dX12_leastDrift_16 (by decide) ?_
    refine wx_istore (ls' := [(0, .ref 57), (1, .int x1), (2, .int x2), (3, .int x3), (4, .int (0 : Int32))]) dX12_leastDrift_17 (by decide) rfl ?_
    refine wp_iconst (v := 0) dX12_leastDrift_19 (by decide) ?_
    refine wx_istore (ls' := [(0, .ref 57), (1, .int x1), (2, .int x2), (3, .int x3), (4, .int (0 : Int32)), (5, .int (0 : Int32))]) dX12_leastDrift_20 (by decide) rfl ?_
    exact hv Q hq
theorem wX12_leastDrift_22 {x1 : Int32} {x2 : Int32} {x3 : Int32} {x4 : Int32} {x5 : Int32} (hK : StK K)  (hv : (((V 57 36) ≤ x5 → ((x2 ≤ x4 → Ev G (d + 1) mX12_leastDrift 6 [(0, .ref 57), (1, .int x1), (2, .int x2), (3, .int (x3 + 1))] (K, n, V, J, O) r (K, n, V, J, O)) ∧ (¬ x2 ≤ x4 → Ev G (d + 1) mX12_leastDrift 6 [(0, .ref 57), (1, .int x1), (2, .int x4), (3, .int (x3 + 1))] (K, n, V, J, O) r (K, n, V, J, O)))) ∧ (¬ (V 57 36) ≤ x5 → (∃ (v1 : Int32), Ev G d mX12_costOf 0 [(0, .ref 57), (1, .int ((x3 >>> (x5 &&& 31)) &&& (1 : Int32))), (2, .int x5)] (K, n, V, J, O) (some (.int v1)) (K, n, V, J, O) ∧ ((x5 ≤ 0 → Ev G (d + 1) mX12_leastDrift 22 [(0, .ref 57), (1, .int x1), (2, .int x2), (3, .int x3), (4, .int (x4 + (v1 + (0 : Int32)))), (5, .int (x5 + 1))] (K, n, V, J, O) r (K, n, V, J, O)) ∧ (¬ x5 ≤ 0 → ((((x3 >>> (x5 &&& 31)) &&& (1 : Int32)) = ((x3 >>> ((x5 - (1 : Int32)) &&& 31)) &&& (1 : Int32)) → Ev G (d + 1) mX12_leastDrift 22 [(0, .ref 57), (1, .int x1), (2, .int x2), (3, .int x3), (4, .int (x4 + (v1 + (0 : Int32)))), (5, .int (x5 + 1))] (K, n, V, J, O) r (K, n, V, J, O)) ∧ (¬ ((x3 >>> (x5 &&& 31)) &&& (1 : Int32)) = ((x3 >>> ((x5 - (1 : Int32)) &&& 31)) &&& (1 : Int32)) → Ev G (d + 1) mX12_leastDrift 22 [(0, .ref 57), (1, .int x1), (2, .int x2), (3, .int x3), (4, .int (x4 + (v1 + x1))), (5, .int (x5 + 1))] (K, n, V, J, O) r (K, n, V, J, O))))))))) : Ev G (d + 1) mX12_leastDrift 22 [(0, .ref 57), (1, .int x1), (2, .int x2), (3, .int x3), (4, .int x4), (5, .int x5)] (K, n, V, J, O) r (K, n, V, J, O) := by
  refine Ev.mk fun Q hq => ?_
  refine wp_iload dX12_leastDrift_22 rfl ?_
  refine wp_aload_n (i := 0) dX12_leastDrift_24 rfl rfl ?_
  refine wz_getI dX12_leastDrift_25 (k57 hK) (f12_379 _ (by decide)) rfl ?_
  refine wp_icmp_ge 82 dX12_leastDrift_28 (by decide) (fun q => ?_) (fun q => ?_)
  · replace hv := hv.1 q
    refine wp_iload dX12_leastDrift_82 rfl ?_
    refine wp_iload_n (i := 2) dX12_leastDrift_84 rfl rfl ?_
    refine wp_icmp_ge 93 dX12_leastDrift_85 (by decide) (fun q => ?_) (fun q => ?_)
    · replace hv := hv.1 q
      refine wp_iload_n (i := 2) dX12_leastDrift_93 rfl rfl ?_
      refine wx_istore_n (ls' := [(0, .ref 57), (1, .int x1), (2, .int x2), (3, .int x3), (4, .int x4), (5, .int x5)]) (i := 2) dX12_leastDrift_94 rfl (by decide) rfl ?_
      refine wx_iinc (v := 1) (ls' := [(0, .ref 57), (1, .int x1), (2, .int x2), (3, .int (x3 + 1)), (4, .int x4), (5, .int x5)]) dX12_leastDrift_95 rfl (by decide) (by decide) rfl ?_
      refine wp_goto 6 dX12_leastDrift_98 (by decide) ?_
      refine wx_sub (ls' := [(0, .ref 57), (1, .int x1), (2, .int x2), (3, .int (x3 + 1))]) [0, 1, 2, 3] rfl ?_
      exact hv Q hq
    · replace hv := hv.2 q
      refine wp_iload dX12_leastDrift_88 rfl ?_
      refine wp_goto 94 dX12_leastDrift_90 (by decide) ?_
      refine wx_istore_n (ls' := [(0, .ref 57), (1, .int x1), (2, .int x4), (3, .int x3), (4, .int x4), (5, .int x5)]) (i := 2) dX12_leastDrift_94 rfl (by decide) rfl ?_
      refine wx_iinc (v := 1) (ls' := [(0, .ref 57), (1, .int x1), (2, .int x4), (3, .int (x3 + 1)), (4, .int x4), (5, .int x5)]) dX12_leastDrift_95 rfl (by decide) (by decide) rfl ?_
      refine wp_goto 6 dX12_leastDrift_98 (by decide) ?_
      refine wx_sub (ls' := [(0, .ref 57), (1, .int x1), (2, .int x4), (3, .int (x3 + 1))]) [0, 1, 2, 3] rfl ?_
      exact hv Q hq
  · replace hv := hv.2 q
    refine wp_iload_n (i := 3) dX12_leastDrift_31 rfl rfl ?_
    refine wp_iload dX12_leastDrift_32 rfl ?_
    refine wp_ishr dX12_leastDrift_34 ?_
    refine wp_iconst (v := 1) dX12_leastDrift_35 (by decide) ?_
    refine wp_iand dX12_leastDrift_36 ?_
    refine wx_istore (ls' := [(0, .ref 57), (1, .int x1), (2, .int x2), (3, .int x3), (4, .int x4), (5, .int x5), (6, .int ((x3 >>> (x5 &&& 31)) &&& (1 : Int32)))]) dX12_leastDrift_37 (by decide) rfl ?_
    refine wp_iload dX12_leastDrift_39 rfl ?_
    refine wp_aload_n (i := 0) dX12_leastDrift_41 rfl rfl ?_
    refine wp_iload dX12_leastDrift_42 rfl ?_
    refine wp_iload dX12_leastDrift_44 rfl ?_
    obtain ⟨v1, hE, hv⟩ := hv
    refine wz_callV (vs := [.int ((x3 >>> (x5 &&& 31)) &&& (1 : Int32)), .int x5]) (st := [.int x4]) dX12_leastDrift_46 (k57 hK) rfl k12_383_12 hE rfl (Nat.le_of_ble_eq_true rfl) (Nat.le_of_ble_eq_true rfl) ?_
    change wp _ _ _ _ _ [.int v1, .int x4] _ _ _
    refine wp_iload dX12_leastDrift_49 rfl ?_
    refine wp_if_le 71 dX12_leastDrift_51 (by decide) (fun q => ?_) (fun q => ?_)
    · replace hv := hv.1 q
      refine wp_iconst (v := 0) dX12_leastDrift_71 (by decide) ?_
      refine wp_iadd dX12_leastDrift_72 ?_
      refine wp_iadd dX12_leastDrift_73 ?_
      refine wx_istore (ls' := [(0, .ref 57), (1, .int x1), (2, .int x2), (3, .int x3), (4, .int (x4 + (v1 + (0 : Int32)))), (5, .int x5), (6, .int ((x3 >>> (x5 &&& 31)) &&& (1 : Int32)))]) dX12_leastDrift_74 (by decide) rfl ?_
      refine wx_iinc (v := 1) (ls' := [(0, .ref 57), (1, .int x1), (2, .int x2), (3, .int x3), (4, .int (x4 + (v1 + (0 : Int32)))), (5, .int (x5 + 1)), (6, .int ((x3 >>> (x5 &&& 31)) &&& (1 : Int32)))]) dX12_leastDrift_76 rfl (by decide) (by decide) rfl ?_
      refine wp_goto 22 dX12_leastDrift_79 (by decide) ?_
      refine wx_sub (ls' := [(0, .ref 57), (1, .int x1), (2, .int x2), (3, .int x3), (4, .int (x4 + (v1 + (0 : Int32)))), (5, .int (x5 + 1))]) [0, 1, 2, 3, 4, 5] rfl ?_
      exact hv Q hq
    · replace hv := hv.2 q
      refine wp_iload dX12_leastDrift_54 rfl ?_
      refine wp_iload_n (i := 3) dX12_leastDrift_56 rfl rfl ?_
      refine wp_iload dX12_leastDrift_57 rfl ?_
      refine wp_iconst (v := 1) dX12_leastDrift_59 (by decide) ?_
      refine wp_isub dX12_leastDrift_60 ?_
      refine wp_ishr dX12_leastDrift_61 ?_
      refine wp_iconst (v := 1) dX12_leastDrift_62 (by decide) ?_
      refine wp_iand dX12_leastDrift_63 ?_
      refine wp_icmp_eq 71 dX12_leastDrift_64 (by decide) (fun q => ?_) (fun q => ?_)
      · replace hv := hv.1 q
        refine wp_iconst (v := 0) dX12_leastDrift_71 (by decide) ?_
        refine wp_iadd dX12_leastDrift_72 ?_
        refine wp_iadd dX12_leastDrift_73 ?_
        refine wx_istore (ls' := [(0, .ref 57), (1, .int x1), (2, .int x2), (3, .int x3), (4, .int (x4 + (v1 + (0 : Int32)))), (5, .int x5), (6, .int ((x3 >>> (x5 &&& 31)) &&& (1 : Int32)))]) dX12_leastDrift_74 (by decide) rfl ?_
        refine wx_iinc (v := 1) (ls' := [(0, .ref 57), (1, .int x1), (2, .int x2), (3, .int x3), (4, .int (x4 + (v1 + (0 : Int32)))), (5, .int (x5 + 1)), (6, .int ((x3 >>> (x5 &&& 31)) &&& (1 : Int32)))]) dX12_leastDrift_76 rfl (by decide) (by decide) rfl ?_
        refine wp_goto 22 dX12_leastDrift_79 (by decide) ?_
        refine wx_sub (ls' := [(0, .ref 57), (1, .int x1), (2, .int x2), (3, .int x3), (4, .int (x4 + (v1 + (0 : Int32)))), (5, .int (x5 + 1))]) [0, 1, 2, 3, 4, 5] rfl ?_
        exact hv Q hq
      · replace hv := hv.2 q
        refine wp_iload_n (i := 1) dX12_leastDrift_67 rfl rfl ?_
        refine wp_goto 72 dX12_leastDrift_68 (by decide) ?_
        refine wp_iadd dX12_leastDrift_72 ?_
        refine wp_iadd dX12_leastDrift_73 ?_
        refine wx_istore (ls' := [(0, .ref 57), (1, .int x1), (2, .int x2), (3, .int x3), (4, .int (x4 + (v1 + x1))), (5, .int x5), (6, .int ((x3 >>> (x5 &&& 31)) &&& (1 : Int32)))]) dX12_leastDrift_74 (by decide) rfl ?_
        refine wx_iinc (v := 1) (ls' := [(0, .ref 57), (1, .int x1), (2, .int x2), (3, .int x3), (4, .int (x4 + (v1 + x1))), (5, .int (x5 + 1)), (6, .int ((x3 >>> (x5 &&& 31)) &&& (1 : Int32)))]) dX12_leastDrift_76 rfl (by decide) (by decide) rfl ?_
        refine wp_goto 22 dX12_leastDrift_79 (by decide) ?_
        refine wx_sub (ls' := [(0, .ref 57), (1, .int x1), (2, .int x2), (3, .int x3), (4, .int (x4 + (v1 + x1))), (5, .int (x5 + 1))]) [0, 1, 2, 3, 4, 5] rfl ?_
        exact hv Q hq
theorem wX12_drifted_0 {x1 : Int32} {x2 : Int32} (hK : StK K)  (hv : (∃ (v1 : Int32), Ev G d mX12_within 0 [(0, .long x1.toInt64), (2, .long (0 : Int64)), (4, .long (999 : Int64))] (K, n, V, J, O) (some (.int v1)) (K, n, V, J, O) ∧ ((v1 = 0 → r = some (.int (-1 : Int32))) ∧ (¬ v1 = 0 → (∃ (v2 : Int32), Ev G d mX12_within 0 [(0, .long x2.toInt64), (2, .long (0 : Int64)), (4, .long (2 : Int64))] (K, n, V, J, O) (some (.int v2)) (K, n, V, J, O) ∧ ((v2 = 0 → r = some (.int (-1 : Int32))) ∧ (¬ v2 = 0 → (((V 57 36) ≠ 0 → ((x2 ≠ 0 → Ev G (d + 1) mX12_drifted 57 [(0, .ref 57), (1, .int x1), (2, .int x2), (3, .int (0 : Int32)), (4, .int (0 : Int32)), (5, .int (0 : Int32)), (6, .int (0 : Int32)), (7, .int (0 : Int32))] (K, n, V, J, O) r (K, n, V, J, O)) ∧ (x2 = 0 → (∃ (v3 : Int32), Ev G d mX12_leastDrift 0 [(0, .ref 57), (1, .int x1)] (K, n, V, J, O) (some (.int v3)) (K, n, V, J, O) ∧ r = some (.int v3))))) ∧ ((V 57 36) = 0 → r = some (.int (-1 : Int32))))))))))) : Ev G (d + 1) mX12_drifted 0 [(0, .ref 57), (1, .int x1), (2, .int x2)] (K, n, V, J, O) r (K, n, V, J, O) := by
  refine Ev.mk fun Q hq => ?_
  refine wp_iload_n (i := 1) dX12_drifted_0 rfl rfl ?_
  refine wp_i2l dX12_drifted_1 ?_
  refine wp_lconst (v := 0) dX12_drifted_2 (by decide) ?_
  refine wp_ldc2 (v := 999) dX12_drifted_3 q12_357 ?_
  obtain ⟨v1, hE, hv⟩ := hv
  refine wz_callS (vs := [.long x1.toInt64, .long (0 : Int64), .long (999 : Int64)]) (st := []) dX12_drifted_6 k12_135 hE rfl (Nat.le_of_ble_eq_true rfl) (Nat.le_of_ble_eq_true rfl) ?_
  change wp _ _ _ _ _ [.int v1] _ _ _
  refine wp_if_eq 31 dX12_drifted_9 (by decide) (fun q => ?_) (fun q => ?_)
  · replace hv := hv.1 q
    refine wp_iconst (v := -1) dX12_drifted_31 (by decide) ?_
    obtain rfl := hv
    exact wp_ireturn dX12_drifted_32 rfl rfl rfl hq
  · replace hv := hv.2 q
    refine wp_iload_n (i := 2) dX12_drifted_12 rfl rfl ?_
    refine wp_i2l dX12_drifted_13 ?_
    refine wp_lconst (v := 0) dX12_drifted_14 (by decide) ?_
    refine wp_ldc2 (v := 2) dX12_drifted_15 q12_386 ?_
    obtain ⟨v2, hE, hv⟩ := hv
    refine wz_callS (vs := [.long x2.toInt64, .long (0 : Int64), .long (2 : Int64)]) (st := []) dX12_drifted_18 k12_135 hE rfl (Nat.le_of_ble_eq_true rfl) (Nat.le_of_ble_eq_true rfl) ?_
    change wp _ _ _ _ _ [.int v2] _ _ _
    refine wp_if_eq 31 dX12_drifted_21 (by decide) (fun q => ?_) (fun q => ?_)
    · replace hv := hv.1 q
      refine wp_iconst (v := -1) dX12_drifted_31 (by decide) ?_
      obtain rfl := hv
      exact wp_ireturn dX12_drifted_32 rfl rfl rfl hq
    · replace hv := hv.2 q
      refine wp_aload_n (i := 0) dX12_drifted_24 rfl rfl ?_
      refine wz_getI dX12_drifted_25 (k57 hK) (f12_379 _ (by decide)) rfl ?_
      refine wp_if_ne 33 dX12_drifted_28 (by decide) (fun q => ?_) (fun q => ?_)
      · replace hv := hv.1 q
        refine wp_iload_n (i := 2) dX12_drifted_33 rfl rfl ?_
        refine wp_if_ne 43 dX12_drifted_34 (by decide) (fun q => ?_) (fun q => ?_)
        · replace hv := hv.1 q
          refine wp_iconst (v := 0) dX12_drifted_43 (by decide) ?_
          refine wx_istore_n (ls' := [(0, .ref 57), (1, .int x1), (2, .int x2), (3, .int (0 : Int32))]) (i := 3) dX12_drifted_44 rfl (by decide) rfl ?_
          refine wp_iconst (v := 0) dX12_drifted_45 (by decide) ?_
          refine wx_istore (ls' := [(0, .ref 57), (1, .int x1), (2, .int x2), (3, .int (0 : Int32)), (4, .int (0 : Int32))]) dX12_drifted_46 (by decide) rfl ?_
          refine wp_iconst (v := 0) dX12_drifted_48 (by decide) ?_
          refine wx_istore (ls' := [(0, .ref 57), (1, .int x1), (2, .int x2), (3, .int (0 : Int32)), (4, .int (0 : Int32)), (5, .int (0 : Int32))]) dX12_drifted_49 (by decide) rfl ?_
          refine wp_iconst (v := 0) dX12_drifted_51 (by decide) ?_
          refine wx_istore (ls' := [(0, .ref 57), (1, .int x1), (2, .int x2), (3, .int (0 : Int32)), (4, .int (0 : Int32)), (5, .int (0 : Int32)), (6, .int (0 : Int32))]) dX12_drifted_52 (by decide) rfl ?_
          refine wp_iconst (v := 0) dX12_drifted_54 (by decide) ?_
          refine wx_istore (ls' := [(0, .ref 57), (1, .int x1), (2, .int x2), (3, .int (0 : Int32)), (4, .int (0 : Int32)), (5, .int (0 : Int32)), (6, .int (0 : Int32)), (7, .int (0 : Int32))]) dX12_drifted_55 (by decide) rfl ?_
          exact hv Q hq
        · replace hv := hv.2 q
          refine wp_aload_n (i := 0) dX12_drifted_37 rfl rfl ?_
          refine wp_iload_n (i := 1) dX12_drifted_38 rfl rfl ?_
          obtain ⟨v3, hE, hv⟩ := hv
          refine wz_callV (vs := [.int x1]) (st := []) dX12_drifted_39 (k57 hK) rfl k12_388_12 hE rfl (Nat.le_of_ble_eq_true rfl) (Nat.le_of_ble_eq_true rfl) ?_
          change wp _ _ _ _ _ [.int v3] _ _ _
          obtain rfl := hv
          exact wp_ireturn dX12_drifted_42 rfl rfl rfl hq
      · replace hv := hv.2 q
        refine wp_iconst (v := -1) dX12_drifted_31 (by decide) ?_
        obtain rfl := hv
        exact wp_ireturn dX12_drifted_32 rfl rfl rfl hq
theorem wX12_drifted_57 {x1 : Int32} {x2 : Int32} {x3 : Int32} {x4 : Int32} {x5 : Int32} {x6 : Int32} {x7 : Int32} (hK : StK K)  (hv : (((V 57 36) ≤ x7 → ((x2 ≠ (1 : Int32) → r = some (.int x6)) ∧ (x2 = (1 : Int32) → r = some (.int x5)))) ∧ (¬ (V 57 36) ≤ x7 → ((x7 ≤ 0 → Ev G (d + 1) mX12_drifted 93 [(0, .ref 57), (1, .int x1), (2, .int x2), (3, .int x3), (4, .int x4), (5, .int x5), (6, .int x6), (7, .int x7)] (K, n, V, J, O) r (K, n, V, J, O)) ∧ (¬ x7 ≤ 0 → ((x4 < x1 → Ev G (d + 1) mX12_drifted 93 [(0, .ref 57), (1, .int x1), (2, .int x2), (3, .int x3), (4, .int x4), (5, .int x5), (6, .int x6), (7, .int x7)] (K, n, V, J, O) r (K, n, V, J, O)) ∧ (¬ x4 < x1 → Ev G (d + 1) mX12_drifted 93 [(0, .ref 57), (1, .int x1), (2, .int x2), (3, .int ((1 : Int32) - x3)), (4, .int (0 : Int32)), (5, .int (x5 + x1)), (6, .int (x6 + 1)), (7, .int x7)] (K, n, V, J, O) r (K, n, V, J, O)))))))) : Ev G (d + 1) mX12_drifted 57 [(0, .ref 57), (1, .int x1), (2, .int x2), (3, .int x3), (4, .int x4), (5, .int x5), (6, .int x6), (7, .int x7)] (K, n, V, J, O) r (K, n, V, J, O) := by
  refine Ev.mk fun Q hq => ?_
  refine wp_iload dX12_drifted_57 rfl ?_
  refine wp_aload_n (i := 0) dX12_drifted_59 rfl rfl ?_
  refine wz_getI dX12_drifted_60 (k57 hK) (f12_379 _ (by decide)) rfl ?_
  refine wp_icmp_ge 146 dX12_drifted_63 (by decide) (fun q => ?_) (fun q => ?_)
  · replace hv := hv.1 q
    refine wp_iload_n (i := 2) dX12_drifted_146 rfl rfl ?_
    refine wp_iconst (v := 1) dX12_drifted_147 (by decide) ?_
    refine wp_icmp_ne 156 dX12_drifted_148 (by decide) (fun q => ?_) (fun q => ?_)
    · replace hv := hv.1 q
      refine wp_iload dX12_drifted_156 rfl ?_
      obtain rfl := hv
      exact wp_ireturn dX12_drifted_158 rfl rfl rfl hq
    · replace hv := hv.2 q
      refine wp_iload dX12_drifted_151 rfl ?_
      refine wp_goto 158 dX12_drifted_153 (by decide) ?_
      obtain rfl := hv
      exact wp_ireturn dX12_drifted_158 rfl rfl rfl hq
  · replace hv := hv.2 q
    refine wp_iload dX12_drifted_66 rfl ?_
    refine wp_if_le 93 dX12_drifted_68 (by decide) (fun q => ?_) (fun q => ?_)
    · replace hv := hv.1 q
      exact hv Q hq
    · replace hv := hv.2 q
      refine wp_iload dX12_drifted_71 rfl ?_
      refine wp_iload_n (i := 1) dX12_drifted_73 rfl rfl ?_
      refine wp_icmp_lt 93 dX12_drifted_74 (by decide) (fun q => ?_) (fun q => ?_)
      · replace hv := hv.1 q
        exact hv Q hq
      · replace hv := hv.2 q
        refine wp_iconst (v := 1) dX12_drifted_77 (by decide) ?_
        refine wp_iload_n (i := 3) dX12_drifted_78 rfl rfl ?_
        refine wp_isub dX12_drifted_79 ?_
        refine wx_istore_n (ls' := [(0, .ref 57), (1, .int x1), (2, .int x2), (3, .int ((1 : Int32) - x3)), (4, .int x4), (5, .int x5), (6, .int x6), (7, .int x7)]) (i := 3) dX12_drifted_80 rfl (by decide) rfl ?_
        refine wp_iconst (v := 0) dX12_drifted_81 (by decide) ?_
        refine wx_istore (ls' := [(0, .ref 57), (1, .int x1), (2, .int x2), (3, .int ((1 : Int32) - x3)), (4, .int (0 : Int32)), (5, .int x5), (6, .int x6), (7, .int x7)]) dX12_drifted_82 (by decide) rfl ?_
        refine wp_iload dX12_drifted_84 rfl ?_
        refine wp_iload_n (i := 1) dX12_drifted_86 rfl rfl ?_
        refine wp_iadd dX12_drifted_87 ?_
        refine wx_istore (ls' := [(0, .ref 57), (1, .int x1), (2, .int x2), (3, .int ((1 : Int32) - x3)), (4, .int (0 : Int32)), (5, .int (x5 + x1)), (6, .int x6), (7, .int x7)]) dX12_drifted_88 (by decide) rfl ?_
        refine wx_iinc (v := 1) (ls' := [(0, .ref 57), (1, .int x1), (2, .int x2), (3, .int ((1 : Int32) - x3)), (4, .int (0 : Int32)), (5, .int (x5 + x1)), (6, .int (x6 + 1)), (7, .int x7)]) dX12_drifted_90 rfl (by decide) (by decide) rfl ?_
        exact hv Q hq
theorem wX12_drifted_93 {x1 : Int32} {x2 : Int32} {x3 : Int32} {x4 : Int32} {x5 : Int32} {x6 : Int32} {x7 : Int32} (hK : StK K)  (hv : (∃ (v1 : Int32), Ev G d mX12_costOf 0 [(0, .ref 57), (1, .int x3), (2, .int x7)] (K, n, V, J, O) (some (.int v1)) (K, n, V, J, O) ∧ (∃ (v2 : Int32), Ev G d mX12_costOf 0 [(0, .ref 57), (1, .int x3), (2, .int x7)] (K, n, V, J, O) (some (.int v2)) (K, n, V, J, O) ∧ (∃ (v3 : Int32), Ev G d mX12_costOf 0 [(0, .ref 57), (1, .int ((1 : Int32) - x3)), (2, .int x7)] (K, n, V, J, O) (some (.int v3)) (K, n, V, J, O) ∧ ((0 ≤ (x4 + (v2 - v3)) → Ev G (d + 1) mX12_drifted 57 [(0, .ref 57), (1, .int x1), (2, .int x2), (3, .int x3), (4, .int (x4 + (v2 - v3))), (5, .int (x5 + v1)), (6, .int x6), (7, .int (x7 + 1))] (K, n, V, J, O) r (K, n, V, J, O)) ∧ (¬ 0 ≤ (x4 + (v2 - v3)) → Ev G (d + 1) mX12_drifted 57 [(0, .ref 57), (1, .int x1), (2, .int x2), (3, .int x3), (4, .int (0 : Int32)), (5, .int (x5 + v1)), (6, .int x6), (7, .int (x7 + 1))] (K, n, V, J, O) r (K, n, V, J, O))))))) : Ev G (d + 1) mX12_drifted 93 [(0, .ref 57), (1, .int x1), (2, .int x2), (3, .int x3), (4, .int x4), (5, .int x5), (6, .int x6), (7, .int x7)] (K, n, V, J, O) r (K, n, V, J, O) := by
  refine Ev.mk fun Q hq => ?_
  refine wp_iload dX12_drifted_93 rfl ?_
  refine wp_aload_n (i := 0) dX12_drifted_95 rfl rfl ?_
  refine wp_iload_n (i := 3) dX12_drifted_96 rfl rfl ?_
  refine wp_iload dX12_drifted_97 rfl ?_
  obtain ⟨v1, hE, hv⟩ := hv
  refine wz_callV (vs := [.int x3, .int x7]) (st := [.int x5]) dX12_drifted_99 (k57 hK) rfl k12_383_12 hE rfl (Nat.le_of_ble_eq_true rfl) (Nat.le_of_ble_eq_true rfl) ?_
  change wp _ _ _ _ _ [.int v1, .int x5] _ _ _
  refine wp_iadd dX12_drifted_102 ?_
  refine wx_istore (ls' := [(0, .ref 57), (1, .int x1), (2, .int x2), (3, .int x3), (4, .int x4), (5, .int (x5 + v1)), (6, .int x6), (7, .int x7)]) dX12_drifted_103 (by decide) rfl ?_
  refine wp_iload dX12_drifted_105 rfl ?_
  refine wp_aload_n (i := 0) dX12_drifted_107 rfl rfl ?_
  refine wp_iload_n (i := 3) dX12_drifted_108 rfl rfl ?_
  refine wp_iload dX12_drifted_109 rfl ?_
  obtain ⟨v2, hE, hv⟩ := hv
  refine wz_callV (vs := [.int x3, .int x7]) (st := [.int x4]) dX12_drifted_111 (k57 hK) rfl k12_383_12 hE rfl (Nat.le_of_ble_eq_true rfl) (Nat.le_of_ble_eq_true rfl) ?_
  change wp _ _ _ _ _ [.int v2, .int x4] _ _ _
  refine wp_aload_n (i := 0) dX12_drifted_114 rfl rfl ?_
  refine wp_iconst (v := 1) dX12_drifted_115 (by decide) ?_
  refine wp_iload_n (i := 3) dX12_drifted_116 rfl rfl ?_
  refine wp_isub dX12_drifted_117 ?_
  refine wp_iload dX12_drifted_118 rfl ?_
  obtain ⟨v3, hE, hv⟩ := hv
  refine wz_callV (vs := [.int ((1 : Int32) - x3), .int x7]) (st := [.int v2, .int x4]) dX12_drifted_120 (k57 hK) rfl k12_383_12 hE rfl (Nat.le_of_ble_eq_true rfl) (Nat.le_of_ble_eq_true rfl) ?_
  change wp _ _ _ _ _ [.int v3, .int v2, .int x4] _ _ _
  refine wp_isub dX12_drifted_123 ?_
  refine wp_iadd dX12_drifted_124 ?_
  refine wx_istore (ls' := [(0, .ref 57), (1, .int x1), (2, .int x2), (3, .int x3), (4, .int (x4 + (v2 - v3))), (5, .int (x5 + v1)), (6, .int x6), (7, .int x7)]) dX12_drifted_125 (by decide) rfl ?_
  refine wp_iload dX12_drifted_127 rfl ?_
  refine wp_if_ge 136 dX12_drifted_129 (by decide) (fun q => ?_) (fun q => ?_)
  · replace hv := hv.1 q
    refine wp_iload dX12_drifted_136 rfl ?_
    refine wx_istore (ls' := [(0, .ref 57), (1, .int x1), (2, .int x2), (3, .int x3), (4, .int (x4 + (v2 - v3))), (5, .int (x5 + v1)), (6, .int x6), (7, .int x7)]) dX12_drifted_138 (by decide) rfl ?_
    refine wx_iinc (v := 1) (ls' := [(0, .ref 57), (1, .int x1), (2, .int x2), (3, .int x3), (4, .int (x4 + (v2 - v3))), (5, .int (x5 + v1)), (6, .int x6), (7, .int (x7 + 1))]) dX12_drifted_140 rfl (by decide) (by decide) rfl ?_
    refine wp_goto 57 dX12_drifted_143 (by decide) ?_
    exact hv Q hq
  · replace hv := hv.2 q
    refine wp_iconst (v := 0) dX12_drifted_132 (by decide) ?_
    refine wp_goto 138 dX12_drifted_133 (by decide) ?_
    refine wx_istore (ls' := [(0, .ref 57), (1, .int x1), (2, .int x2), (3, .int x3), (4, .int (0 : Int32)), (5, .int (x5 + v1)), (6, .int x6), (7, .int x7)]) dX12_drifted_138 (by decide) rfl ?_
    refine wx_iinc (v := 1) (ls' := [(0, .ref 57), (1, .int x1), (2, .int x2), (3, .int x3), (4, .int (0 : Int32)), (5, .int (x5 + v1)), (6, .int x6), (7, .int (x7 + 1))]) dX12_drifted_140 rfl (by decide) (by decide) rfl ?_
    refine wp_goto 57 dX12_drifted_143 (by decide) ?_
    exact hv Q hq
theorem wX12_undrift_0  (hK : StK K)  (hv : (r = some (.int (V 57 36)) ∧ V' = (up2 V 57 36 (0 : Int32)))) : Ev G d mX12_undrift 0 [(0, .ref 57)] (K, n, V, J, O) r (K, n, V', J, O) := by
  refine Ev.mk fun Q hq => ?_
  refine wp_aload_n (i := 0) dX12_undrift_0 rfl rfl ?_
  refine wz_getI dX12_undrift_1 (k57 hK) (f12_379 _ (by decide)) rfl ?_
  refine wx_istore_n (ls' := [(0, .ref 57), (1, .int (V 57 36))]) (i := 1) dX12_undrift_4 rfl (by decide) rfl ?_
  refine wp_aload_n (i := 0) dX12_undrift_5 rfl rfl ?_
  refine wp_iconst (v := 0) dX12_undrift_6 (by decide) ?_
  refine wz_putI dX12_undrift_7 (k57 hK) (w12_379 _ (by decide)) rfl ?_
  refine wp_iload_n (i := 1) dX12_undrift_10 rfl rfl ?_
  obtain ⟨rfl, rfl⟩ := hv
  exact wp_ireturn dX12_undrift_11 rfl rfl rfl hq
theorem wX12_cell_0 {x1 : Int32} (hK : StK K)  (hv : (∃ (v1 : Int32), Ev G d mX12_isValue 0 [(0, .int x1)] (K, n, V, J, O) (some (.int v1)) (K, n, V, J, O) ∧ ((v1 ≠ 0 → (((V 57 38) ≠ (60 : Int32) → (vp_in (V 57 38) 60 ∧ (r = some (.int ((V 57 38) + (1 : Int32))) ∧ V' = (up2 (up2 V 82 ((V 57 38)).toNatClampNeg x1) 57 38 ((V 57 38) + (1 : Int32)))))) ∧ ((V 57 38) = (60 : Int32) → (r = some (.int (-3 : Int32)) ∧ V' = V)))) ∧ (v1 = 0 → (r = some (.int (-1 : Int32)) ∧ V' = V))))) : Ev G (d + 1) mX12_cell 0 [(0, .ref 57), (1, .int x1)] (K, n, V, J, O) r (K, n, V', J, O) := by
  refine Ev.mk fun Q hq => ?_
  refine wp_iload_n (i := 1) dX12_cell_0 rfl rfl ?_
  obtain ⟨v1, hE, hv⟩ := hv
  refine wz_callS (vs := [.int x1]) (st := []) dX12_cell_1 k12_145 hE rfl (Nat.le_of_ble_eq_true rfl) (Nat.le_of_ble_eq_true rfl) ?_
  change wp _ _ _ _ _ [.int v1] _ _ _
  refine wp_if_ne 9 dX12_cell_4 (by decide) (fun q => ?_) (fun q => ?_)
  · replace hv := hv.1 q
    refine wp_aload_n (i := 0) dX12_cell_9 rfl rfl ?_
    refine wz_getI dX12_cell_10 (k57 hK) (f12_391 _ (by decide)) rfl ?_
    refine wp_bipush (v := 60) dX12_cell_13 (by decide) ?_
    refine wp_icmp_ne 21 dX12_cell_15 (by decide) (fun q => ?_) (fun q => ?_)
    · replace hv := hv.1 q
      refine wp_aload_n (i := 0) dX12_cell_21 rfl rfl ?_
      refine wz_getR (b := 82) dX12_cell_22 (k57 hK) (f12_83 _ (by decide)) rfl ?_
      refine wp_aload_n (i := 0) dX12_cell_25 rfl rfl ?_
      refine wz_getI dX12_cell_26 (k57 hK) (f12_391 _ (by decide)) rfl ?_
      refine wp_iload_n (i := 1) dX12_cell_29 rfl rfl ?_
      obtain ⟨z2, hv⟩ := hv
      refine wz_iastore dX12_cell_30 (k82 hK) z2 ?_
      refine wp_aload_n (i := 0) dX12_cell_31 rfl rfl ?_
      refine wp_dupR dX12_cell_32 ?_
      refine wz_getIe (v := (V 57 38)) dX12_cell_33 (k57 hK) (f12_391 _ (by decide)) rfl (up2_a (by decide)) ?_
      refine wp_iconst (v := 1) dX12_cell_36 (by decide) ?_
      refine wp_iadd dX12_cell_37 ?_
      refine wz_putI dX12_cell_38 (k57 hK) (w12_391 _ (by decide)) rfl ?_
      refine wp_aload_n (i := 0) dX12_cell_41 rfl rfl ?_
      refine wz_getIe (v := ((V 57 38) + (1 : Int32))) dX12_cell_42 (k57 hK) (f12_391 _ (by decide)) rfl up2_s ?_
      obtain ⟨rfl, rfl⟩ := hv
      exact wp_ireturn dX12_cell_45 rfl rfl rfl hq
    · replace hv := hv.2 q
      refine wp_bipush (v := -3) dX12_cell_18 (by decide) ?_
      obtain ⟨rfl, rfl⟩ := hv
      exact wp_ireturn dX12_cell_20 rfl rfl rfl hq
  · replace hv := hv.2 q
    refine wp_iconst (v := -1) dX12_cell_7 (by decide) ?_
    obtain ⟨rfl, rfl⟩ := hv
    exact wp_ireturn dX12_cell_8 rfl rfl rfl hq
theorem wX12_nextUse_0 {x1 : Int32} {x2 : Int32} {x3 : Int32} (hK : StK K)  (hv : Ev G d mX12_nextUse 5 [(0, .ref 57), (1, .int x1), (2, .int x2), (3, .int x3), (4, .int (x3 + (1 : Int32)))] (K, n, V, J, O) r (K, n, V, J, O)) : Ev G d mX12_nextUse 0 [(0, .ref 57), (1, .int x1), (2, .int x2), (3, .int x3)] (K, n, V, J, O) r (K, n, V, J, O) := by
  refine Ev.mk fun Q hq => ?_
  refine wp_iload_n (i := 3) dX12_nextUse_0 rfl rfl ?_
  refine wp_iconst (v := 1) dX12_nextUse_1 (by decide) ?_
  refine wp_iadd dX12_nextUse_2 ?_
  refine wx_istore (ls' := [(0, .ref 57), (1, .int x1), (2, .int x2), (3, .int x3), (4, .int (x3 + (1 : Int32)))]) dX12_nextUse_3 (by decide) rfl ?_
  exact hv Q hq
theorem wX12_nextUse_5 {x1 : Int32} {x2 : Int32} {x3 : Int32} {x4 : Int32} (hK : StK K)  (hv : (((V 57 38) ≤ x4 → r = some (.int (2147483647 : Int32))) ∧ (¬ (V 57 38) ≤ x4 → (vp_in x4 60 ∧ (¬ x2 = 0 ∧ ((((V 82 (x4).toNatClampNeg) / x2) ≠ x1 → Ev G d mX12_nextUse 5 [(0, .ref 57), (1, .int x1), (2, .int x2), (3, .int x3), (4, .int (x4 + 1))] (K, n, V, J, O) r (K, n, V, J, O)) ∧ (((V 82 (x4).toNatClampNeg) / x2) = x1 → r = some (.int x4)))))))) : Ev G d mX12_nextUse 5 [(0, .ref 57), (1, .int x1), (2, .int x2), (3, .int x3), (4, .int x4)] (K, n, V, J, O) r (K, n, V, J, O) := by
  refine Ev.mk fun Q hq => ?_
  refine wp_iload dX12_nextUse_5 rfl ?_
  refine wp_aload_n (i := 0) dX12_nextUse_7 rfl rfl ?_
  refine wz_getI dX12_nextUse_8 (k57 hK) (f12_391 _ (by decide)) rfl ?_
  refine wp_icmp_ge 36 dX12_nextUse_11 (by decide) (fun q => ?_) (fun q => ?_)
  · replace hv := hv.1 q
    refine wp_ldcw (v := 2147483647) dX12_nextUse_36 q12_396 ?_
    obtain rfl := hv
    exact wp_ireturn dX12_nextUse_39 rfl rfl rfl hq
  · replace hv := hv.2 q
    refine wp_aload_n (i := 0) dX12_nextUse_14 rfl rfl ?_
    refine wz_getR (b := 82) dX12_nextUse_15 (k57 hK) (f12_83 _ (by decide)) rfl ?_
    refine wp_iload dX12_nextUse_18 rfl ?_
    obtain ⟨z1, hv⟩ := hv
    refine wz_iaload dX12_nextUse_20 (k82 hK) z1 ?_
    refine wp_iload_n (i := 2) dX12_nextUse_21 rfl rfl ?_
    obtain ⟨nz, hv⟩ := hv
    refine wp_idiv dX12_nextUse_22 nz ?_
    refine wp_iload_n (i := 1) dX12_nextUse_23 rfl rfl ?_
    refine wp_icmp_ne 30 dX12_nextUse_24 (by decide) (fun q => ?_) (fun q => ?_)
    · replace hv := hv.1 q
      refine wx_iinc (v := 1) (ls' := [(0, .ref 57), (1, .int x1), (2, .int x2), (3, .int x3), (4, .int (x4 + 1))]) dX12_nextUse_30 rfl (by decide) (by decide) rfl ?_
      refine wp_goto 5 dX12_nextUse_33 (by decide) ?_
      exact hv Q hq
    · replace hv := hv.2 q
      refine wp_iload dX12_nextUse_27 rfl ?_
      obtain rfl := hv
      exact wp_ireturn dX12_nextUse_29 rfl rfl rfl hq
theorem wX12_goesOff_0 {x1 : Int32} {x2 : Int32} {x3 : Int32} {x4 : Int32} (hK : StK K)  (hv : Ev G (d + 1) mX12_goesOff 6 [(0, .ref 57), (1, .int x1), (2, .int x2), (3, .int x3), (4, .int x4), (5, .int (0 : Int32)), (6, .int (1 : Int32))] (K, n, V, J, O) r (K, n, V, J, O)) : Ev G (d + 1) mX12_goesOff 0 [(0, .ref 57), (1, .int x1), (2, .int x2), (3, .int x3), (4, .int x4)] (K, n, V, J, O) r (K, n, V, J, O) := by
  refine Ev.mk fun Q hq => ?_
  refine wp_iconst (v := 0) dX12_goesOff_0 (by decide) ?_
  refine wx_istore (ls' := [(0, .ref 57), (1, .int x1), (2, .int x2), (3, .int x3), (4, .int x4), (5, .int (0 : Int32))]) dX12_goesOff_1 (by decide) rfl ?_
  refine wp_iconst (v := 1) dX12_goesOff_3 (by decide) ?_
  refine wx_istore (ls' := [(0, .ref 57), (1, .int x1), (2, .int x2), (3, .int x3), (4, .int x4), (5, .int (0 : Int32)), (6, .int (1 : Int32))]) dX12_goesOff_4 (by decide) rfl ?_
  exact hv Q hq
theorem wX12_goesOff_6 {x1 : Int32} {x2 : Int32} {x3 : Int32} {x4 : Int32} {x5 : Int32} {x6 : Int32} (hK : StK K)  (hv : ((x1 ≤ x6 → r = some (.int x5)) ∧ (¬ x1 ≤ x6 → ((x4 ≠ 0 → (vp_in x6 8 ∧ (∃ (v2 : Int32), Ev G d mX12_nextUse 0 [(0, .ref 57), (1, .int (V 83 (x6).toNatClampNeg)), (2, .int x2), (3, .int x3)] (K, n, V, J, O) (some (.int v2)) (K, n, V, J, O) ∧ (vp_in x5 8 ∧ (∃ (v4 : Int32), Ev G d mX12_nextUse 0 [(0, .ref 57), (1, .int (V 83 (x5).toNatClampNeg)), (2, .int x2), (3, .int x3)] (K, n, V, J, O) (some (.int v4)) (K, n, V, J, O) ∧ ((v4 < v2 → Ev G (d + 1) mX12_goesOff 6 [(0, .ref 57), (1, .int x1), (2, .int x2), (3, .int x3), (4, .int x4), (5, .int x6), (6, .int (x6 + 1))] (K, n, V, J, O) r (K, n, V, J, O)) ∧ (¬ v4 < v2 → ((v2 ≠ v4 → Ev G (d + 1) mX12_goesOff 6 [(0, .ref 57), (1, .int x1), (2, .int x2), (3, .int x3), (4, .int x4), (5, .int x5), (6, .int (x6 + 1))] (K, n, V, J, O) r (K, n, V, J, O)) ∧ (v2 = v4 → (vp_in x6 8 ∧ (vp_in x5 8 ∧ (((V 83 (x5).toNatClampNeg) ≤ (V 83 (x6).toNatClampNeg) → Ev G (d + 1) mX12_goesOff 6 [(0, .ref 57), (1, .int x1), (2, .int x2), (3, .int x3), (4, .int x4), (5, .int x5), (6, .int (x6 + 1))] (K, n, V, J, O) r (K, n, V, J, O)) ∧ (¬ (V 83 (x5).toNatClampNeg) ≤ (V 83 (x6).toNatClampNeg) → Ev G (d + 1) mX12_goesOff 6 [(0, .ref 57), (1, .int x1), (2, .int x2), (3, .int x3), (4, .int x4), (5, .int x6), (6, .int (x6 + 1))] (K, n, V, J, O) r (K, n, V, J, O)))))))))))))) ∧ (x4 = 0 → (vp_in x6 8 ∧ (vp_in x5 8 ∧ (((V 84 (x5).toNatClampNeg) ≤ (V 84 (x6).toNatClampNeg) → Ev G (d + 1) mX12_goesOff 6 [(0, .ref 57), (1, .int x1), (2, .int x2), (3, .int x3), (4, .int x4), (5, .int x5), (6, .int (x6 + 1))] (K, n, V, J, O) r (K, n, V, J, O)) ∧ (¬ (V 84 (x5).toNatClampNeg) ≤ (V 84 (x6).toNatClampNeg) → Ev G (d + 1) mX12_goesOff 6 [(0, .ref 57), (1, .int x1), (2, .int x2), (3, .int x3), (4, .int x4), (5, .int x6), (6, .int (x6 + 1))] (K, n, V, J, O) r (K, n, V, J, O)))))))))) : Ev G (d + 1) mX12_goesOff 6 [(0, .ref 57), (1, .int x1), (2, .int x2), (3, .int x3), (4, .int x4), (5, .int x5), (6, .int x6)] (K, n, V, J, O) r (K, n, V, J, O) := by
  refine Ev.mk fun Q hq => ?_
  refine wp_iload dX12_goesOff_6 rfl ?_
  refine wp_iload_n (i := 1) dX12_goesOff_8 rfl rfl ?_
  refine wp_icmp_ge 122 dX12_goesOff_9 (by decide) (fun q => ?_) (fun q => ?_)
  · replace hv := hv.1 q
    refine wp_iload dX12_goesOff_122 rfl ?_
    obtain rfl := hv
    exact wp_ireturn dX12_goesOff_124 rfl rfl rfl hq
  · replace hv := hv.2 q
    refine wp_iload dX12_goesOff_12 rfl ?_
    refine wp_if_ne 46 dX12_goesOff_14 (by decide) (fun q => ?_) (fun q => ?_)
    · replace hv := hv.1 q
      refine wp_aload_n (i := 0) dX12_goesOff_46 rfl rfl ?_
      refine wp_aload_n (i := 0) dX12_goesOff_47 rfl rfl ?_
      refine wz_getR (b := 83) dX12_goesOff_48 (k57 hK) (f12_86 _ (by decide)) rfl ?_
      refine wp_iload dX12_goesOff_51 rfl ?_
      obtain ⟨z1, hv⟩ := hv
      refine wz_iaload dX12_goesOff_53 (k83 hK) z1 ?_
      refine wp_iload_n (i := 2) dX12_goesOff_54 rfl rfl ?_
      refine wp_iload_n (i := 3) dX12_goesOff_55 rfl rfl ?_
      obtain ⟨v2, hE, hv⟩ := hv
      refine wz_callV (vs := [.int (V 83 (x6).toNatClampNeg), .int x2, .int x3]) (st := []) dX12_goesOff_56 (k57 hK) rfl k12_397_12 hE rfl (Nat.le_of_ble_eq_true rfl) (Nat.le_of_ble_eq_true rfl) ?_
      change wp _ _ _ _ _ [.int v2] _ _ _
      refine wx_istore (ls' := [(0, .ref 57), (1, .int x1), (2, .int x2), (3, .int x3), (4, .int x4), (5, .int x5), (6, .int x6), (7, .int v2)]) dX12_goesOff_59 (by decide) rfl ?_
      refine wp_aload_n (i := 0) dX12_goesOff_61 rfl rfl ?_
      refine wp_aload_n (i := 0) dX12_goesOff_62 rfl rfl ?_
      refine wz_getR (b := 83) dX12_goesOff_63 (k57 hK) (f12_86 _ (by decide)) rfl ?_
      refine wp_iload dX12_goesOff_66 rfl ?_
      obtain ⟨z3, hv⟩ := hv
      refine wz_iaload dX12_goesOff_68 (k83 hK) z3 ?_
      refine wp_iload_n (i := 2) dX12_goesOff_69 rfl rfl ?_
      refine wp_iload_n (i := 3) dX12_goesOff_70 rfl rfl ?_
      obtain ⟨v4, hE, hv⟩ := hv
      refine wz_callV (vs := [.int (V 83 (x5).toNatClampNeg), .int x2, .int x3]) (st := []) dX12_goesOff_71 (k57 hK) rfl k12_397_12 hE rfl (Nat.le_of_ble_eq_true rfl) (Nat.le_of_ble_eq_true rfl) ?_
      change wp _ _ _ _ _ [.int v4] _ _ _
      refine wx_istore (ls' := [(0, .ref 57), (1, .int x1), (2, .int x2), (3, .int x3), (4, .int x4), (5, .int x5), (6, .int x6), (7, .int v2), (8, .int v4)]) dX12_goesOff_74 (by decide) rfl ?_
      refine wp_iload dX12_goesOff_76 rfl ?_
      refine wp_iload dX12_goesOff_78 rfl ?_
      refine wp_icmp_gt 107 dX12_goesOff_80 (by decide) (fun q => ?_) (fun q => ?_)
      · replace hv := hv.1 q
        refine wp_iload dX12_goesOff_107 rfl ?_
        refine wp_goto 114 dX12_goesOff_109 (by decide) ?_
        refine wx_istore (ls' := [(0, .ref 57), (1, .int x1), (2, .int x2), (3, .int x3), (4, .int x4), (5, .int x6), (6, .int x6), (7, .int v2), (8, .int v4)]) dX12_goesOff_114 (by decide) rfl ?_
        refine wx_iinc (v := 1) (ls' := [(0, .ref 57), (1, .int x1), (2, .int x2), (3, .int x3), (4, .int x4), (5, .int x6), (6, .int (x6 + 1)), (7, .int v2), (8, .int v4)]) dX12_goesOff_116 rfl (by decide) (by decide) rfl ?_
        refine wp_goto 6 dX12_goesOff_119 (by decide) ?_
        refine wx_sub (ls' := [(0, .ref 57), (1, .int x1), (2, .int x2), (3, .int x3), (4, .int x4), (5, .int x6), (6, .int (x6 + 1))]) [0, 1, 2, 3, 4, 5, 6] rfl ?_
        exact hv Q hq
      · replace hv := hv.2 q
        refine wp_iload dX12_goesOff_83 rfl ?_
        refine wp_iload dX12_goesOff_85 rfl ?_
        refine wp_icmp_ne 112 dX12_goesOff_87 (by decide) (fun q => ?_) (fun q => ?_)
        · replace hv := hv.1 q
          refine wp_iload dX12_goesOff_112 rfl ?_
          refine wx_istore (ls' := [(0, .ref 57), (1, .int x1), (2, .int x2), (3, .int x3), (4, .int x4), (5, .int x5), (6, .int x6), (7, .int v2), (8, .int v4)]) dX12_goesOff_114 (by decide) rfl ?_
          refine wx_iinc (v := 1) (ls' := [(0, .ref 57), (1, .int x1), (2, .int x2), (3, .int x3), (4, .int x4), (5, .int x5), (6, .int (x6 + 1)), (7, .int v2), (8, .int v4)]) dX12_goesOff_116 rfl (by decide) (by decide) rfl ?_
          refine wp_goto 6 dX12_goesOff_119 (by decide) ?_
          refine wx_sub (ls' := [(0, .ref 57), (1, .int x1), (2, .int x2), (3, .int x3), (4, .int x4), (5, .int x5), (6, .int (x6 + 1))]) [0, 1, 2, 3, 4, 5, 6] rfl ?_
          exact hv Q hq
        · replace hv := hv.2 q
          refine wp_aload_n (i := 0) dX12_goesOff_90 rfl rfl ?_
          refine wz_getR (b := 83) dX12_goesOff_91 (k57 hK) (f12_86 _ (by decide)) rfl ?_
          refine wp_iload dX12_goesOff_94 rfl ?_
          obtain ⟨z5, hv⟩ := hv
          refine wz_iaload dX12_goesOff_96 (k83 hK) z5 ?_
          refine wp_aload_n (i := 0) dX12_goesOff_97 rfl rfl ?_
          refine wz_getR (b := 83) dX12_goesOff_98 (k57 hK) (f12_86 _ (by decide)) rfl ?_
          refine wp_iload dX12_goesOff_101 rfl ?_
          obtain ⟨z6, hv⟩ := hv
          refine wz_iaload dX12_goesOff_103 (k83 hK) z6 ?_
          refine wp_icmp_ge 112 dX12_goesOff_104 (by decide) (fun q => ?_) (fun q => ?_)
          · replace hv := hv.1 q
            refine wp_iload dX12_goesOff_112 rfl ?_
            refine wx_istore (ls' := [(0, .ref 57), (1, .int x1), (2, .int x2), (3, .int x3), (4, .int x4), (5, .int x5), (6, .int x6), (7, .int v2), (8, .int v4)]) dX12_goesOff_114 (by decide) rfl ?_
            refine wx_iinc (v := 1) (ls' := [(0, .ref 57), (1, .int x1), (2, .int x2), (3, .int x3), (4, .int x4), (5, .int x5), (6, .int (x6 + 1)), (7, .int v2), (8, .int v4)]) dX12_goesOff_116 rfl (by decide) (by decide) rfl ?_
            refine wp_goto 6 dX12_goesOff_119 (by decide) ?_
            refine wx_sub (ls' := [(0, .ref 57), (1, .int x1), (2, .int x2), (3, .int x3), (4, .int x4), (5, .int x5), (6, .int (x6 + 1))]) [0, 1, 2, 3, 4, 5, 6] rfl ?_
            exact hv Q hq
          · replace hv := hv.2 q
            refine wp_iload dX12_goesOff_107 rfl ?_
            refine wp_goto 114 dX12_goesOff_109 (by decide) ?_
            refine wx_istore (ls' := [(0, .ref 57), (1, .int x1), (2, .int x2), (3, .int x3), (4, .int x4), (5, .int x6), (6, .int x6), (7, .int v2), (8, .int v4)]) dX12_goesOff_114 (by decide) rfl ?_
            refine wx_iinc (v := 1) (ls' := [(0, .ref 57), (1, .int x1), (2, .int x2), (3, .int x3), (4, .int x4), (5, .int x6), (6, .int (x6 + 1)), (7, .int v2), (8, .int v4)]) dX12_goesOff_116 rfl (by decide) (by decide) rfl ?_
            refine wp_goto 6 dX12_goesOff_119 (by decide) ?_
            refine wx_sub (ls' := [(0, .ref 57), (1, .int x1), (2, .int x2), (3, .int x3), (4, .int x4), (5, .int x6), (6, .int (x6 + 1))]) [0, 1, 2, 3, 4, 5, 6] rfl ?_
            exact hv Q hq
    · replace hv := hv.2 q
      refine wp_aload_n (i := 0) dX12_goesOff_17 rfl rfl ?_
      refine wz_getR (b := 84) dX12_goesOff_18 (k57 hK) (f12_89 _ (by decide)) rfl ?_
      refine wp_iload dX12_goesOff_21 rfl ?_
      obtain ⟨z7, hv⟩ := hv
      refine wz_iaload dX12_goesOff_23 (k84 hK) z7 ?_
      refine wp_aload_n (i := 0) dX12_goesOff_24 rfl rfl ?_
      refine wz_getR (b := 84) dX12_goesOff_25 (k57 hK) (f12_89 _ (by decide)) rfl ?_
      refine wp_iload dX12_goesOff_28 rfl ?_
      obtain ⟨z8, hv⟩ := hv
      refine wz_iaload dX12_goesOff_30 (k84 hK) z8 ?_
      refine wp_icmp_ge 39 dX12_goesOff_31 (by decide) (fun q => ?_) (fun q => ?_)
      · replace hv := hv.1 q
        refine wp_iload dX12_goesOff_39 rfl ?_
        refine wx_istore (ls' := [(0, .ref 57), (1, .int x1), (2, .int x2), (3, .int x3), (4, .int x4), (5, .int x5), (6, .int x6)]) dX12_goesOff_41 (by decide) rfl ?_
        refine wp_goto 116 dX12_goesOff_43 (by decide) ?_
        refine wx_iinc (v := 1) (ls' := [(0, .ref 57), (1, .int x1), (2, .int x2), (3, .int x3), (4, .int x4), (5, .int x5), (6, .int (x6 + 1))]) dX12_goesOff_116 rfl (by decide) (by decide) rfl ?_
        refine wp_goto 6 dX12_goesOff_119 (by decide) ?_
        exact hv Q hq
      · replace hv := hv.2 q
        refine wp_iload dX12_goesOff_34 rfl ?_
        refine wp_goto 41 dX12_goesOff_36 (by decide) ?_
        refine wx_istore (ls' := [(0, .ref 57), (1, .int x1), (2, .int x2), (3, .int x3), (4, .int x4), (5, .int x6), (6, .int x6)]) dX12_goesOff_41 (by decide) rfl ?_
        refine wp_goto 116 dX12_goesOff_43 (by decide) ?_
        refine wx_iinc (v := 1) (ls' := [(0, .ref 57), (1, .int x1), (2, .int x2), (3, .int x3), (4, .int x4), (5, .int x6), (6, .int (x6 + 1))]) dX12_goesOff_116 rfl (by decide) (by decide) rfl ?_
        refine wp_goto 6 dX12_goesOff_119 (by decide) ?_
        exact hv Q hq
theorem wX12_misses_0 {x1 : Int32} {x2 : Int32} {x3 : Int32} (hK : StK K)  (hv : (∃ (v1 : Int32), Ev G d mX12_within 0 [(0, .long x1.toInt64), (2, .long (1 : Int64)), (4, .long (8 : Int64))] (K, n, V, J, O) (some (.int v1)) (K, n, V, J, O) ∧ ((v1 = 0 → (r = some (.int (-1 : Int32)) ∧ V' = V)) ∧ (¬ v1 = 0 → (∃ (v2 : Int32), Ev G d mX12_within 0 [(0, .long x2.toInt64), (2, .long (1 : Int64)), (4, .long (8 : Int64))] (K, n, V, J, O) (some (.int v2)) (K, n, V, J, O) ∧ ((v2 = 0 → (r = some (.int (-1 : Int32)) ∧ V' = V)) ∧ (¬ v2 = 0 → (∃ (v3 : Int32), Ev G d mX12_within 0 [(0, .long x3.toInt64), (2, .long (0 : Int64)), (4, .long (1 : Int64))] (K, n, V, J, O) (some (.int v3)) (K, n, V, J, O) ∧ ((v3 = 0 → (r = some (.int (-1 : Int32)) ∧ V' = V)) ∧ (¬ v3 = 0 → (((V 57 38) ≠ 0 → Ev G (d + 1) mX12_misses 52 [(0, .ref 57), (1, .int x1), (2, .int x2), (3, .int x3), (4, .int (0 : Int32)), (5, .int (0 : Int32)), (6, .int (0 : Int32))] (K, n, V, J, O) r (K, n, V', J, O)) ∧ ((V 57 38) = 0 → (r = some (.int (-1 : Int32)) ∧ V' = V))))))))))))) : Ev G (d + 1) mX12_misses 0 [(0, .ref 57), (1, .int x1), (2, .int x2), (3, .int x3)] (K, n, V, J, O) r (K, n, V', J, O) := by
  refine Ev.mk fun Q hq => ?_
  refine wp_iload_n (i := 1) dX12_misses_0 rfl rfl ?_
  refine wp_i2l dX12_misses_1 ?_
  refine wp_lconst (v := 1) dX12_misses_2 (by decide) ?_
  refine wp_ldc2 (v := 8) dX12_misses_3 q12_400 ?_
  obtain ⟨v1, hE, hv⟩ := hv
  refine wz_callS (vs := [.long x1.toInt64, .long (1 : Int64), .long (8 : Int64)]) (st := []) dX12_misses_6 k12_135 hE rfl (Nat.le_of_ble_eq_true rfl) (Nat.le_of_ble_eq_true rfl) ?_
  change wp _ _ _ _ _ [.int v1] _ _ _
  refine wp_if_eq 41 dX12_misses_9 (by decide) (fun q => ?_) (fun q => ?_)
  · replace hv := hv.1 q
    refine wp_iconst (v := -1) dX12_misses_41 (by decide) ?_
    obtain ⟨rfl, rfl⟩ := hv
    exact wp_ireturn dX12_misses_42 rfl rfl rfl hq
  · replace hv := hv.2 q
    refine wp_iload_n (i := 2) dX12_misses_12 rfl rfl ?_
    refine wp_i2l dX12_misses_13 ?_
    refine wp_lconst (v := 1) dX12_misses_14 (by decide) ?_
    refine wp_ldc2 (v := 8) dX12_misses_15 q12_400 ?_
    obtain ⟨v2, hE, hv⟩ := hv
    refine wz_callS (vs := [.long x2.toInt64, .long (1 : Int64), .long (8 : Int64)]) (st := []) dX12_misses_18 k12_135 hE rfl (Nat.le_of_ble_eq_true rfl) (Nat.le_of_ble_eq_true rfl) ?_
    change wp _ _ _ _ _ [.int v2] _ _ _
    refine wp_if_eq 41 dX12_misses_21 (by decide) (fun q => ?_) (fun q => ?_)
    · replace hv := hv.1 q
      refine wp_iconst (v := -1) dX12_misses_41 (by decide) ?_
      obtain ⟨rfl, rfl⟩ := hv
      exact wp_ireturn dX12_misses_42 rfl rfl rfl hq
    · replace hv := hv.2 q
      refine wp_iload_n (i := 3) dX12_misses_24 rfl rfl ?_
      refine wp_i2l dX12_misses_25 ?_
      refine wp_lconst (v := 0) dX12_misses_26 (by decide) ?_
      refine wp_lconst (v := 1) dX12_misses_27 (by decide) ?_
      obtain ⟨v3, hE, hv⟩ := hv
      refine wz_callS (vs := [.long x3.toInt64, .long (0 : Int64), .long (1 : Int64)]) (st := []) dX12_misses_28 k12_135 hE rfl (Nat.le_of_ble_eq_true rfl) (Nat.le_of_ble_eq_true rfl) ?_
      change wp _ _ _ _ _ [.int v3] _ _ _
      refine wp_if_eq 41 dX12_misses_31 (by decide) (fun q => ?_) (fun q => ?_)
      · replace hv := hv.1 q
        refine wp_iconst (v := -1) dX12_misses_41 (by decide) ?_
        obtain ⟨rfl, rfl⟩ := hv
        exact wp_ireturn dX12_misses_42 rfl rfl rfl hq
      · replace hv := hv.2 q
        refine wp_aload_n (i := 0) dX12_misses_34 rfl rfl ?_
        refine wz_getI dX12_misses_35 (k57 hK) (f12_391 _ (by decide)) rfl ?_
        refine wp_if_ne 43 dX12_misses_38 (by decide) (fun q => ?_) (fun q => ?_)
        · replace hv := hv.1 q
          refine wp_iconst (v := 0) dX12_misses_43 (by decide) ?_
          refine wx_istore (ls' := [(0, .ref 57), (1, .int x1), (2, .int x2), (3, .int x3), (4, .int (0 : Int32))]) dX12_misses_44 (by decide) rfl ?_
          refine wp_iconst (v := 0) dX12_misses_46 (by decide) ?_
          refine wx_istore (ls' := [(0, .ref 57), (1, .int x1), (2, .int x2), (3, .int x3), (4, .int (0 : Int32)), (5, .int (0 : Int32))]) dX12_misses_47 (by decide) rfl ?_
          refine wp_iconst (v := 0) dX12_misses_49 (by decide) ?_
          refine wx_istore (ls' := [(0, .ref 57), (1, .int x1), (2, .int x2), (3, .int x3), (4, .int (0 : Int32)), (5, .int (0 : Int32)), (6, .int (0 : Int32))]) dX12_misses_50 (by decide) rfl ?_
          exact hv Q hq
        · replace hv := hv.2 q
          refine wp_iconst (v := -1) dX12_misses_41 (by decide) ?_
          obtain ⟨rfl, rfl⟩ := hv
          exact wp_ireturn dX12_misses_42 rfl rfl rfl hq
theorem wX12_misses_52 {x1 : Int32} {x2 : Int32} {x3 : Int32} {x4 : Int32} {x5 : Int32} {x6 : Int32} (hK : StK K)  (hv : (((V 57 38) ≤ x6 → (r = some (.int x5) ∧ V' = V)) ∧ (¬ (V 57 38) ≤ x6 → (vp_in x6 60 ∧ (¬ x1 = 0 ∧ Ev G (d + 1) mX12_misses 75 [(0, .ref 57), (1, .int x1), (2, .int x2), (3, .int x3), (4, .int x4), (5, .int x5), (6, .int x6), (7, .int ((V 82 (x6).toNatClampNeg) / x1)), (8, .int (0 : Int32))] (K, n, V, J, O) r (K, n, V', J, O)))))) : Ev G (d + 1) mX12_misses 52 [(0, .ref 57), (1, .int x1), (2, .int x2), (3, .int x3), (4, .int x4), (5, .int x5), (6, .int x6)] (K, n, V, J, O) r (K, n, V', J, O) := by
  refine Ev.mk fun Q hq => ?_
  refine wp_iload dX12_misses_52 rfl ?_
  refine wp_aload_n (i := 0) dX12_misses_54 rfl rfl ?_
  refine wz_getI dX12_misses_55 (k57 hK) (f12_391 _ (by decide)) rfl ?_
  refine wp_icmp_ge 173 dX12_misses_58 (by decide) (fun q => ?_) (fun q => ?_)
  · replace hv := hv.1 q
    refine wp_iload dX12_misses_173 rfl ?_
    obtain ⟨rfl, rfl⟩ := hv
    exact wp_ireturn dX12_misses_175 rfl rfl rfl hq
  · replace hv := hv.2 q
    refine wp_aload_n (i := 0) dX12_misses_61 rfl rfl ?_
    refine wz_getR (b := 82) dX12_misses_62 (k57 hK) (f12_83 _ (by decide)) rfl ?_
    refine wp_iload dX12_misses_65 rfl ?_
    obtain ⟨z1, hv⟩ := hv
    refine wz_iaload dX12_misses_67 (k82 hK) z1 ?_
    refine wp_iload_n (i := 1) dX12_misses_68 rfl rfl ?_
    obtain ⟨nz, hv⟩ := hv
    refine wp_idiv dX12_misses_69 nz ?_
    refine wx_istore (ls' := [(0, .ref 57), (1, .int x1), (2, .int x2), (3, .int x3), (4, .int x4), (5, .int x5), (6, .int x6), (7, .int ((V 82 (x6).toNatClampNeg) / x1))]) dX12_misses_70 (by decide) rfl ?_
    refine wp_iconst (v := 0) dX12_misses_72 (by decide) ?_
    refine wx_istore (ls' := [(0, .ref 57), (1, .int x1), (2, .int x2), (3, .int x3), (4, .int x4), (5, .int x5), (6, .int x6), (7, .int ((V 82 (x6).toNatClampNeg) / x1)), (8, .int (0 : Int32))]) dX12_misses_73 (by decide) rfl ?_
    exact hv Q hq
theorem wX12_misses_75 {x1 : Int32} {x2 : Int32} {x3 : Int32} {x4 : Int32} {x5 : Int32} {x6 : Int32} {x7 : Int32} {x8 : Int32} (hK : StK K)  (hv : ((x4 ≤ x8 → Ev G (d + 1) mX12_misses 100 [(0, .ref 57), (1, .int x1), (2, .int x2), (3, .int x3), (4, .int x4), (5, .int x5), (6, .int x6), (7, .int x7), (8, .int x8)] (K, n, V, J, O) r (K, n, V', J, O)) ∧ (¬ x4 ≤ x8 → (vp_in x8 8 ∧ (((V 83 (x8).toNatClampNeg) = x7 → Ev G (d + 1) mX12_misses 100 [(0, .ref 57), (1, .int x1), (2, .int x2), (3, .int x3), (4, .int x4), (5, .int x5), (6, .int x6), (7, .int x7), (8, .int x8)] (K, n, V, J, O) r (K, n, V', J, O)) ∧ (¬ (V 83 (x8).toNatClampNeg) = x7 → Ev G (d + 1) mX12_misses 75 [(0, .ref 57), (1, .int x1), (2, .int x2), (3, .int x3), (4, .int x4), (5, .int x5), (6, .int x6), (7, .int x7), (8, .int (x8 + 1))] (K, n, V, J, O) r (K, n, V', J, O))))))) : Ev G (d + 1) mX12_misses 75 [(0, .ref 57), (1, .int x1), (2, .int x2), (3, .int x3), (4, .int x4), (5, .int x5), (6, .int x6), (7, .int x7), (8, .int x8)] (K, n, V, J, O) r (K, n, V', J, O) := by
  refine Ev.mk fun Q hq => ?_
  refine wp_iload dX12_misses_75 rfl ?_
  refine wp_iload dX12_misses_77 rfl ?_
  refine wp_icmp_ge 100 dX12_misses_79 (by decide) (fun q => ?_) (fun q => ?_)
  · replace hv := hv.1 q
    exact hv Q hq
  · replace hv := hv.2 q
    refine wp_aload_n (i := 0) dX12_misses_82 rfl rfl ?_
    refine wz_getR (b := 83) dX12_misses_83 (k57 hK) (f12_86 _ (by decide)) rfl ?_
    refine wp_iload dX12_misses_86 rfl ?_
    obtain ⟨z1, hv⟩ := hv
    refine wz_iaload dX12_misses_88 (k83 hK) z1 ?_
    refine wp_iload dX12_misses_89 rfl ?_
    refine wp_icmp_eq 100 dX12_misses_91 (by decide) (fun q => ?_) (fun q => ?_)
    · replace hv := hv.1 q
      exact hv Q hq
    · replace hv := hv.2 q
      refine wx_iinc (v := 1) (ls' := [(0, .ref 57), (1, .int x1), (2, .int x2), (3, .int x3), (4, .int x4), (5, .int x5), (6, .int x6), (7, .int x7), (8, .int (x8 + 1))]) dX12_misses_94 rfl (by decide) (by decide) rfl ?_
      refine wp_goto 75 dX12_misses_97 (by decide) ?_
      exact hv Q hq
theorem wX12_misses_100 {x1 : Int32} {x2 : Int32} {x3 : Int32} {x4 : Int32} {x5 : Int32} {x6 : Int32} {x7 : Int32} {x8 : Int32} (hK : StK K)  (hv : ((x8 ≠ x4 → Ev G (d + 1) mX12_misses 149 [(0, .ref 57), (1, .int x1), (2, .int x2), (3, .int x3), (4, .int x4), (5, .int x5), (6, .int x6), (7, .int x7), (8, .int x8)] (K, n, V, J, O) r (K, n, V', J, O)) ∧ (x8 = x4 → ((x2 ≤ x4 → (∃ (v1 : Int32), Ev G d mX12_goesOff 0 [(0, .ref 57), (1, .int x4), (2, .int x1), (3, .int x6), (4, .int x3)] (K, n, V, J, O) (some (.int v1)) (K, n, V, J, O) ∧ ((x2 ≤ x4 → Ev G (d + 1) mX12_misses 149 [(0, .ref 57), (1, .int x1), (2, .int x2), (3, .int x3), (4, .int (x4 + (0 : Int32))), (5, .int (x5 + 1)), (6, .int x6), (7, .int x7), (8, .int v1)] (K, n, V, J, O) r (K, n, V', J, O)) ∧ (¬ x2 ≤ x4 → Ev G (d + 1) mX12_misses 149 [(0, .ref 57), (1, .int x1), (2, .int x2), (3, .int x3), (4, .int (x4 + (1 : Int32))), (5, .int (x5 + 1)), (6, .int x6), (7, .int x7), (8, .int v1)] (K, n, V, J, O) r (K, n, V', J, O))))) ∧ (¬ x2 ≤ x4 → ((x2 ≤ x4 → Ev G (d + 1) mX12_misses 149 [(0, .ref 57), (1, .int x1), (2, .int x2), (3, .int x3), (4, .int (x4 + (0 : Int32))), (5, .int (x5 + 1)), (6, .int x6), (7, .int x7), (8, .int x4)] (K, n, V, J, O) r (K, n, V', J, O)) ∧ (¬ x2 ≤ x4 → Ev G (d + 1) mX12_misses 149 [(0, .ref 57), (1, .int x1), (2, .int x2), (3, .int x3), (4, .int (x4 + (1 : Int32))), (5, .int (x5 + 1)), (6, .int x6), (7, .int x7), (8, .int x4)] (K, n, V, J, O) r (K, n, V', J, O)))))))) : Ev G (d + 1) mX12_misses 100 [(0, .ref 57), (1, .int x1), (2, .int x2), (3, .int x3), (4, .int x4), (5, .int x5), (6, .int x6), (7, .int x7), (8, .int x8)] (K, n, V, J, O) r (K, n, V', J, O) := by
  refine Ev.mk fun Q hq => ?_
  refine wp_iload dX12_misses_100 rfl ?_
  refine wp_iload dX12_misses_102 rfl ?_
  refine wp_icmp_ne 149 dX12_misses_104 (by decide) (fun q => ?_) (fun q => ?_)
  · replace hv := hv.1 q
    exact hv Q hq
  · replace hv := hv.2 q
    refine wx_iinc (v := 1) (ls' := [(0, .ref 57), (1, .int x1), (2, .int x2), (3, .int x3), (4, .int x4), (5, .int (x5 + 1)), (6, .int x6), (7, .int x7), (8, .int x8)]) dX12_misses_107 rfl (by decide) (by decide) rfl ?_
    refine wp_iload dX12_misses_110 rfl ?_
    refine wp_iload_n (i := 2) dX12_misses_112 rfl rfl ?_
    refine wp_icmp_ge 121 dX12_misses_113 (by decide) (fun q => ?_) (fun q => ?_)
    · replace hv := hv.1 q
      refine wp_aload_n (i := 0) dX12_misses_121 rfl rfl ?_
      refine wp_iload dX12_misses_122 rfl ?_
      refine wp_iload_n (i := 1) dX12_misses_124 rfl rfl ?_
      refine wp_iload dX12_misses_125 rfl ?_
      refine wp_iload_n (i := 3) dX12_misses_127 rfl rfl ?_
      obtain ⟨v1, hE, hv⟩ := hv
      refine wz_callV (vs := [.int x4, .int x1, .int x6, .int x3]) (st := []) dX12_misses_128 (k57 hK) rfl k12_402_12 hE rfl (Nat.le_of_ble_eq_true rfl) (Nat.le_of_ble_eq_true rfl) ?_
      change wp _ _ _ _ _ [.int v1] _ _ _
      refine wx_istore (ls' := [(0, .ref 57), (1, .int x1), (2, .int x2), (3, .int x3), (4, .int x4), (5, .int (x5 + 1)), (6, .int x6), (7, .int x7), (8, .int v1)]) dX12_misses_131 (by decide) rfl ?_
      refine wp_iload dX12_misses_133 rfl ?_
      refine wp_iload dX12_misses_135 rfl ?_
      refine wp_iload_n (i := 2) dX12_misses_137 rfl rfl ?_
      refine wp_icmp_ge 145 dX12_misses_138 (by decide) (fun q => ?_) (fun q => ?_)
      · replace hv := hv.1 q
        refine wp_iconst (v := 0) dX12_misses_145 (by decide) ?_
        refine wp_iadd dX12_misses_146 ?_
        refine wx_istore (ls' := [(0, .ref 57), (1, .int x1), (2, .int x2), (3, .int x3), (4, .int (x4 + (0 : Int32))), (5, .int (x5 + 1)), (6, .int x6), (7, .int x7), (8, .int v1)]) dX12_misses_147 (by decide) rfl ?_
        exact hv Q hq
      · replace hv := hv.2 q
        refine wp_iconst (v := 1) dX12_misses_141 (by decide) ?_
        refine wp_goto 146 dX12_misses_142 (by decide) ?_
        refine wp_iadd dX12_misses_146 ?_
        refine wx_istore (ls' := [(0, .ref 57), (1, .int x1), (2, .int x2), (3, .int x3), (4, .int (x4 + (1 : Int32))), (5, .int (x5 + 1)), (6, .int x6), (7, .int x7), (8, .int v1)]) dX12_misses_147 (by decide) rfl ?_
        exact hv Q hq
    · replace hv := hv.2 q
      refine wp_iload dX12_misses_116 rfl ?_
      refine wp_goto 131 dX12_misses_118 (by decide) ?_
      refine wx_istore (ls' := [(0, .ref 57), (1, .int x1), (2, .int x2), (3, .int x3), (4, .int x4), (5, .int (x5 + 1)), (6, .int x6), (7, .int x7), (8, .int x4)]) dX12_misses_131 (by decide) rfl ?_
      refine wp_iload dX12_misses_133 rfl ?_
      refine wp_iload dX12_misses_135 rfl ?_
      refine wp_iload_n (i := 2) dX12_misses_137 rfl rfl ?_
      refine wp_icmp_ge 145 dX12_misses_138 (by decide) (fun q => ?_) (fun q => ?_)
      · replace hv := hv.1 q
        refine wp_iconst (v := 0) dX12_misses_145 (by decide) ?_
        refine wp_iadd dX12_misses_146 ?_
        refine wx_istore (ls' := [(0, .ref 57), (1, .int x1), (2, .int x2), (3, .int x3), (4, .int (x4 + (0 : Int32))), (5, .int (x5 + 1)), (6, .int x6), (7, .int x7), (8, .int x4)]) dX12_misses_147 (by decide) rfl ?_
        exact hv Q hq
      · replace hv := hv.2 q
        refine wp_iconst (v := 1) dX12_misses_141 (by decide) ?_
        refine wp_goto 146 dX12_misses_142 (by decide) ?_
        refine wp_iadd dX12_misses_146 ?_
        refine wx_istore (ls' := [(0, .ref 57), (1, .int x1), (2, .int x2), (3, .int x3), (4, .int (x4 + (1 : Int32))), (5, .int (x5 + 1)), (6, .int x6), (7, .int x7), (8, .int x4)]) dX12_misses_147 (by decide) rfl ?_
        exact hv Q hq
theorem wX12_misses_149 {x1 : Int32} {x2 : Int32} {x3 : Int32} {x4 : Int32} {x5 : Int32} {x6 : Int32} {x7 : Int32} {x8 : Int32} (hK : StK K)  (hv : (vp_in x8 8 ∧ (vp_in x8 8 ∧ Ev G (d + 1) mX12_misses 52 [(0, .ref 57), (1, .int x1), (2, .int x2), (3, .int x3), (4, .int x4), (5, .int x5), (6, .int (x6 + 1))] (K, n, (up2 (up2 V 83 (x8).toNatClampNeg x7) 84 (x8).toNatClampNeg x6), J, O) r (K, n, V', J, O)))) : Ev G (d + 1) mX12_misses 149 [(0, .ref 57), (1, .int x1), (2, .int x2), (3, .int x3), (4, .int x4), (5, .int x5), (6, .int x6), (7, .int x7), (8, .int x8)] (K, n, V, J, O) r (K, n, V', J, O) := by
  refine Ev.mk fun Q hq => ?_
  refine wp_aload_n (i := 0) dX12_misses_149 rfl rfl ?_
  refine wz_getR (b := 83) dX12_misses_150 (k57 hK) (f12_86 _ (by decide)) rfl ?_
  refine wp_iload dX12_misses_153 rfl ?_
  refine wp_iload dX12_misses_155 rfl ?_
  obtain ⟨z1, hv⟩ := hv
  refine wz_iastore dX12_misses_157 (k83 hK) z1 ?_
  refine wp_aload_n (i := 0) dX12_misses_158 rfl rfl ?_
  refine wz_getR (b := 84) dX12_misses_159 (k57 hK) (f12_89 _ (by decide)) rfl ?_
  refine wp_iload dX12_misses_162 rfl ?_
  refine wp_iload dX12_misses_164 rfl ?_
  obtain ⟨z2, hv⟩ := hv
  refine wz_iastore dX12_misses_166 (k84 hK) z2 ?_
  refine wx_iinc (v := 1) (ls' := [(0, .ref 57), (1, .int x1), (2, .int x2), (3, .int x3), (4, .int x4), (5, .int x5), (6, .int (x6 + 1)), (7, .int x7), (8, .int x8)]) dX12_misses_167 rfl (by decide) (by decide) rfl ?_
  refine wp_goto 52 dX12_misses_170 (by decide) ?_
  refine wx_sub (ls' := [(0, .ref 57), (1, .int x1), (2, .int x2), (3, .int x3), (4, .int x4), (5, .int x5), (6, .int (x6 + 1))]) [0, 1, 2, 3, 4, 5, 6] rfl ?_
  exact hv Q hq
theorem wX12_uncell_0  (hK : StK K)  (hv : (r = some (.int (V 57 38)) ∧ V' = (up2 V 57 38 (0 : Int32)))) : Ev G d mX12_uncell 0 [(0, .ref 57)] (K, n, V, J, O) r (K, n, V', J, O) := by
  refine Ev.mk fun Q hq => ?_
  refine wp_aload_n (i := 0) dX12_uncell_0 rfl rfl ?_
  refine wz_getI dX12_uncell_1 (k57 hK) (f12_391 _ (by decide)) rfl ?_
  refine wx_istore_n (ls' := [(0, .ref 57), (1, .int (V 57 38))]) (i := 1) dX12_uncell_4 rfl (by decide) rfl ?_
  refine wp_aload_n (i := 0) dX12_uncell_5 rfl rfl ?_
  refine wp_iconst (v := 0) dX12_uncell_6 (by decide) ?_
  refine wz_putI dX12_uncell_7 (k57 hK) (w12_391 _ (by decide)) rfl ?_
  refine wp_iload_n (i := 1) dX12_uncell_10 rfl rfl ?_
  obtain ⟨rfl, rfl⟩ := hv
  exact wp_ireturn dX12_uncell_11 rfl rfl rfl hq
theorem wX12_key_0 {x1 : Int32} {x2 : Int32} (hK : StK K)  (hv : (∃ (v1 : Int32), Ev G d mX12_isValue 0 [(0, .int x1)] (K, n, V, J, O) (some (.int v1)) (K, n, V, J, O) ∧ ((v1 = 0 → (r = some (.int (-1 : Int32)) ∧ V' = V)) ∧ (¬ v1 = 0 → (∃ (v2 : Int32), Ev G d mX12_isValue 0 [(0, .int x2)] (K, n, V, J, O) (some (.int v2)) (K, n, V, J, O) ∧ ((v2 ≠ 0 → (((V 57 43) ≠ (9 : Int32) → (vp_in (V 57 43) 9 ∧ (vp_in (V 57 43) 10 ∧ (r = some (.int ((V 57 43) + (1 : Int32))) ∧ V' = (up2 (up2 (up2 V 85 ((V 57 43)).toNatClampNeg x1) 86 ((V 57 43)).toNatClampNeg x2) 57 43 ((V 57 43) + (1 : Int32))))))) ∧ ((V 57 43) = (9 : Int32) → (r = some (.int (-3 : Int32)) ∧ V' = V)))) ∧ (v2 = 0 → (r = some (.int (-1 : Int32)) ∧ V' = V)))))))) : Ev G (d + 1) mX12_key 0 [(0, .ref 57), (1, .int x1), (2, .int x2)] (K, n, V, J, O) r (K, n, V', J, O) := by
  refine Ev.mk fun Q hq => ?_
  refine wp_iload_n (i := 1) dX12_key_0 rfl rfl ?_
  obtain ⟨v1, hE, hv⟩ := hv
  refine wz_callS (vs := [.int x1]) (st := []) dX12_key_1 k12_145 hE rfl (Nat.le_of_ble_eq_true rfl) (Nat.le_of_ble_eq_true rfl) ?_
  change wp _ _ _ _ _ [.int v1] _ _ _
  refine wp_if_eq 14 dX12_key_4 (by decide) (fun q => ?_) (fun q => ?_)
  · replace hv := hv.1 q
    refine wp_iconst (v := -1) dX12_key_14 (by decide) ?_
    obtain ⟨rfl, rfl⟩ := hv
    exact wp_ireturn dX12_key_15 rfl rfl rfl hq
  · replace hv := hv.2 q
    refine wp_iload_n (i := 2) dX12_key_7 rfl rfl ?_
    obtain ⟨v2, hE, hv⟩ := hv
    refine wz_callS (vs := [.int x2]) (st := []) dX12_key_8 k12_145 hE rfl (Nat.le_of_ble_eq_true rfl) (Nat.le_of_ble_eq_true rfl) ?_
    change wp _ _ _ _ _ [.int v2] _ _ _
    refine wp_if_ne 16 dX12_key_11 (by decide) (fun q => ?_) (fun q => ?_)
    · replace hv := hv.1 q
      refine wp_aload_n (i := 0) dX12_key_16 rfl rfl ?_
      refine wz_getI dX12_key_17 (k57 hK) (f12_405 _ (by decide)) rfl ?_
      refine wp_bipush (v := 9) dX12_key_20 (by decide) ?_
      refine wp_icmp_ne 28 dX12_key_22 (by decide) (fun q => ?_) (fun q => ?_)
      · replace hv := hv.1 q
        refine wp_aload_n (i := 0) dX12_key_28 rfl rfl ?_
        refine wz_getR (b := 85) dX12_key_29 (k57 hK) (f12_92 _ (by decide)) rfl ?_
        refine wp_aload_n (i := 0) dX12_key_32 rfl rfl ?_
        refine wz_getI dX12_key_33 (k57 hK) (f12_405 _ (by decide)) rfl ?_
        refine wp_iload_n (i := 1) dX12_key_36 rfl rfl ?_
        obtain ⟨z3, hv⟩ := hv
        refine wz_iastore dX12_key_37 (k85 hK) z3 ?_
        refine wp_aload_n (i := 0) dX12_key_38 rfl rfl ?_
        refine wz_getR (b := 86) dX12_key_39 (k57 hK) (f12_95 _ (by decide)) rfl ?_
        refine wp_aload_n (i := 0) dX12_key_42 rfl rfl ?_
        refine wz_getIe (v := (V 57 43)) dX12_key_43 (k57 hK) (f12_405 _ (by decide)) rfl (up2_a (by decide)) ?_
        refine wp_iload_n (i := 2) dX12_key_46 rfl rfl ?_
        obtain ⟨z4, hv⟩ := hv
        refine wz_iastore dX12_key_47 (k86 hK) z4 ?_
        refine wp_aload_n (i := 0) dX12_key_48 rfl rfl ?_
        refine wp_dupR dX12_key_49 ?_
        refine wz_getIe (v := (V 57 43)) dX12_key_50 (k57 hK) (f12_405 _ (by decide)) rfl (Eq.trans (up2_a (by decide)) (up2_a (by decide))) ?_
        refine wp_iconst (v := 1) dX12_key_53 (by decide) ?_
        refine wp_iadd dX12_key_54 ?_
        refine wz_putI dX12_key_55 (k57 hK) (w12_405 _ (by decide)) rfl ?_
        refine wp_aload_n (i := 0) dX12_key_58 rfl rfl ?_
        refine wz_getIe (v := ((V 57 43) + (1 : Int32))) dX12_key_59 (k57 hK) (f12_405 _ (by decide)) rfl up2_s ?_
        obtain ⟨rfl, rfl⟩ := hv
        exact wp_ireturn dX12_key_62 rfl rfl rfl hq
      · replace hv := hv.2 q
        refine wp_bipush (v := -3) dX12_key_25 (by decide) ?_
        obtain ⟨rfl, rfl⟩ := hv
        exact wp_ireturn dX12_key_27 rfl rfl rfl hq
    · replace hv := hv.2 q
      refine wp_iconst (v := -1) dX12_key_14 (by decide) ?_
      obtain ⟨rfl, rfl⟩ := hv
      exact wp_ireturn dX12_key_15 rfl rfl rfl hq
theorem wX12_soughtIn_0 {x1 : Int32} {x2 : Int32} (hK : StK K)  (hv : (vp_in x1 10 ∧ Ev G d mX12_soughtIn 10 [(0, .ref 57), (1, .int x1), (2, .int x2), (3, .int (V 86 (x1).toNatClampNeg)), (4, .int x1)] (K, n, V, J, O) r (K, n, V, J, O))) : Ev G d mX12_soughtIn 0 [(0, .ref 57), (1, .int x1), (2, .int x2)] (K, n, V, J, O) r (K, n, V, J, O) := by
  refine Ev.mk fun Q hq => ?_
  refine wp_aload_n (i := 0) dX12_soughtIn_0 rfl rfl ?_
  refine wz_getR (b := 86) dX12_soughtIn_1 (k57 hK) (f12_95 _ (by decide)) rfl ?_
  refine wp_iload_n (i := 1) dX12_soughtIn_4 rfl rfl ?_
  obtain ⟨z1, hv⟩ := hv
  refine wz_iaload dX12_soughtIn_5 (k86 hK) z1 ?_
  refine wx_istore_n (ls' := [(0, .ref 57), (1, .int x1), (2, .int x2), (3, .int (V 86 (x1).toNatClampNeg))]) (i := 3) dX12_soughtIn_6 rfl (by decide) rfl ?_
  refine wp_iload_n (i := 1) dX12_soughtIn_7 rfl rfl ?_
  refine wx_istore (ls' := [(0, .ref 57), (1, .int x1), (2, .int x2), (3, .int (V 86 (x1).toNatClampNeg)), (4, .int x1)]) dX12_soughtIn_8 (by decide) rfl ?_
  exact hv Q hq
theorem wX12_soughtIn_10 {x1 : Int32} {x2 : Int32} {x3 : Int32} {x4 : Int32} (hK : StK K)  (hv : ((x2 ≤ x4 → r = some (.int x3)) ∧ (¬ x2 ≤ x4 → (vp_in x4 9 ∧ (vp_in (x4 + (1 : Int32)) 10 ∧ Ev G d mX12_soughtIn 10 [(0, .ref 57), (1, .int x1), (2, .int x2), (3, .int (x3 + ((V 85 (x4).toNatClampNeg) + (V 86 ((x4 + (1 : Int32))).toNatClampNeg)))), (4, .int (x4 + 1))] (K, n, V, J, O) r (K, n, V, J, O)))))) : Ev G d mX12_soughtIn 10 [(0, .ref 57), (1, .int x1), (2, .int x2), (3, .int x3), (4, .int x4)] (K, n, V, J, O) r (K, n, V, J, O) := by
  refine Ev.mk fun Q hq => ?_
  refine wp_iload dX12_soughtIn_10 rfl ?_
  refine wp_iload_n (i := 2) dX12_soughtIn_12 rfl rfl ?_
  refine wp_icmp_ge 42 dX12_soughtIn_13 (by decide) (fun q => ?_) (fun q => ?_)
  · replace hv := hv.1 q
    refine wp_iload_n (i := 3) dX12_soughtIn_42 rfl rfl ?_
    obtain rfl := hv
    exact wp_ireturn dX12_soughtIn_43 rfl rfl rfl hq
  · replace hv := hv.2 q
    refine wp_iload_n (i := 3) dX12_soughtIn_16 rfl rfl ?_
    refine wp_aload_n (i := 0) dX12_soughtIn_17 rfl rfl ?_
    refine wz_getR (b := 85) dX12_soughtIn_18 (k57 hK) (f12_92 _ (by decide)) rfl ?_
    refine wp_iload dX12_soughtIn_21 rfl ?_
    obtain ⟨z1, hv⟩ := hv
    refine wz_iaload dX12_soughtIn_23 (k85 hK) z1 ?_
    refine wp_aload_n (i := 0) dX12_soughtIn_24 rfl rfl ?_
    refine wz_getR (b := 86) dX12_soughtIn_25 (k57 hK) (f12_95 _ (by decide)) rfl ?_
    refine wp_iload dX12_soughtIn_28 rfl ?_
    refine wp_iconst (v := 1) dX12_soughtIn_30 (by decide) ?_
    refine wp_iadd dX12_soughtIn_31 ?_
    obtain ⟨z2, hv⟩ := hv
    refine wz_iaload dX12_soughtIn_32 (k86 hK) z2 ?_
    refine wp_iadd dX12_soughtIn_33 ?_
    refine wp_iadd dX12_soughtIn_34 ?_
    refine wx_istore_n (ls' := [(0, .ref 57), (1, .int x1), (2, .int x2), (3, .int (x3 + ((V 85 (x4).toNatClampNeg) + (V 86 ((x4 + (1 : Int32))).toNatClampNeg)))), (4, .int x4)]) (i := 3) dX12_soughtIn_35 rfl (by decide) rfl ?_
    refine wx_iinc (v := 1) (ls' := [(0, .ref 57), (1, .int x1), (2, .int x2), (3, .int (x3 + ((V 85 (x4).toNatClampNeg) + (V 86 ((x4 + (1 : Int32))).toNatClampNeg)))), (4, .int (x4 + 1))]) dX12_soughtIn_36 rfl (by decide) (by decide) rfl ?_
    refine wp_goto 10 dX12_soughtIn_39 (by decide) ?_
    exact hv Q hq
theorem wX12_leastLooks_0 {x1 : Int32} (hK : StK K)  (hv : (∃ (v1 : Int32), Ev G d mX12_isValue 0 [(0, .int x1)] (K, n, V, J, O) (some (.int v1)) (K, n, V, J, O) ∧ ((v1 = 0 → (r = some (.int (-1 : Int32)) ∧ V' = V)) ∧ (¬ v1 = 0 → (((V 57 43) ≠ 0 → (vp_in (V 57 43) 10 ∧ Ev G (d + 1) mX12_leastLooks 28 [(0, .ref 57), (1, .int x1), (2, .int (0 : Int32))] (K, n, (up2 V 86 ((V 57 43)).toNatClampNeg x1), J, O) r (K, n, V', J, O))) ∧ ((V 57 43) = 0 → (r = some (.int (-1 : Int32)) ∧ V' = V))))))) : Ev G (d + 1) mX12_leastLooks 0 [(0, .ref 57), (1, .int x1)] (K, n, V, J, O) r (K, n, V', J, O) := by
  refine Ev.mk fun Q hq => ?_
  refine wp_iload_n (i := 1) dX12_leastLooks_0 rfl rfl ?_
  obtain ⟨v1, hE, hv⟩ := hv
  refine wz_callS (vs := [.int x1]) (st := []) dX12_leastLooks_1 k12_145 hE rfl (Nat.le_of_ble_eq_true rfl) (Nat.le_of_ble_eq_true rfl) ?_
  change wp _ _ _ _ _ [.int v1] _ _ _
  refine wp_if_eq 14 dX12_leastLooks_4 (by decide) (fun q => ?_) (fun q => ?_)
  · replace hv := hv.1 q
    refine wp_iconst (v := -1) dX12_leastLooks_14 (by decide) ?_
    obtain ⟨rfl, rfl⟩ := hv
    exact wp_ireturn dX12_leastLooks_15 rfl rfl rfl hq
  · replace hv := hv.2 q
    refine wp_aload_n (i := 0) dX12_leastLooks_7 rfl rfl ?_
    refine wz_getI dX12_leastLooks_8 (k57 hK) (f12_405 _ (by decide)) rfl ?_
    refine wp_if_ne 16 dX12_leastLooks_11 (by decide) (fun q => ?_) (fun q => ?_)
    · replace hv := hv.1 q
      refine wp_aload_n (i := 0) dX12_leastLooks_16 rfl rfl ?_
      refine wz_getR (b := 86) dX12_leastLooks_17 (k57 hK) (f12_95 _ (by decide)) rfl ?_
      refine wp_aload_n (i := 0) dX12_leastLooks_20 rfl rfl ?_
      refine wz_getI dX12_leastLooks_21 (k57 hK) (f12_405 _ (by decide)) rfl ?_
      refine wp_iload_n (i := 1) dX12_leastLooks_24 rfl rfl ?_
      obtain ⟨z2, hv⟩ := hv
      refine wz_iastore dX12_leastLooks_25 (k86 hK) z2 ?_
      refine wp_iconst (v := 0) dX12_leastLooks_26 (by decide) ?_
      refine wx_istore_n (ls' := [(0, .ref 57), (1, .int x1), (2, .int (0 : Int32))]) (i := 2) dX12_leastLooks_27 rfl (by decide) rfl ?_
      exact hv Q hq
    · replace hv := hv.2 q
      refine wp_iconst (v := -1) dX12_leastLooks_14 (by decide) ?_
      obtain ⟨rfl, rfl⟩ := hv
      exact wp_ireturn dX12_leastLooks_15 rfl rfl rfl hq
theorem wX12_leastLooks_28 {x1 : Int32} {x2 : Int32} (hK : StK K)  (hv : (((V 57 43) < x2 → (vp_in (V 57 43) 100 ∧ (r = some (.int (V 87 ((V 57 43)).toNatClampNeg)) ∧ V' = (up2 V 57 43 (0 : Int32))))) ∧ (¬ (V 57 43) < x2 → Ev G (d + 1) mX12_leastLooks 38 [(0, .ref 57), (1, .int x1), (2, .int x2), (3, .int (0 : Int32))] (K, n, V, J, O) r (K, n, V', J, O)))) : Ev G (d + 1) mX12_leastLooks 28 [(0, .ref 57), (1, .int x1), (2, .int x2)] (K, n, V, J, O) r (K, n, V', J, O) := by
  refine Ev.mk fun Q hq => ?_
  refine wp_iload_n (i := 2) dX12_leastLooks_28 rfl rfl ?_
  refine wp_aload_n (i := 0) dX12_leastLooks_29 rfl rfl ?_
  refine wz_getI dX12_leastLooks_30 (k57 hK) (f12_405 _ (by decide)) rfl ?_
  refine wp_icmp_gt 178 dX12_leastLooks_33 (by decide) (fun q => ?_) (fun q => ?_)
  · replace hv := hv.1 q
    refine wp_aload_n (i := 0) dX12_leastLooks_178 rfl rfl ?_
    refine wz_getR (b := 87) dX12_leastLooks_179 (k57 hK) (f12_102 _ (by decide)) rfl ?_
    refine wp_aload_n (i := 0) dX12_leastLooks_182 rfl rfl ?_
    refine wz_getI dX12_leastLooks_183 (k57 hK) (f12_405 _ (by decide)) rfl ?_
    obtain ⟨z1, hv⟩ := hv
    refine wz_iaload dX12_leastLooks_186 (k87 hK) z1 ?_
    refine wx_istore_n (ls' := [(0, .ref 57), (1, .int x1), (2, .int (V 87 ((V 57 43)).toNatClampNeg))]) (i := 2) dX12_leastLooks_187 rfl (by decide) rfl ?_
    refine wp_aload_n (i := 0) dX12_leastLooks_188 rfl rfl ?_
    refine wp_iconst (v := 0) dX12_leastLooks_189 (by decide) ?_
    refine wz_putI dX12_leastLooks_190 (k57 hK) (w12_405 _ (by decide)) rfl ?_
    refine wp_iload_n (i := 2) dX12_leastLooks_193 rfl rfl ?_
    obtain ⟨rfl, rfl⟩ := hv
    exact wp_ireturn dX12_leastLooks_194 rfl rfl rfl hq
  · replace hv := hv.2 q
    refine wp_iconst (v := 0) dX12_leastLooks_36 (by decide) ?_
    refine wx_istore_n (ls' := [(0, .ref 57), (1, .int x1), (2, .int x2), (3, .int (0 : Int32))]) (i := 3) dX12_leastLooks_37 rfl (by decide) rfl ?_
    exact hv Q hq
theorem wX12_leastLooks_38 {x1 : Int32} {x2 : Int32} {x3 : Int32} (hK : StK K)  (hv : (((V 57 43) < (x3 + x2) → Ev G (d + 1) mX12_leastLooks 28 [(0, .ref 57), (1, .int x1), (2, .int (x2 + 1))] (K, n, V, J, O) r (K, n, V', J, O)) ∧ (¬ (V 57 43) < (x3 + x2) → ((x2 ≠ 0 → Ev G (d + 1) mX12_leastLooks 69 [(0, .ref 57), (1, .int x1), (2, .int x2), (3, .int x3), (4, .int (x3 + x2)), (5, .int (1999999999 : Int32)), (6, .int x3)] (K, n, V, J, O) r (K, n, V', J, O)) ∧ (x2 = 0 → Ev G (d + 1) mX12_leastLooks 69 [(0, .ref 57), (1, .int x1), (2, .int x2), (3, .int x3), (4, .int (x3 + x2)), (5, .int (0 : Int32)), (6, .int x3)] (K, n, V, J, O) r (K, n, V', J, O)))))) : Ev G (d + 1) mX12_leastLooks 38 [(0, .ref 57), (1, .int x1), (2, .int x2), (3, .int x3)] (K, n, V, J, O) r (K, n, V', J, O) := by
  refine Ev.mk fun Q hq => ?_
  refine wp_iload_n (i := 3) dX12_leastLooks_38 rfl rfl ?_
  refine wp_iload_n (i := 2) dX12_leastLooks_39 rfl rfl ?_
  refine wp_iadd dX12_leastLooks_40 ?_
  refine wp_aload_n (i := 0) dX12_leastLooks_41 rfl rfl ?_
  refine wz_getI dX12_leastLooks_42 (k57 hK) (f12_405 _ (by decide)) rfl ?_
  refine wp_icmp_gt 172 dX12_leastLooks_45 (by decide) (fun q => ?_) (fun q => ?_)
  · replace hv := hv.1 q
    refine wx_iinc (v := 1) (ls' := [(0, .ref 57), (1, .int x1), (2, .int (x2 + 1)), (3, .int x3)]) dX12_leastLooks_172 rfl (by decide) (by decide) rfl ?_
    refine wp_goto 28 dX12_leastLooks_175 (by decide) ?_
    refine wx_sub (ls' := [(0, .ref 57), (1, .int x1), (2, .int (x2 + 1))]) [0, 1, 2] rfl ?_
    exact hv Q hq
  · replace hv := hv.2 q
    refine wp_iload_n (i := 3) dX12_leastLooks_48 rfl rfl ?_
    refine wp_iload_n (i := 2) dX12_leastLooks_49 rfl rfl ?_
    refine wp_iadd dX12_leastLooks_50 ?_
    refine wx_istore (ls' := [(0, .ref 57), (1, .int x1), (2, .int x2), (3, .int x3), (4, .int (x3 + x2))]) dX12_leastLooks_51 (by decide) rfl ?_
    refine wp_iload_n (i := 2) dX12_leastLooks_53 rfl rfl ?_
    refine wp_if_ne 61 dX12_leastLooks_54 (by decide) (fun q => ?_) (fun q => ?_)
    · replace hv := hv.1 q
      refine wp_ldcw (v := 1999999999) dX12_leastLooks_61 q12_382 ?_
      refine wx_istore (ls' := [(0, .ref 57), (1, .int x1), (2, .int x2), (3, .int x3), (4, .int (x3 + x2)), (5, .int (1999999999 : Int32))]) dX12_leastLooks_64 (by decide) rfl ?_
      refine wp_iload_n (i := 3) dX12_leastLooks_66 rfl rfl ?_
      refine wx_istore (ls' := [(0, .ref 57), (1, .int x1), (2, .int x2), (3, .int x3), (4, .int (x3 + x2)), (5, .int (1999999999 : Int32)), (6, .int x3)]) dX12_leastLooks_67 (by decide) rfl ?_
      exact hv Q hq
    · replace hv := hv.2 q
      refine wp_iconst (v := 0) dX12_leastLooks_57 (by decide) ?_
      refine wp_goto 64 dX12_leastLooks_58 (by decide) ?_
      refine wx_istore (ls' := [(0, .ref 57), (1, .int x1), (2, .int x2), (3, .int x3), (4, .int (x3 + x2)), (5, .int (0 : Int32))]) dX12_leastLooks_64 (by decide) rfl ?_
      refine wp_iload_n (i := 3) dX12_leastLooks_66 rfl rfl ?_
      refine wx_istore (ls' := [(0, .ref 57), (1, .int x1), (2, .int x2), (3, .int x3), (4, .int (x3 + x2)), (5, .int (0 : Int32)), (6, .int x3)]) dX12_leastLooks_67 (by decide) rfl ?_
      exact hv Q hq
theorem wX12_leastLooks_69 {x1 : Int32} {x2 : Int32} {x3 : Int32} {x4 : Int32} {x5 : Int32} {x6 : Int32} (hK : StK K)  (hv : ((x4 ≤ x6 → (vp_in (((10 : Int32) * x3) + x4) 100 ∧ Ev G (d + 1) mX12_leastLooks 38 [(0, .ref 57), (1, .int x1), (2, .int x2), (3, .int (x3 + 1))] (K, n, (up2 V 87 ((((10 : Int32) * x3) + x4)).toNatClampNeg x5), J, O) r (K, n, V', J, O))) ∧ (¬ x4 ≤ x6 → (vp_in (((10 : Int32) * x3) + x6) 100 ∧ (vp_in (((10 : Int32) * (x6 + (1 : Int32))) + x4) 100 ∧ (∃ (v4 : Int32), Ev G d mX12_soughtIn 0 [(0, .ref 57), (1, .int x3), (2, .int x4)] (K, n, V, J, O) (some (.int v4)) (K, n, V, J, O) ∧ ((x5 ≤ (((V 87 ((((10 : Int32) * x3) + x6)).toNatClampNeg) + (V 87 ((((10 : Int32) * (x6 + (1 : Int32))) + x4)).toNatClampNeg)) + v4) → Ev G (d + 1) mX12_leastLooks 69 [(0, .ref 57), (1, .int x1), (2, .int x2), (3, .int x3), (4, .int x4), (5, .int x5), (6, .int (x6 + 1))] (K, n, V, J, O) r (K, n, V', J, O)) ∧ (¬ x5 ≤ (((V 87 ((((10 : Int32) * x3) + x6)).toNatClampNeg) + (V 87 ((((10 : Int32) * (x6 + (1 : Int32))) + x4)).toNatClampNeg)) + v4) → ((x2 ≠ (V 57 43) → Ev G (d + 1) mX12_leastLooks 69 [(0, .ref 57), (1, .int x1), (2, .int x2), (3, .int x3), (4, .int x4), (5, .int (((V 87 ((((10 : Int32) * x3) + x6)).toNatClampNeg) + (V 87 ((((10 : Int32) * (x6 + (1 : Int32))) + x4)).toNatClampNeg)) + v4)), (6, .int (x6 + 1))] (K, n, (up2 V 57 44 (V 57 44)), J, O) r (K, n, V', J, O)) ∧ (x2 = (V 57 43) → Ev G (d + 1) mX12_leastLooks 69 [(0, .ref 57), (1, .int x1), (2, .int x2), (3, .int x3), (4, .int x4), (5, .int (((V 87 ((((10 : Int32) * x3) + x6)).toNatClampNeg) + (V 87 ((((10 : Int32) * (x6 + (1 : Int32))) + x4)).toNatClampNeg)) + v4)), (6, .int (x6 + 1))] (K, n, (up2 V 57 44 x6), J, O) r (K, n, V', J, O))))))))))) : Ev G (d + 1) mX12_leastLooks 69 [(0, .ref 57), (1, .int x1), (2, .int x2), (3, .int x3), (4, .int x4), (5, .int x5), (6, .int x6)] (K, n, V, J, O) r (K, n, V', J, O) := by
  refine Ev.mk fun Q hq => ?_
  refine wp_iload dX12_leastLooks_69 rfl ?_
  refine wp_iload dX12_leastLooks_71 rfl ?_
  refine wp_icmp_ge 152 dX12_leastLooks_73 (by decide) (fun q => ?_) (fun q => ?_)
  · replace hv := hv.1 q
    refine wp_aload_n (i := 0) dX12_leastLooks_152 rfl rfl ?_
    refine wz_getR (b := 87) dX12_leastLooks_153 (k57 hK) (f12_102 _ (by decide)) rfl ?_
    refine wp_bipush (v := 10) dX12_leastLooks_156 (by decide) ?_
    refine wp_iload_n (i := 3) dX12_leastLooks_158 rfl rfl ?_
    refine wp_imul dX12_leastLooks_159 ?_
    refine wp_iload dX12_leastLooks_160 rfl ?_
    refine wp_iadd dX12_leastLooks_162 ?_
    refine wp_iload dX12_leastLooks_163 rfl ?_
    obtain ⟨z1, hv⟩ := hv
    refine wz_iastore dX12_leastLooks_165 (k87 hK) z1 ?_
    refine wx_iinc (v := 1) (ls' := [(0, .ref 57), (1, .int x1), (2, .int x2), (3, .int (x3 + 1)), (4, .int x4), (5, .int x5), (6, .int x6)]) dX12_leastLooks_166 rfl (by decide) (by decide) rfl ?_
    refine wp_goto 38 dX12_leastLooks_169 (by decide) ?_
    refine wx_sub (ls' := [(0, .ref 57), (1, .int x1), (2, .int x2), (3, .int (x3 + 1))]) [0, 1, 2, 3] rfl ?_
    exact hv Q hq
  · replace hv := hv.2 q
    refine wp_aload_n (i := 0) dX12_leastLooks_76 rfl rfl ?_
    refine wz_getR (b := 87) dX12_leastLooks_77 (k57 hK) (f12_102 _ (by decide)) rfl ?_
    refine wp_bipush (v := 10) dX12_leastLooks_80 (by decide) ?_
    refine wp_iload_n (i := 3) dX12_leastLooks_82 rfl rfl ?_
    refine wp_imul dX12_leastLooks_83 ?_
    refine wp_iload dX12_leastLooks_84 rfl ?_
    refine wp_iadd dX12_leastLooks_86 ?_
    obtain ⟨z2, hv⟩ := hv
    refine wz_iaload dX12_leastLooks_87 (k87 hK) z2 ?_
    refine wp_aload_n (i := 0) dX12_leastLooks_88 rfl rfl ?_
    refine wz_getR (b := 87) dX12_leastLooks_89 (k57 hK) (f12_102 _ (by decide)) rfl ?_
    refine wp_bipush (v := 10) dX12_leastLooks_92 (by decide) ?_
    refine wp_iload dX12_leastLooks_94 rfl ?_
    refine wp_iconst (v := 1) dX12_leastLooks_96 (by decide) ?_
    refine wp_iadd dX12_leastLooks_97 ?_
    refine wp_imul dX12_leastLooks_98 ?_
    refine wp_iload dX12_leastLooks_99 rfl ?_
    refine wp_iadd dX12_leastLooks_101 ?_
    obtain ⟨z3, hv⟩ := hv
    refine wz_iaload dX12_leastLooks_102 (k87 hK) z3 ?_
    refine wp_iadd dX12_leastLooks_103 ?_
    refine wp_aload_n (i := 0) dX12_leastLooks_104 rfl rfl ?_
    refine wp_iload_n (i := 3) dX12_leastLooks_105 rfl rfl ?_
    refine wp_iload dX12_leastLooks_106 rfl ?_
    obtain ⟨v4, hE, hv⟩ := hv
    refine wz_callV (vs := [.int x3, .int x4]) (st := [.int ((V 87 ((((10 : Int32) * x3) + x6)).toNatClampNeg) + (V 87 ((((10 : Int32) * (x6 + (1 : Int32))) + x4)).toNatClampNeg))]) dX12_leastLooks_108 (k57 hK) rfl k12_408_12 hE rfl (Nat.le_of_ble_eq_true rfl) (Nat.le_of_ble_eq_true rfl) ?_
    change wp _ _ _ _ _ [.int v4, .int ((V 87 ((((10 : Int32) * x3) + x6)).toNatClampNeg) + (V 87 ((((10 : Int32) * (x6 + (1 : Int32))) + x4)).toNatClampNeg))] _ _ _
    refine wp_iadd dX12_leastLooks_111 ?_
    refine wx_istore (ls' := [(0, .ref 57), (1, .int x1), (2, .int x2), (3, .int x3), (4, .int x4), (5, .int x5), (6, .int x6), (7, .int (((V 87 ((((10 : Int32) * x3) + x6)).toNatClampNeg) + (V 87 ((((10 : Int32) * (x6 + (1 : Int32))) + x4)).toNatClampNeg)) + v4))]) dX12_leastLooks_112 (by decide) rfl ?_
    refine wp_iload dX12_leastLooks_114 rfl ?_
    refine wp_iload dX12_leastLooks_116 rfl ?_
    refine wp_icmp_ge 146 dX12_leastLooks_118 (by decide) (fun q => ?_) (fun q => ?_)
    · replace hv := hv.1 q
      refine wx_iinc (v := 1) (ls' := [(0, .ref 57), (1, .int x1), (2, .int x2), (3, .int x3), (4, .int x4), (5, .int x5), (6, .int (x6 + 1)), (7, .int (((V 87 ((((10 : Int32) * x3) + x6)).toNatClampNeg) + (V 87 ((((10 : Int32) * (x6 + (1 : Int32))) + x4)).toNatClampNeg)) + v4))]) dX12_leastLooks_146 rfl (by decide) (by decide) rfl ?_
      refine wp_goto 69 dX12_leastLooks_149 (by decide) ?_
      refine wx_sub (ls' := [(0, .ref 57), (1, .int x1), (2, .int x2), (3, .int x3), (4, .int x4), (5, .int x5), (6, .int (x6 + 1))]) [0, 1, 2, 3, 4, 5, 6] rfl ?_
      exact hv Q hq
    · replace hv := hv.2 q
      refine wp_iload dX12_leastLooks_121 rfl ?_
      refine wx_istore (ls' := [(0, .ref 57), (1, .int x1), (2, .int x2), (3, .int x3), (4, .int x4), (5, .int (((V 87 ((((10 : Int32) * x3) + x6)).toNatClampNeg) + (V 87 ((((10 : Int32) * (x6 + (1 : Int32))) + x4)).toNatClampNeg)) + v4)), (6, .int x6), (7, .int (((V 87 ((((10 : Int32) * x3) + x6)).toNatClampNeg) + (V 87 ((((10 : Int32) * (x6 + (1 : Int32))) + x4)).toNatClampNeg)) + v4))]) dX12_leastLooks_123 (by decide) rfl ?_
      refine wp_aload_n (i := 0) dX12_leastLooks_125 rfl rfl ?_
      refine wp_iload_n (i := 2) dX12_leastLooks_126 rfl rfl ?_
      refine wp_aload_n (i := 0) dX12_leastLooks_127 rfl rfl ?_
      refine wz_getI dX12_leastLooks_128 (k57 hK) (f12_405 _ (by decide)) rfl ?_
      refine wp_icmp_ne 139 dX12_leastLooks_131 (by decide) (fun q => ?_) (fun q => ?_)
      · replace hv := hv.1 q
        refine wp_aload_n (i := 0) dX12_leastLooks_139 rfl rfl ?_
        refine wz_getI dX12_leastLooks_140 (k57 hK) (f12_98 _ (by decide)) rfl ?_
        refine wz_putI dX12_leastLooks_143 (k57 hK) (w12_98 _ (by decide)) rfl ?_
        refine wx_iinc (v := 1) (ls' := [(0, .ref 57), (1, .int x1), (2, .int x2), (3, .int x3), (4, .int x4), (5, .int (((V 87 ((((10 : Int32) * x3) + x6)).toNatClampNeg) + (V 87 ((((10 : Int32) * (x6 + (1 : Int32))) + x4)).toNatClampNeg)) + v4)), (6, .int (x6 + 1)), (7, .int (((V 87 ((((10 : Int32) * x3) + x6)).toNatClampNeg) + (V 87 ((((10 : Int32) * (x6 + (1 : Int32))) + x4)).toNatClampNeg)) + v4))]) dX12_leastLooks_146 rfl (by decide) (by decide) rfl ?_
        refine wp_goto 69 dX12_leastLooks_149 (by decide) ?_
        refine wx_sub (ls' := [(0, .ref 57), (1, .int x1), (2, .int x2), (3, .int x3), (4, .int x4), (5, .int (((V 87 ((((10 : Int32) * x3) + x6)).toNatClampNeg) + (V 87 ((((10 : Int32) * (x6 + (1 : Int32))) + x4)).toNatClampNeg)) + v4)), (6, .int (x6 + 1))]) [0, 1, 2, 3, 4, 5, 6] rfl ?_
        exact hv Q hq
      · replace hv := hv.2 q
        refine wp_iload dX12_leastLooks_134 rfl ?_
        refine wp_goto 143 dX12_leastLooks_136 (by decide) ?_
        refine wz_putI dX12_leastLooks_143 (k57 hK) (w12_98 _ (by decide)) rfl ?_
        refine wx_iinc (v := 1) (ls' := [(0, .ref 57), (1, .int x1), (2, .int x2), (3, .int x3), (4, .int x4), (5, .int (((V 87 ((((10 : Int32) * x3) + x6)).toNatClampNeg) + (V 87 ((((10 : Int32) * (x6 + (1 : Int32))) + x4)).toNatClampNeg)) + v4)), (6, .int (x6 + 1)), (7, .int (((V 87 ((((10 : Int32) * x3) + x6)).toNatClampNeg) + (V 87 ((((10 : Int32) * (x6 + (1 : Int32))) + x4)).toNatClampNeg)) + v4))]) dX12_leastLooks_146 rfl (by decide) (by decide) rfl ?_
        refine wp_goto 69 dX12_leastLooks_149 (by decide) ?_
        refine wx_sub (ls' := [(0, .ref 57), (1, .int x1), (2, .int x2), (3, .int x3), (4, .int x4), (5, .int (((V 87 ((((10 : Int32) * x3) + x6)).toNatClampNeg) + (V 87 ((((10 : Int32) * (x6 + (1 : Int32))) + x4)).toNatClampNeg)) + v4)), (6, .int (x6 + 1))]) [0, 1, 2, 3, 4, 5, 6] rfl ?_
        exact hv Q hq
theorem wX12_root_0  (hK : StK K)  (hv : ((0 ≤ (V 57 44) → r = some (.int (V 57 44))) ∧ (¬ 0 ≤ (V 57 44) → r = some (.int (-1 : Int32))))) : Ev G d mX12_root 0 [(0, .ref 57)] (K, n, V, J, O) r (K, n, V, J, O) := by
  refine Ev.mk fun Q hq => ?_
  refine wp_aload_n (i := 0) dX12_root_0 rfl rfl ?_
  refine wz_getI dX12_root_1 (k57 hK) (f12_98 _ (by decide)) rfl ?_
  refine wp_if_ge 11 dX12_root_4 (by decide) (fun q => ?_) (fun q => ?_)
  · replace hv := hv.1 q
    refine wp_aload_n (i := 0) dX12_root_11 rfl rfl ?_
    refine wz_getI dX12_root_12 (k57 hK) (f12_98 _ (by decide)) rfl ?_
    obtain rfl := hv
    exact wp_ireturn dX12_root_15 rfl rfl rfl hq
  · replace hv := hv.2 q
    refine wp_iconst (v := -1) dX12_root_7 (by decide) ?_
    refine wp_goto 15 dX12_root_8 (by decide) ?_
    obtain rfl := hv
    exact wp_ireturn dX12_root_15 rfl rfl rfl hq
theorem wX12_walk_0 {x1 : Int32} (hK : StK K)  (hv : (∃ (v1 : Int32), Ev G d mX12_within 0 [(0, .long x1.toInt64), (2, .long (0 : Int64)), (4, .long (1 : Int64))] (K, n, V, J, O) (some (.int v1)) (K, n, V, J, O) ∧ ((v1 ≠ 0 → (((V 57 49) ≠ (4 : Int32) → ((x1 ≠ (1 : Int32) → (vp_in (V 57 49) 4 ∧ (vp_in (V 57 49) 4 ∧ Ev G (d + 1) mX12_walk 54 [(0, .ref 57), (1, .int x1), (2, .int (0 : Int32))] (K, n, (up2 (up2 V 88 ((V 57 49)).toNatClampNeg (vp_nar .boolean (0 : Int32))) 90 ((V 57 49)).toNatClampNeg (-1 : Int32)), J, O) r (K, n, V', J, O)))) ∧ (x1 = (1 : Int32) → (vp_in (V 57 49) 4 ∧ (vp_in (V 57 49) 4 ∧ Ev G (d + 1) mX12_walk 54 [(0, .ref 57), (1, .int x1), (2, .int (0 : Int32))] (K, n, (up2 (up2 V 88 ((V 57 49)).toNatClampNeg (vp_nar .boolean (1 : Int32))) 90 ((V 57 49)).toNatClampNeg (-1 : Int32)), J, O) r (K, n, V', J, O)))))) ∧ ((V 57 49) = (4 : Int32) → (r = some (.int (-3 : Int32)) ∧ V' = V)))) ∧ (v1 = 0 → (r = some (.int (-1 : Int32)) ∧ V' = V))))) : Ev G (d + 1) mX12_walk 0 [(0, .ref 57), (1, .int x1)] (K, n, V, J, O) r (K, n, V', J, O) := by
  refine Ev.mk fun Q hq => ?_
  refine wp_iload_n (i := 1) dX12_walk_0 rfl rfl ?_
  refine wp_i2l dX12_walk_1 ?_
  refine wp_lconst (v := 0) dX12_walk_2 (by decide) ?_
  refine wp_lconst (v := 1) dX12_walk_3 (by decide) ?_
  obtain ⟨v1, hE, hv⟩ := hv
  refine wz_callS (vs := [.long x1.toInt64, .long (0 : Int64), .long (1 : Int64)]) (st := []) dX12_walk_4 k12_135 hE rfl (Nat.le_of_ble_eq_true rfl) (Nat.le_of_ble_eq_true rfl) ?_
  change wp _ _ _ _ _ [.int v1] _ _ _
  refine wp_if_ne 12 dX12_walk_7 (by decide) (fun q => ?_) (fun q => ?_)
  · replace hv := hv.1 q
    refine wp_aload_n (i := 0) dX12_walk_12 rfl rfl ?_
    refine wz_getI dX12_walk_13 (k57 hK) (f12_411 _ (by decide)) rfl ?_
    refine wp_iconst (v := 4) dX12_walk_16 (by decide) ?_
    refine wp_icmp_ne 23 dX12_walk_17 (by decide) (fun q => ?_) (fun q => ?_)
    · replace hv := hv.1 q
      refine wp_aload_n (i := 0) dX12_walk_23 rfl rfl ?_
      refine wz_getR (b := 88) dX12_walk_24 (k57 hK) (f12_105 _ (by decide)) rfl ?_
      refine wp_aload_n (i := 0) dX12_walk_27 rfl rfl ?_
      refine wz_getI dX12_walk_28 (k57 hK) (f12_411 _ (by decide)) rfl ?_
      refine wp_iload_n (i := 1) dX12_walk_31 rfl rfl ?_
      refine wp_iconst (v := 1) dX12_walk_32 (by decide) ?_
      refine wp_icmp_ne 40 dX12_walk_33 (by decide) (fun q => ?_) (fun q => ?_)
      · replace hv := hv.1 q
        refine wp_iconst (v := 0) dX12_walk_40 (by decide) ?_
        obtain ⟨z2, hv⟩ := hv
        refine wz_bastore dX12_walk_41 (k88 hK) z2 ?_
        refine wp_aload_n (i := 0) dX12_walk_42 rfl rfl ?_
        refine wz_getR (b := 90) dX12_walk_43 (k57 hK) (f12_111 _ (by decide)) rfl ?_
        refine wp_aload_n (i := 0) dX12_walk_46 rfl rfl ?_
        refine wz_getIe (v := (V 57 49)) dX12_walk_47 (k57 hK) (f12_411 _ (by decide)) rfl (up2_a (by decide)) ?_
        refine wp_iconst (v := -1) dX12_walk_50 (by decide) ?_
        obtain ⟨z3, hv⟩ := hv
        refine wz_iastore dX12_walk_51 (k90 hK) z3 ?_
        refine wp_iconst (v := 0) dX12_walk_52 (by decide) ?_
        refine wx_istore_n (ls' := [(0, .ref 57), (1, .int x1), (2, .int (0 : Int32))]) (i := 2) dX12_walk_53 rfl (by decide) rfl ?_
        exact hv Q hq
      · replace hv := hv.2 q
        refine wp_iconst (v := 1) dX12_walk_36 (by decide) ?_
        refine wp_goto 41 dX12_walk_37 (by decide) ?_
        obtain ⟨z4, hv⟩ := hv
        refine wz_bastore dX12_walk_41 (k88 hK) z4 ?_
        refine wp_aload_n (i := 0) dX12_walk_42 rfl rfl ?_
        refine wz_getR (b := 90) dX12_walk_43 (k57 hK) (f12_111 _ (by decide)) rfl ?_
        refine wp_aload_n (i := 0) dX12_walk_46 rfl rfl ?_
        refine wz_getIe (v := (V 57 49)) dX12_walk_47 (k57 hK) (f12_411 _ (by decide)) rfl (up2_a (by decide)) ?_
        refine wp_iconst (v := -1) dX12_walk_50 (by decide) ?_
        obtain ⟨z5, hv⟩ := hv
        refine wz_iastore dX12_walk_51 (k90 hK) z5 ?_
        refine wp_iconst (v := 0) dX12_walk_52 (by decide) ?_
        refine wx_istore_n (ls' := [(0, .ref 57), (1, .int x1), (2, .int (0 : Int32))]) (i := 2) dX12_walk_53 rfl (by decide) rfl ?_
        exact hv Q hq
    · replace hv := hv.2 q
      refine wp_bipush (v := -3) dX12_walk_20 (by decide) ?_
      obtain ⟨rfl, rfl⟩ := hv
      exact wp_ireturn dX12_walk_22 rfl rfl rfl hq
  · replace hv := hv.2 q
    refine wp_iconst (v := -1) dX12_walk_10 (by decide) ?_
    obtain ⟨rfl, rfl⟩ := hv
    exact wp_ireturn dX12_walk_11 rfl rfl rfl hq
theorem wX12_walk_54 {x1 : Int32} {x2 : Int32} (hK : StK K)  (hv : (((V 57 2) ≤ x2 → (r = some (.int (((V 57 49) + (1 : Int32)) - (1 : Int32))) ∧ V' = (up2 V 57 49 ((V 57 49) + (1 : Int32))))) ∧ (¬ (V 57 2) ≤ x2 → (vp_in x2 80 ∧ (vp_in (((80 : Int32) * (V 57 49)) + x2) 320 ∧ Ev G (d + 1) mX12_walk 54 [(0, .ref 57), (1, .int x1), (2, .int (x2 + 1))] (K, n, (up2 V 89 ((((80 : Int32) * (V 57 49)) + x2)).toNatClampNeg (vp_nar .boolean (V 59 (x2).toNatClampNeg))), J, O) r (K, n, V', J, O)))))) : Ev G (d + 1) mX12_walk 54 [(0, .ref 57), (1, .int x1), (2, .int x2)] (K, n, V, J, O) r (K, n, V', J, O) := by
  refine Ev.mk fun Q hq => ?_
  refine wp_iload_n (i := 2) dX12_walk_54 rfl rfl ?_
  refine wp_aload_n (i := 0) dX12_walk_55 rfl rfl ?_
  refine wz_getI dX12_walk_56 (k57 hK) (f12_130 _ (by decide)) rfl ?_
  refine wp_icmp_ge 88 dX12_walk_59 (by decide) (fun q => ?_) (fun q => ?_)
  · replace hv := hv.1 q
    refine wp_aload_n (i := 0) dX12_walk_88 rfl rfl ?_
    refine wp_dupR dX12_walk_89 ?_
    refine wz_getI dX12_walk_90 (k57 hK) (f12_411 _ (by decide)) rfl ?_
    refine wp_iconst (v := 1) dX12_walk_93 (by decide) ?_
    refine wp_iadd dX12_walk_94 ?_
    refine wz_putI dX12_walk_95 (k57 hK) (w12_411 _ (by decide)) rfl ?_
    refine wp_aload_n (i := 0) dX12_walk_98 rfl rfl ?_
    refine wz_getIe (v := ((V 57 49) + (1 : Int32))) dX12_walk_99 (k57 hK) (f12_411 _ (by decide)) rfl up2_s ?_
    refine wp_iconst (v := 1) dX12_walk_102 (by decide) ?_
    refine wp_isub dX12_walk_103 ?_
    obtain ⟨rfl, rfl⟩ := hv
    exact wp_ireturn dX12_walk_104 rfl rfl rfl hq
  · replace hv := hv.2 q
    refine wp_aload_n (i := 0) dX12_walk_62 rfl rfl ?_
    refine wz_getR (b := 89) dX12_walk_63 (k57 hK) (f12_108 _ (by decide)) rfl ?_
    refine wp_bipush (v := 80) dX12_walk_66 (by decide) ?_
    refine wp_aload_n (i := 0) dX12_walk_68 rfl rfl ?_
    refine wz_getI dX12_walk_69 (k57 hK) (f12_411 _ (by decide)) rfl ?_
    refine wp_imul dX12_walk_72 ?_
    refine wp_iload_n (i := 2) dX12_walk_73 rfl rfl ?_
    refine wp_iadd dX12_walk_74 ?_
    refine wp_aload_n (i := 0) dX12_walk_75 rfl rfl ?_
    refine wz_getR (b := 59) dX12_walk_76 (k57 hK) (f12_13 _ (by decide)) rfl ?_
    refine wp_iload_n (i := 2) dX12_walk_79 rfl rfl ?_
    obtain ⟨z1, hv⟩ := hv
    refine wz_baload dX12_walk_80 (k59 hK) z1 ?_
    obtain ⟨z2, hv⟩ := hv
    refine wz_bastore dX12_walk_81 (k89 hK) z2 ?_
    refine wx_iinc (v := 1) (ls' := [(0, .ref 57), (1, .int x1), (2, .int (x2 + 1))]) dX12_walk_82 rfl (by decide) (by decide) rfl ?_
    refine wp_goto 54 dX12_walk_85 (by decide) ?_
    exact hv Q hq
theorem wX12_next_0 {x1 : Int32} (hK : StK K)  (hv : ((x1 < 0 → (r = some (.int (-1 : Int32)) ∧ V' = V)) ∧ (¬ x1 < 0 → ((x1 < (V 57 49) → (vp_in x1 4 ∧ Ev G d mX12_next 23 [(0, .ref 57), (1, .int x1), (2, .int ((V 90 (x1).toNatClampNeg) + (1 : Int32)))] (K, n, V, J, O) r (K, n, V', J, O))) ∧ (¬ x1 < (V 57 49) → (r = some (.int (-1 : Int32)) ∧ V' = V)))))) : Ev G d mX12_next 0 [(0, .ref 57), (1, .int x1)] (K, n, V, J, O) r (K, n, V', J, O) := by
  refine Ev.mk fun Q hq => ?_
  refine wp_iload_n (i := 1) dX12_next_0 rfl rfl ?_
  refine wp_if_lt 12 dX12_next_1 (by decide) (fun q => ?_) (fun q => ?_)
  · replace hv := hv.1 q
    refine wp_iconst (v := -1) dX12_next_12 (by decide) ?_
    obtain ⟨rfl, rfl⟩ := hv
    exact wp_ireturn dX12_next_13 rfl rfl rfl hq
  · replace hv := hv.2 q
    refine wp_iload_n (i := 1) dX12_next_4 rfl rfl ?_
    refine wp_aload_n (i := 0) dX12_next_5 rfl rfl ?_
    refine wz_getI dX12_next_6 (k57 hK) (f12_411 _ (by decide)) rfl ?_
    refine wp_icmp_lt 14 dX12_next_9 (by decide) (fun q => ?_) (fun q => ?_)
    · replace hv := hv.1 q
      refine wp_aload_n (i := 0) dX12_next_14 rfl rfl ?_
      refine wz_getR (b := 90) dX12_next_15 (k57 hK) (f12_111 _ (by decide)) rfl ?_
      refine wp_iload_n (i := 1) dX12_next_18 rfl rfl ?_
      obtain ⟨z1, hv⟩ := hv
      refine wz_iaload dX12_next_19 (k90 hK) z1 ?_
      refine wp_iconst (v := 1) dX12_next_20 (by decide) ?_
      refine wp_iadd dX12_next_21 ?_
      refine wx_istore_n (ls' := [(0, .ref 57), (1, .int x1), (2, .int ((V 90 (x1).toNatClampNeg) + (1 : Int32)))]) (i := 2) dX12_next_22 rfl (by decide) rfl ?_
      exact hv Q hq
    · replace hv := hv.2 q
      refine wp_iconst (v := -1) dX12_next_12 (by decide) ?_
      obtain ⟨rfl, rfl⟩ := hv
      exact wp_ireturn dX12_next_13 rfl rfl rfl hq
theorem wX12_next_23 {x1 : Int32} {x2 : Int32} (hK : StK K)  (hv : (((V 57 2) ≤ x2 → (r = some (.int (-1 : Int32)) ∧ V' = V)) ∧ (¬ (V 57 2) ≤ x2 → (vp_in x1 4 ∧ (((V 88 (x1).toNatClampNeg) = 0 → (vp_in x2 80 ∧ (((V 59 (x2).toNatClampNeg) = 0 → Ev G d mX12_next 23 [(0, .ref 57), (1, .int x1), (2, .int (x2 + 1))] (K, n, V, J, O) r (K, n, V', J, O)) ∧ (¬ (V 59 (x2).toNatClampNeg) = 0 → (vp_in x1 4 ∧ (r = some (.int x2) ∧ V' = (up2 V 90 (x1).toNatClampNeg x2))))))) ∧ (¬ (V 88 (x1).toNatClampNeg) = 0 → (vp_in (((80 : Int32) * x1) + x2) 320 ∧ (((V 89 ((((80 : Int32) * x1) + x2)).toNatClampNeg) = 0 → Ev G d mX12_next 23 [(0, .ref 57), (1, .int x1), (2, .int (x2 + 1))] (K, n, V, J, O) r (K, n, V', J, O)) ∧ (¬ (V 89 ((((80 : Int32) * x1) + x2)).toNatClampNeg) = 0 → (vp_in x1 4 ∧ (r = some (.int x2) ∧ V' = (up2 V 90 (x1).toNatClampNeg x2)))))))))))) : Ev G d mX12_next 23 [(0, .ref 57), (1, .int x1), (2, .int x2)] (K, n, V, J, O) r (K, n, V', J, O) := by
  refine Ev.mk fun Q hq => ?_
  refine wp_iload_n (i := 2) dX12_next_23 rfl rfl ?_
  refine wp_aload_n (i := 0) dX12_next_24 rfl rfl ?_
  refine wz_getI dX12_next_25 (k57 hK) (f12_130 _ (by decide)) rfl ?_
  refine wp_icmp_ge 81 dX12_next_28 (by decide) (fun q => ?_) (fun q => ?_)
  · replace hv := hv.1 q
    refine wp_iconst (v := -1) dX12_next_81 (by decide) ?_
    obtain ⟨rfl, rfl⟩ := hv
    exact wp_ireturn dX12_next_82 rfl rfl rfl hq
  · replace hv := hv.2 q
    refine wp_aload_n (i := 0) dX12_next_31 rfl rfl ?_
    refine wz_getR (b := 88) dX12_next_32 (k57 hK) (f12_105 _ (by decide)) rfl ?_
    refine wp_iload_n (i := 1) dX12_next_35 rfl rfl ?_
    obtain ⟨z1, hv⟩ := hv
    refine wz_baload dX12_next_36 (k88 hK) z1 ?_
    refine wp_if_eq 57 dX12_next_37 (by decide) (fun q => ?_) (fun q => ?_)
    · replace hv := hv.1 q
      refine wp_aload_n (i := 0) dX12_next_57 rfl rfl ?_
      refine wz_getR (b := 59) dX12_next_58 (k57 hK) (f12_13 _ (by decide)) rfl ?_
      refine wp_iload_n (i := 2) dX12_next_61 rfl rfl ?_
      obtain ⟨z2, hv⟩ := hv
      refine wz_baload dX12_next_62 (k59 hK) z2 ?_
      refine wp_if_eq 75 dX12_next_63 (by decide) (fun q => ?_) (fun q => ?_)
      · replace hv := hv.1 q
        refine wx_iinc (v := 1) (ls' := [(0, .ref 57), (1, .int x1), (2, .int (x2 + 1))]) dX12_next_75 rfl (by decide) (by decide) rfl ?_
        refine wp_goto 23 dX12_next_78 (by decide) ?_
        exact hv Q hq
      · replace hv := hv.2 q
        refine wp_aload_n (i := 0) dX12_next_66 rfl rfl ?_
        refine wz_getR (b := 90) dX12_next_67 (k57 hK) (f12_111 _ (by decide)) rfl ?_
        refine wp_iload_n (i := 1) dX12_next_70 rfl rfl ?_
        refine wp_iload_n (i := 2) dX12_next_71 rfl rfl ?_
        obtain ⟨z3, hv⟩ := hv
        refine wz_iastore dX12_next_72 (k90 hK) z3 ?_
        refine wp_iload_n (i := 2) dX12_next_73 rfl rfl ?_
        obtain ⟨rfl, rfl⟩ := hv
        exact wp_ireturn dX12_next_74 rfl rfl rfl hq
    · replace hv := hv.2 q
      refine wp_aload_n (i := 0) dX12_next_40 rfl rfl ?_
      refine wz_getR (b := 89) dX12_next_41 (k57 hK) (f12_108 _ (by decide)) rfl ?_
      refine wp_bipush (v := 80) dX12_next_44 (by decide) ?_
      refine wp_iload_n (i := 1) dX12_next_46 rfl rfl ?_
      refine wp_imul dX12_next_47 ?_
      refine wp_iload_n (i := 2) dX12_next_48 rfl rfl ?_
      refine wp_iadd dX12_next_49 ?_
      obtain ⟨z4, hv⟩ := hv
      refine wz_baload dX12_next_50 (k89 hK) z4 ?_
      refine wp_if_eq 75 dX12_next_51 (by decide) (fun q => ?_) (fun q => ?_)
      · replace hv := hv.1 q
        refine wx_iinc (v := 1) (ls' := [(0, .ref 57), (1, .int x1), (2, .int (x2 + 1))]) dX12_next_75 rfl (by decide) (by decide) rfl ?_
        refine wp_goto 23 dX12_next_78 (by decide) ?_
        exact hv Q hq
      · replace hv := hv.2 q
        refine wp_goto 66 dX12_next_54 (by decide) ?_
        refine wp_aload_n (i := 0) dX12_next_66 rfl rfl ?_
        refine wz_getR (b := 90) dX12_next_67 (k57 hK) (f12_111 _ (by decide)) rfl ?_
        refine wp_iload_n (i := 1) dX12_next_70 rfl rfl ?_
        refine wp_iload_n (i := 2) dX12_next_71 rfl rfl ?_
        obtain ⟨z5, hv⟩ := hv
        refine wz_iastore dX12_next_72 (k90 hK) z5 ?_
        refine wp_iload_n (i := 2) dX12_next_73 rfl rfl ?_
        obtain ⟨rfl, rfl⟩ := hv
        exact wp_ireturn dX12_next_74 rfl rfl rfl hq
theorem wX12_above_0 {x0 : Int32} (hK : StK K)  (hv : ((x0 = (2 : Int32) → r = some (.int (1 : Int32))) ∧ (¬ x0 = (2 : Int32) → ((x0 ≠ (3 : Int32) → ((x0 ≠ (6 : Int32) → ((x0 ≠ (7 : Int32) → r = some (.int (0 : Int32))) ∧ (x0 = (7 : Int32) → r = some (.int (2 : Int32))))) ∧ (x0 = (6 : Int32) → r = some (.int (4 : Int32))))) ∧ (x0 = (3 : Int32) → r = some (.int (1 : Int32))))))) : Ev G d mX12_above 0 [(0, .int x0)] (K, n, V, J, O) r (K, n, V, J, O) := by
  refine Ev.mk fun Q hq => ?_
  refine wp_iload_n (i := 0) dX12_above_0 rfl rfl ?_
  refine wp_iconst (v := 2) dX12_above_1 (by decide) ?_
  refine wp_icmp_eq 10 dX12_above_2 (by decide) (fun q => ?_) (fun q => ?_)
  · replace hv := hv.1 q
    refine wp_iconst (v := 1) dX12_above_10 (by decide) ?_
    refine wp_goto 35 dX12_above_11 (by decide) ?_
    obtain rfl := hv
    exact wp_ireturn dX12_above_35 rfl rfl rfl hq
  · replace hv := hv.2 q
    refine wp_iload_n (i := 0) dX12_above_5 rfl rfl ?_
    refine wp_iconst (v := 3) dX12_above_6 (by decide) ?_
    refine wp_icmp_ne 14 dX12_above_7 (by decide) (fun q => ?_) (fun q => ?_)
    · replace hv := hv.1 q
      refine wp_iload_n (i := 0) dX12_above_14 rfl rfl ?_
      refine wp_bipush (v := 6) dX12_above_15 (by decide) ?_
      refine wp_icmp_ne 24 dX12_above_17 (by decide) (fun q => ?_) (fun q => ?_)
      · replace hv := hv.1 q
        refine wp_iload_n (i := 0) dX12_above_24 rfl rfl ?_
        refine wp_bipush (v := 7) dX12_above_25 (by decide) ?_
        refine wp_icmp_ne 34 dX12_above_27 (by decide) (fun q => ?_) (fun q => ?_)
        · replace hv := hv.1 q
          refine wp_iconst (v := 0) dX12_above_34 (by decide) ?_
          obtain rfl := hv
          exact wp_ireturn dX12_above_35 rfl rfl rfl hq
        · replace hv := hv.2 q
          refine wp_iconst (v := 2) dX12_above_30 (by decide) ?_
          refine wp_goto 35 dX12_above_31 (by decide) ?_
          obtain rfl := hv
          exact wp_ireturn dX12_above_35 rfl rfl rfl hq
      · replace hv := hv.2 q
        refine wp_iconst (v := 4) dX12_above_20 (by decide) ?_
        refine wp_goto 35 dX12_above_21 (by decide) ?_
        obtain rfl := hv
        exact wp_ireturn dX12_above_35 rfl rfl rfl hq
    · replace hv := hv.2 q
      refine wp_iconst (v := 1) dX12_above_10 (by decide) ?_
      refine wp_goto 35 dX12_above_11 (by decide) ?_
      obtain rfl := hv
      exact wp_ireturn dX12_above_35 rfl rfl rfl hq
theorem wX12_ranBody_0 {x1 : Int32} (hK : StK K)  (hv : (((24 : Int32) ≤ (V 57 51) → (r = none ∧ V' = (up2 V 57 51 ((V 57 51) + (1 : Int32))))) ∧ (¬ (24 : Int32) ≤ (V 57 51) → (vp_in (V 57 51) 24 ∧ (r = none ∧ V' = (up2 (up2 V 91 ((V 57 51)).toNatClampNeg x1) 57 51 ((V 57 51) + (1 : Int32)))))))) : Ev G d mX12_ranBody 0 [(0, .ref 57), (1, .int x1)] (K, n, V, J, O) r (K, n, V', J, O) := by
  refine Ev.mk fun Q hq => ?_
  refine wp_aload_n (i := 0) dX12_ranBody_0 rfl rfl ?_
  refine wz_getI dX12_ranBody_1 (k57 hK) (f12_414 _ (by decide)) rfl ?_
  refine wp_bipush (v := 24) dX12_ranBody_4 (by decide) ?_
  refine wp_icmp_ge 19 dX12_ranBody_6 (by decide) (fun q => ?_) (fun q => ?_)
  · replace hv := hv.1 q
    refine wp_aload_n (i := 0) dX12_ranBody_19 rfl rfl ?_
    refine wp_dupR dX12_ranBody_20 ?_
    refine wz_getI dX12_ranBody_21 (k57 hK) (f12_414 _ (by decide)) rfl ?_
    refine wp_iconst (v := 1) dX12_ranBody_24 (by decide) ?_
    refine wp_iadd dX12_ranBody_25 ?_
    refine wz_putI dX12_ranBody_26 (k57 hK) (w12_414 _ (by decide)) rfl ?_
    obtain ⟨rfl, rfl⟩ := hv
    exact wp_return dX12_ranBody_29 rfl rfl hq
  · replace hv := hv.2 q
    refine wp_aload_n (i := 0) dX12_ranBody_9 rfl rfl ?_
    refine wz_getR (b := 91) dX12_ranBody_10 (k57 hK) (f12_114 _ (by decide)) rfl ?_
    refine wp_aload_n (i := 0) dX12_ranBody_13 rfl rfl ?_
    refine wz_getI dX12_ranBody_14 (k57 hK) (f12_414 _ (by decide)) rfl ?_
    refine wp_iload_n (i := 1) dX12_ranBody_17 rfl rfl ?_
    obtain ⟨z1, hv⟩ := hv
    refine wz_iastore dX12_ranBody_18 (k91 hK) z1 ?_
    refine wp_aload_n (i := 0) dX12_ranBody_19 rfl rfl ?_
    refine wp_dupR dX12_ranBody_20 ?_
    refine wz_getIe (v := (V 57 51)) dX12_ranBody_21 (k57 hK) (f12_414 _ (by decide)) rfl (up2_a (by decide)) ?_
    refine wp_iconst (v := 1) dX12_ranBody_24 (by decide) ?_
    refine wp_iadd dX12_ranBody_25 ?_
    refine wz_putI dX12_ranBody_26 (k57 hK) (w12_414 _ (by decide)) rfl ?_
    obtain ⟨rfl, rfl⟩ := hv
    exact wp_return dX12_ranBody_29 rfl rfl hq
theorem wX12_finds_0 {x1 : Int32} {x2 : Int32} (hK : StK K)  (hv : ((x1 = (0 : Int32) → (∃ (V1 : SV), Ev G d mX12_ranBody 0 [(0, .ref 57), (1, .int (1 : Int32))] (K, n, V, J, O) none (K, n, V1, J, O) ∧ (r = some (.int (x2 + (V1 57 52))) ∧ V' = V1))) ∧ (x1 = (1 : Int32) → (∃ (V2 : SV), Ev G d mX12_ranBody 0 [(0, .ref 57), (1, .int (20 : Int32))] (K, n, V, J, O) none (K, n, V2, J, O) ∧ (∃ (v3 : Int32), Ev G d mX12_above 0 [(0, .int (1 : Int32))] (K, n, V2, J, O) (some (.int v3)) (K, n, V2, J, O) ∧ (∃ (v5 : Int32) (V4 : SV), Ev G d mX12_finds 0 [(0, .ref 57), (1, .int v3), (2, .int x2)] (K, n, V2, J, O) (some (.int v5)) (K, n, V4, J, O) ∧ (vp_in (V4 57 52) 10 ∧ (r = some (.int (v5 + (V4 71 ((V4 57 52)).toNatClampNeg))) ∧ V' = V4)))))) ∧ (x1 = (2 : Int32) → (∃ (v7 : Int32), Ev G d mX12_above 0 [(0, .int x1)] (K, n, V, J, O) (some (.int v7)) (K, n, V, J, O) ∧ (∃ (v9 : Int32) (V8 : SV), Ev G d mX12_finds 0 [(0, .ref 57), (1, .int v7), (2, .int x2)] (K, n, V, J, O) (some (.int v9)) (K, n, V8, J, O) ∧ (r = some (.int v9) ∧ V' = V8)))) ∧ (x1 = (3 : Int32) → (∃ (v10 : Int32), Ev G d mX12_above 0 [(0, .int x1)] (K, n, V, J, O) (some (.int v10)) (K, n, V, J, O) ∧ (∃ (v12 : Int32) (V11 : SV), Ev G d mX12_finds 0 [(0, .ref 57), (1, .int v10), (2, .int x2)] (K, n, V, J, O) (some (.int v12)) (K, n, V11, J, O) ∧ (r = some (.int v12) ∧ V' = V11)))) ∧ (x1 = (4 : Int32) → (∃ (V13 : SV), Ev G d mX12_ranBody 0 [(0, .ref 57), (1, .int (50 : Int32))] (K, n, V, J, O) none (K, n, V13, J, O) ∧ (∃ (v14 : Int32), Ev G d mX12_above 0 [(0, .int (4 : Int32))] (K, n, V13, J, O) (some (.int v14)) (K, n, V13, J, O) ∧ (∃ (v16 : Int32) (V15 : SV), Ev G d mX12_finds 0 [(0, .ref 57), (1, .int v14), (2, .int x2)] (K, n, V13, J, O) (some (.int v16)) (K, n, V15, J, O) ∧ (r = some (.int (v16 * (3 : Int32))) ∧ V' = V15))))) ∧ (x1 = (5 : Int32) → (∃ (v17 : Int32), Ev G d mX12_above 0 [(0, .int x1)] (K, n, V, J, O) (some (.int v17)) (K, n, V, J, O) ∧ (∃ (v19 : Int32) (V18 : SV), Ev G d mX12_finds 0 [(0, .ref 57), (1, .int v17), (2, .int x2)] (K, n, V, J, O) (some (.int v19)) (K, n, V18, J, O) ∧ (r = some (.int v19) ∧ V' = V18)))) ∧ (x1 = (6 : Int32) → (∃ (V20 : SV), Ev G d mX12_ranBody 0 [(0, .ref 57), (1, .int (70 : Int32))] (K, n, V, J, O) none (K, n, V20, J, O) ∧ (∃ (v21 : Int32), Ev G d mX12_above 0 [(0, .int (6 : Int32))] (K, n, V20, J, O) (some (.int v21)) (K, n, V20, J, O) ∧ (∃ (v23 : Int32) (V22 : SV), Ev G d mX12_finds 0 [(0, .ref 57), (1, .int v21), (2, .int (x2 + (1 : Int32)))] (K, n, V20, J, O) (some (.int v23)) (K, n, V22, J, O) ∧ (r = some (.int (-v23)) ∧ V' = V22))))) ∧ ((¬ x1 = (0 : Int32) ∧ ¬ x1 = (1 : Int32) ∧ ¬ x1 = (2 : Int32) ∧ ¬ x1 = (3 : Int32) ∧ ¬ x1 = (4 : Int32) ∧ ¬ x1 = (5 : Int32) ∧ ¬ x1 = (6 : Int32)) → (∃ (v24 : Int32), Ev G d mX12_above 0 [(0, .int x1)] (K, n, V, J, O) (some (.int v24)) (K, n, V, J, O) ∧ (∃ (v26 : Int32) (V25 : SV), Ev G d mX12_finds 0 [(0, .ref 57), (1, .int v24), (2, .int x2)] (K, n, V, J, O) (some (.int v26)) (K, n, V25, J, O) ∧ (r = some (.int v26) ∧ V' = V25)))))) : Ev G (d + 1) mX12_finds 0 [(0, .ref 57), (1, .int x1), (2, .int x2)] (K, n, V, J, O) r (K, n, V', J, O) := by
  refine Ev.mk fun Q hq => ?_
  refine wp_iload_n (i := 1) dX12_finds_0 rfl rfl ?_
  by_cases q0 : x1 = (0 : Int32)
  · refine wx_tableIn (off := 43) (0 : Int32) q0 44 dX12_finds_1 (by decide) (by decide) (by decide +kernel) (by decide) ?_
    replace hv := hv.1 q0
    refine wp_aload_n (i := 0) dX12_finds_44 rfl rfl ?_
    refine wp_iconst (v := 1) dX12_finds_45 (by decide) ?_
    obtain ⟨V1, hE, hv⟩ := hv
    refine wz_callV (vs := [.int (1 : Int32)]) (st := []) dX12_finds_46 (k57 hK) rfl k12_417_12 hE rfl (Nat.le_of_ble_eq_true rfl) (Nat.le_of_ble_eq_true rfl) ?_
    change wp _ _ _ _ _ [] _ _ _
    refine wp_iload_n (i := 2) dX12_finds_49 rfl rfl ?_
    refine wp_aload_n (i := 0) dX12_finds_50 rfl rfl ?_
    refine wz_getI dX12_finds_51 (k57 hK) (f12_421 _ (by decide)) rfl ?_
    refine wp_iadd dX12_finds_54 ?_
    obtain ⟨rfl, rfl⟩ := hv
    exact wp_ireturn dX12_finds_55 rfl rfl rfl hq
  by_cases q1 : x1 = (1 : Int32)
  · refine wx_tableIn (off := 55) (1 : Int32) q1 56 dX12_finds_1 (by decide) (by decide) (by decide +kernel) (by decide) ?_
    replace hv := hv.2.1 q1
    refine wp_aload_n (i := 0) dX12_finds_56 rfl rfl ?_
    refine wp_bipush (v := 20) dX12_finds_57 (by decide) ?_
    obtain ⟨V2, hE, hv⟩ := hv
    refine wz_callV (vs := [.int (20 : Int32)]) (st := []) dX12_finds_59 (k57 hK) rfl k12_417_12 hE rfl (Nat.le_of_ble_eq_true rfl) (Nat.le_of_ble_eq_true rfl) ?_
    change wp _ _ _ _ _ [] _ _ _
    refine wp_aload_n (i := 0) dX12_finds_62 rfl rfl ?_
    refine wp_iconst (v := 1) dX12_finds_63 (by decide) ?_
    obtain ⟨v3, hE, hv⟩ := hv
    refine wz_callS (vs := [.int (1 : Int32)]) (st := [.ref 57]) dX12_finds_64 k12_424 hE rfl (Nat.le_of_ble_eq_true rfl) (Nat.le_of_ble_eq_true rfl) ?_
    change wp _ _ _ _ _ [.int v3, .ref 57] _ _ _
    refine wp_iload_n (i := 2) dX12_finds_67 rfl rfl ?_
    obtain ⟨v5, V4, hE, hv⟩ := hv
    refine wz_callV (vs := [.int v3, .int x2]) (st := []) dX12_finds_68 (k57 hK) rfl k12_427_12 hE rfl (Nat.le_of_ble_eq_true rfl) (Nat.le_of_ble_eq_true rfl) ?_
    change wp _ _ _ _ _ [.int v5] _ _ _
    refine wp_aload_n (i := 0) dX12_finds_71 rfl rfl ?_
    refine wz_getR (b := 71) dX12_finds_72 (k57 hK) (f12_50 _ (by decide)) rfl ?_
    refine wp_aload_n (i := 0) dX12_finds_75 rfl rfl ?_
    refine wz_getI dX12_finds_76 (k57 hK) (f12_421 _ (by decide)) rfl ?_
    obtain ⟨z6, hv⟩ := hv
    refine wz_iaload dX12_finds_79 (k71 hK) z6 ?_
    refine wp_iadd dX12_finds_80 ?_
    obtain ⟨rfl, rfl⟩ := hv
    exact wp_ireturn dX12_finds_81 rfl rfl rfl hq
  by_cases q2 : x1 = (2 : Int32)
  · refine wx_tableIn (off := 119) (2 : Int32) q2 120 dX12_finds_1 (by decide) (by decide) (by decide +kernel) (by decide) ?_
    replace hv := hv.2.2.1 q2
    refine wp_aload_n (i := 0) dX12_finds_120 rfl rfl ?_
    refine wp_iload_n (i := 1) dX12_finds_121 rfl rfl ?_
    obtain ⟨v7, hE, hv⟩ := hv
    refine wz_callS (vs := [.int x1]) (st := [.ref 57]) dX12_finds_122 k12_424 hE rfl (Nat.le_of_ble_eq_true rfl) (Nat.le_of_ble_eq_true rfl) ?_
    change wp _ _ _ _ _ [.int v7, .ref 57] _ _ _
    refine wp_iload_n (i := 2) dX12_finds_125 rfl rfl ?_
    obtain ⟨v9, V8, hE, hv⟩ := hv
    refine wz_callV (vs := [.int v7, .int x2]) (st := []) dX12_finds_126 (k57 hK) rfl k12_427_12 hE rfl (Nat.le_of_ble_eq_true rfl) (Nat.le_of_ble_eq_true rfl) ?_
    change wp _ _ _ _ _ [.int v9] _ _ _
    obtain ⟨rfl, rfl⟩ := hv
    exact wp_ireturn dX12_finds_129 rfl rfl rfl hq
  by_cases q3 : x1 = (3 : Int32)
  · refine wx_tableIn (off := 119) (3 : Int32) q3 120 dX12_finds_1 (by decide) (by decide) (by decide +kernel) (by decide) ?_
    replace hv := hv.2.2.2.1 q3
    refine wp_aload_n (i := 0) dX12_finds_120 rfl rfl ?_
    refine wp_iload_n (i := 1) dX12_finds_121 rfl rfl ?_
    obtain ⟨v10, hE, hv⟩ := hv
    refine wz_callS (vs := [.int x1]) (st := [.ref 57]) dX12_finds_122 k12_424 hE rfl (Nat.le_of_ble_eq_true rfl) (Nat.le_of_ble_eq_true rfl) ?_
    change wp _ _ _ _ _ [.int v10, .ref 57] _ _ _
    refine wp_iload_n (i := 2) dX12_finds_125 rfl rfl ?_
    obtain ⟨v12, V11, hE, hv⟩ := hv
    refine wz_callV (vs := [.int v10, .int x2]) (st := []) dX12_finds_126 (k57 hK) rfl k12_427_12 hE rfl (Nat.le_of_ble_eq_true rfl) (Nat.le_of_ble_eq_true rfl) ?_
    change wp _ _ _ _ _ [.int v12] _ _ _
    obtain ⟨rfl, rfl⟩ := hv
    exact wp_ireturn dX12_finds_129 rfl rfl rfl hq
  by_cases q4 : x1 = (4 : Int32)
  · refine wx_tableIn (off := 81) (4 : Int32) q4 82 dX12_finds_1 (by decide) (by decide) (by decide +kernel) (by decide) ?_
    replace hv := hv.2.2.2.2.1 q4
    refine wp_aload_n (i := 0) dX12_finds_82 rfl rfl ?_
    refine wp_bipush (v := 50) dX12_finds_83 (by decide) ?_
    obtain ⟨V13, hE, hv⟩ := hv
    refine wz_callV (vs := [.int (50 : Int32)]) (st := []) dX12_finds_85 (k57 hK) rfl k12_417_12 hE rfl (Nat.le_of_ble_eq_true rfl) (Nat.le_of_ble_eq_true rfl) ?_
    change wp _ _ _ _ _ [] _ _ _
    refine wp_aload_n (i := 0) dX12_finds_88 rfl rfl ?_
    refine wp_iconst (v := 4) dX12_finds_89 (by decide) ?_
    obtain ⟨v14, hE, hv⟩ := hv
    refine wz_callS (vs := [.int (4 : Int32)]) (st := [.ref 57]) dX12_finds_90 k12_424 hE rfl (Nat.le_of_ble_eq_true rfl) (Nat.le_of_ble_eq_true rfl) ?_
    change wp _ _ _ _ _ [.int v14, .ref 57] _ _ _
    refine wp_iload_n (i := 2) dX12_finds_93 rfl rfl ?_
    obtain ⟨v16, V15, hE, hv⟩ := hv
    refine wz_callV (vs := [.int v14, .int x2]) (st := []) dX12_finds_94 (k57 hK) rfl k12_427_12 hE rfl (Nat.le_of_ble_eq_true rfl) (Nat.le_of_ble_eq_true rfl) ?_
    change wp _ _ _ _ _ [.int v16] _ _ _
    refine wp_iconst (v := 3) dX12_finds_97 (by decide) ?_
    refine wp_imul dX12_finds_98 ?_
    obtain ⟨rfl, rfl⟩ := hv
    exact wp_ireturn dX12_finds_99 rfl rfl rfl hq
  by_cases q5 : x1 = (5 : Int32)
  · refine wx_tableIn (off := 119) (5 : Int32) q5 120 dX12_finds_1 (by decide) (by decide) (by decide +kernel) (by decide) ?_
    replace hv := hv.2.2.2.2.2.1 q5
    refine wp_aload_n (i := 0) dX12_finds_120 rfl rfl ?_
    refine wp_iload_n (i := 1) dX12_finds_121 rfl rfl ?_
    obtain ⟨v17, hE, hv⟩ := hv
    refine wz_callS (vs := [.int x1]) (st := [.ref 57]) dX12_finds_122 k12_424 hE rfl (Nat.le_of_ble_eq_true rfl) (Nat.le_of_ble_eq_true rfl) ?_
    change wp _ _ _ _ _ [.int v17, .ref 57] _ _ _
    refine wp_iload_n (i := 2) dX12_finds_125 rfl rfl ?_
    obtain ⟨v19, V18, hE, hv⟩ := hv
    refine wz_callV (vs := [.int v17, .int x2]) (st := []) dX12_finds_126 (k57 hK) rfl k12_427_12 hE rfl (Nat.le_of_ble_eq_true rfl) (Nat.le_of_ble_eq_true rfl) ?_
    change wp _ _ _ _ _ [.int v19] _ _ _
    obtain ⟨rfl, rfl⟩ := hv
    exact wp_ireturn dX12_finds_129 rfl rfl rfl hq
  by_cases q6 : x1 = (6 : Int32)
  · refine wx_tableIn (off := 99) (6 : Int32) q6 100 dX12_finds_1 (by decide) (by decide) (by decide +kernel) (by decide) ?_
    replace hv := hv.2.2.2.2.2.2.1 q6
    refine wp_aload_n (i := 0) dX12_finds_100 rfl rfl ?_
    refine wp_bipush (v := 70) dX12_finds_101 (by decide) ?_
    obtain ⟨V20, hE, hv⟩ := hv
    refine wz_callV (vs := [.int (70 : Int32)]) (st := []) dX12_finds_103 (k57 hK) rfl k12_417_12 hE rfl (Nat.le_of_ble_eq_true rfl) (Nat.le_of_ble_eq_true rfl) ?_
    change wp _ _ _ _ _ [] _ _ _
    refine wp_aload_n (i := 0) dX12_finds_106 rfl rfl ?_
    refine wp_bipush (v := 6) dX12_finds_107 (by decide) ?_
    obtain ⟨v21, hE, hv⟩ := hv
    refine wz_callS (vs := [.int (6 : Int32)]) (st := [.ref 57]) dX12_finds_109 k12_424 hE rfl (Nat.le_of_ble_eq_true rfl) (Nat.le_of_ble_eq_true rfl) ?_
    change wp _ _ _ _ _ [.int v21, .ref 57] _ _ _
    refine wp_iload_n (i := 2) dX12_finds_112 rfl rfl ?_
    refine wp_iconst (v := 1) dX12_finds_113 (by decide) ?_
    refine wp_iadd dX12_finds_114 ?_
    obtain ⟨v23, V22, hE, hv⟩ := hv
    refine wz_callV (vs := [.int v21, .int (x2 + (1 : Int32))]) (st := []) dX12_finds_115 (k57 hK) rfl k12_427_12 hE rfl (Nat.le_of_ble_eq_true rfl) (Nat.le_of_ble_eq_true rfl) ?_
    change wp _ _ _ _ _ [.int v23] _ _ _
    refine wp_ineg dX12_finds_118 ?_
    obtain ⟨rfl, rfl⟩ := hv
    exact wp_ireturn dX12_finds_119 rfl rfl rfl hq
  refine wp_tableOut 120 dX12_finds_1 (by have n0 := lv_neT q0 (show ((0 : Int32)).toInt = 0 by decide); have n1 := lv_neT q1 (show ((1 : Int32)).toInt = 1 by decide); have n2 := lv_neT q2 (show ((2 : Int32)).toInt = 2 by decide); have n3 := lv_neT q3 (show ((3 : Int32)).toInt = 3 by decide); have n4 := lv_neT q4 (show ((4 : Int32)).toInt = 4 by decide); have n5 := lv_neT q5 (show ((5 : Int32)).toInt = 5 by decide); have n6 := lv_neT q6 (show ((6 : Int32)).toInt = 6 by decide); omega) (by decide) ?_
  replace hv := hv.2.2.2.2.2.2.2 ⟨q0, q1, q2, q3, q4, q5, q6⟩
  refine wp_aload_n (i := 0) dX12_finds_120 rfl rfl ?_
  refine wp_iload_n (i := 1) dX12_finds_121 rfl rfl ?_
  obtain ⟨v24, hE, hv⟩ := hv
  refine wz_callS (vs := [.int x1]) (st := [.ref 57]) dX12_finds_122 k12_424 hE rfl (Nat.le_of_ble_eq_true rfl) (Nat.le_of_ble_eq_true rfl) ?_
  change wp _ _ _ _ _ [.int v24, .ref 57] _ _ _
  refine wp_iload_n (i := 2) dX12_finds_125 rfl rfl ?_
  obtain ⟨v26, V25, hE, hv⟩ := hv
  refine wz_callV (vs := [.int v24, .int x2]) (st := []) dX12_finds_126 (k57 hK) rfl k12_427_12 hE rfl (Nat.le_of_ble_eq_true rfl) (Nat.le_of_ble_eq_true rfl) ?_
  change wp _ _ _ _ _ [.int v26] _ _ _
  obtain ⟨rfl, rfl⟩ := hv
  exact wp_ireturn dX12_finds_129 rfl rfl rfl hq
theorem wX12_mends_0 {x1 : Int32} {x2 : Int32} (hK : StK K)  (hv : ((x1 = (0 : Int32) → (∃ (V1 : SV), Ev G d mX12_ranBody 0 [(0, .ref 57), (1, .int (10 : Int32))] (K, n, V, J, O) none (K, n, V1, J, O) ∧ (vp_in (V1 57 52) 10 ∧ (∃ (v4 : Int32) (V3 : SV), Ev G d mX12_finds 0 [(0, .ref 57), (1, .int (V1 70 ((V1 57 52)).toNatClampNeg)), (2, .int x2)] (K, n, V1, J, O) (some (.int v4)) (K, n, V3, J, O) ∧ (r = some (.int (v4 * (2 : Int32))) ∧ V' = V3))))) ∧ (x1 = (2 : Int32) → (∃ (V5 : SV), Ev G d mX12_ranBody 0 [(0, .ref 57), (1, .int (30 : Int32))] (K, n, V, J, O) none (K, n, V5, J, O) ∧ (∃ (v6 : Int32), Ev G d mX12_above 0 [(0, .int (2 : Int32))] (K, n, V5, J, O) (some (.int v6)) (K, n, V5, J, O) ∧ (∃ (v8 : Int32) (V7 : SV), Ev G d mX12_mends 0 [(0, .ref 57), (1, .int v6), (2, .int x2)] (K, n, V5, J, O) (some (.int v8)) (K, n, V7, J, O) ∧ (r = some (.int (v8 - (1 : Int32))) ∧ V' = V7))))) ∧ (x1 = (7 : Int32) → (∃ (V9 : SV), Ev G d mX12_ranBody 0 [(0, .ref 57), (1, .int (80 : Int32))] (K, n, V, J, O) none (K, n, V9, J, O) ∧ (∃ (v10 : Int32), Ev G d mX12_above 0 [(0, .int (7 : Int32))] (K, n, V9, J, O) (some (.int v10)) (K, n, V9, J, O) ∧ (∃ (v12 : Int32) (V11 : SV), Ev G d mX12_mends 0 [(0, .ref 57), (1, .int v10), (2, .int x2)] (K, n, V9, J, O) (some (.int v12)) (K, n, V11, J, O) ∧ (∃ (v13 : Int32), Ev G d mX12_above 0 [(0, .int (7 : Int32))] (K, n, V11, J, O) (some (.int v13)) (K, n, V11, J, O) ∧ (∃ (v15 : Int32) (V14 : SV), Ev G d mX12_finds 0 [(0, .ref 57), (1, .int v13), (2, .int x2)] (K, n, V11, J, O) (some (.int v15)) (K, n, V14, J, O) ∧ (r = some (.int (v12 + v15)) ∧ V' = V14))))))) ∧ ((¬ x1 = (0 : Int32) ∧ ¬ x1 = (2 : Int32) ∧ ¬ x1 = (7 : Int32)) → (∃ (v16 : Int32), Ev G d mX12_above 0 [(0, .int x1)] (K, n, V, J, O) (some (.int v16)) (K, n, V, J, O) ∧ (∃ (v18 : Int32) (V17 : SV), Ev G d mX12_mends 0 [(0, .ref 57), (1, .int v16), (2, .int x2)] (K, n, V, J, O) (some (.int v18)) (K, n, V17, J, O) ∧ (r = some (.int v18) ∧ V' = V17)))))) : Ev G (d + 1) mX12_mends 0 [(0, .ref 57), (1, .int x1), (2, .int x2)] (K, n, V, J, O) r (K, n, V', J, O) := by
  refine Ev.mk fun Q hq => ?_
  refine wp_iload_n (i := 1) dX12_mends_0 rfl rfl ?_
  by_cases q0 : x1 = (0 : Int32)
  · refine wx_lookup (off := 35) (0 : Int32) q0 36 dX12_mends_1 (by decide +kernel) (by decide +kernel) (by decide) ?_
    replace hv := hv.1 q0
    refine wp_aload_n (i := 0) dX12_mends_36 rfl rfl ?_
    refine wp_bipush (v := 10) dX12_mends_37 (by decide) ?_
    obtain ⟨V1, hE, hv⟩ := hv
    refine wz_callV (vs := [.int (10 : Int32)]) (st := []) dX12_mends_39 (k57 hK) rfl k12_417_12 hE rfl (Nat.le_of_ble_eq_true rfl) (Nat.le_of_ble_eq_true rfl) ?_
    change wp _ _ _ _ _ [] _ _ _
    refine wp_aload_n (i := 0) dX12_mends_42 rfl rfl ?_
    refine wp_aload_n (i := 0) dX12_mends_43 rfl rfl ?_
    refine wz_getR (b := 70) dX12_mends_44 (k57 hK) (f12_47 _ (by decide)) rfl ?_
    refine wp_aload_n (i := 0) dX12_mends_47 rfl rfl ?_
    refine wz_getI dX12_mends_48 (k57 hK) (f12_421 _ (by decide)) rfl ?_
    obtain ⟨z2, hv⟩ := hv
    refine wz_iaload dX12_mends_51 (k70 hK) z2 ?_
    refine wp_iload_n (i := 2) dX12_mends_52 rfl rfl ?_
    obtain ⟨v4, V3, hE, hv⟩ := hv
    refine wz_callV (vs := [.int (V1 70 ((V1 57 52)).toNatClampNeg), .int x2]) (st := []) dX12_mends_53 (k57 hK) rfl k12_427_12 hE rfl (Nat.le_of_ble_eq_true rfl) (Nat.le_of_ble_eq_true rfl) ?_
    change wp _ _ _ _ _ [.int v4] _ _ _
    refine wp_iconst (v := 2) dX12_mends_56 (by decide) ?_
    refine wp_imul dX12_mends_57 ?_
    obtain ⟨rfl, rfl⟩ := hv
    exact wp_ireturn dX12_mends_58 rfl rfl rfl hq
  by_cases q1 : x1 = (2 : Int32)
  · refine wx_lookup (off := 58) (2 : Int32) q1 59 dX12_mends_1 (by decide +kernel) (by decide +kernel) (by decide) ?_
    replace hv := hv.2.1 q1
    refine wp_aload_n (i := 0) dX12_mends_59 rfl rfl ?_
    refine wp_bipush (v := 30) dX12_mends_60 (by decide) ?_
    obtain ⟨V5, hE, hv⟩ := hv
    refine wz_callV (vs := [.int (30 : Int32)]) (st := []) dX12_mends_62 (k57 hK) rfl k12_417_12 hE rfl (Nat.le_of_ble_eq_true rfl) (Nat.le_of_ble_eq_true rfl) ?_
    change wp _ _ _ _ _ [] _ _ _
    refine wp_aload_n (i := 0) dX12_mends_65 rfl rfl ?_
    refine wp_iconst (v := 2) dX12_mends_66 (by decide) ?_
    obtain ⟨v6, hE, hv⟩ := hv
    refine wz_callS (vs := [.int (2 : Int32)]) (st := [.ref 57]) dX12_mends_67 k12_424 hE rfl (Nat.le_of_ble_eq_true rfl) (Nat.le_of_ble_eq_true rfl) ?_
    change wp _ _ _ _ _ [.int v6, .ref 57] _ _ _
    refine wp_iload_n (i := 2) dX12_mends_70 rfl rfl ?_
    obtain ⟨v8, V7, hE, hv⟩ := hv
    refine wz_callV (vs := [.int v6, .int x2]) (st := []) dX12_mends_71 (k57 hK) rfl k12_430_12 hE rfl (Nat.le_of_ble_eq_true rfl) (Nat.le_of_ble_eq_true rfl) ?_
    change wp _ _ _ _ _ [.int v8] _ _ _
    refine wp_iconst (v := 1) dX12_mends_74 (by decide) ?_
    refine wp_isub dX12_mends_75 ?_
    obtain ⟨rfl, rfl⟩ := hv
    exact wp_ireturn dX12_mends_76 rfl rfl rfl hq
  by_cases q2 : x1 = (7 : Int32)
  · refine wx_lookup (off := 76) (7 : Int32) q2 77 dX12_mends_1 (by decide +kernel) (by decide +kernel) (by decide) ?_
    replace hv := hv.2.2.1 q2
    refine wp_aload_n (i := 0) dX12_mends_77 rfl rfl ?_
    refine wp_bipush (v := 80) dX12_mends_78 (by decide) ?_
    obtain ⟨V9, hE, hv⟩ := hv
    refine wz_callV (vs := [.int (80 : Int32)]) (st := []) dX12_mends_80 (k57 hK) rfl k12_417_12 hE rfl (Nat.le_of_ble_eq_true rfl) (Nat.le_of_ble_eq_true rfl) ?_
    change wp _ _ _ _ _ [] _ _ _
    refine wp_aload_n (i := 0) dX12_mends_83 rfl rfl ?_
    refine wp_bipush (v := 7) dX12_mends_84 (by decide) ?_
    obtain ⟨v10, hE, hv⟩ := hv
    refine wz_callS (vs := [.int (7 : Int32)]) (st := [.ref 57]) dX12_mends_86 k12_424 hE rfl (Nat.le_of_ble_eq_true rfl) (Nat.le_of_ble_eq_true rfl) ?_
    change wp _ _ _ _ _ [.int v10, .ref 57] _ _ _
    refine wp_iload_n (i := 2) dX12_mends_89 rfl rfl ?_
    obtain ⟨v12, V11, hE, hv⟩ := hv
    refine wz_callV (vs := [.int v10, .int x2]) (st := []) dX12_mends_90 (k57 hK) rfl k12_430_12 hE rfl (Nat.le_of_ble_eq_true rfl) (Nat.le_of_ble_eq_true rfl) ?_
    change wp _ _ _ _ _ [.int v12] _ _ _
    refine wx_istore_n (ls' := [(0, .ref 57), (1, .int x1), (2, .int x2), (3, .int v12)]) (i := 3) dX12_mends_93 rfl (by decide) rfl ?_
    refine wp_iload_n (i := 3) dX12_mends_94 rfl rfl ?_
    refine wp_aload_n (i := 0) dX12_mends_95 rfl rfl ?_
    refine wp_bipush (v := 7) dX12_mends_96 (by decide) ?_
    obtain ⟨v13, hE, hv⟩ := hv
    refine wz_callS (vs := [.int (7 : Int32)]) (st := [.ref 57, .int v12]) dX12_mends_98 k12_424 hE rfl (Nat.le_of_ble_eq_true rfl) (Nat.le_of_ble_eq_true rfl) ?_
    change wp _ _ _ _ _ [.int v13, .ref 57, .int v12] _ _ _
    refine wp_iload_n (i := 2) dX12_mends_101 rfl rfl ?_
    obtain ⟨v15, V14, hE, hv⟩ := hv
    refine wz_callV (vs := [.int v13, .int x2]) (st := [.int v12]) dX12_mends_102 (k57 hK) rfl k12_427_12 hE rfl (Nat.le_of_ble_eq_true rfl) (Nat.le_of_ble_eq_true rfl) ?_
    change wp _ _ _ _ _ [.int v15, .int v12] _ _ _
    refine wp_iadd dX12_mends_105 ?_
    obtain ⟨rfl, rfl⟩ := hv
    exact wp_ireturn dX12_mends_106 rfl rfl rfl hq
  refine wp_lookup (off := 106) 107 dX12_mends_1 (by decide +kernel) (by show Op.lookupswitch.offset [(0, 35), (2, 58), (7, 76)] 106 _ = _; rw [lv_osw q0 (show ((0 : Int32)).toInt = 0 by decide), lv_osw q1 (show ((2 : Int32)).toInt = 2 by decide), lv_osw q2 (show ((7 : Int32)).toInt = 7 by decide)]; try rfl) (by decide) ?_
  replace hv := hv.2.2.2 ⟨q0, q1, q2⟩
  refine wp_aload_n (i := 0) dX12_mends_107 rfl rfl ?_
  refine wp_iload_n (i := 1) dX12_mends_108 rfl rfl ?_
  obtain ⟨v16, hE, hv⟩ := hv
  refine wz_callS (vs := [.int x1]) (st := [.ref 57]) dX12_mends_109 k12_424 hE rfl (Nat.le_of_ble_eq_true rfl) (Nat.le_of_ble_eq_true rfl) ?_
  change wp _ _ _ _ _ [.int v16, .ref 57] _ _ _
  refine wp_iload_n (i := 2) dX12_mends_112 rfl rfl ?_
  obtain ⟨v18, V17, hE, hv⟩ := hv
  refine wz_callV (vs := [.int v16, .int x2]) (st := []) dX12_mends_113 (k57 hK) rfl k12_430_12 hE rfl (Nat.le_of_ble_eq_true rfl) (Nat.le_of_ble_eq_true rfl) ?_
  change wp _ _ _ _ _ [.int v18] _ _ _
  obtain ⟨rfl, rfl⟩ := hv
  exact wp_ireturn dX12_mends_116 rfl rfl rfl hq
theorem wX12_keeps_0 {x1 : Int32} {x2 : Int32} (hK : StK K)  (hv : ((x1 = (0 : Int32) → (∃ (V1 : SV), Ev G d mX12_ranBody 0 [(0, .ref 57), (1, .int (11 : Int32))] (K, n, V, J, O) none (K, n, V1, J, O) ∧ (r = some (.int (x2 ^^^ (V1 57 52))) ∧ V' = V1))) ∧ (x1 = (3 : Int32) → (∃ (V2 : SV), Ev G d mX12_ranBody 0 [(0, .ref 57), (1, .int (40 : Int32))] (K, n, V, J, O) none (K, n, V2, J, O) ∧ (∃ (v3 : Int32), Ev G d mX12_above 0 [(0, .int (3 : Int32))] (K, n, V2, J, O) (some (.int v3)) (K, n, V2, J, O) ∧ (∃ (v5 : Int32) (V4 : SV), Ev G d mX12_keeps 0 [(0, .ref 57), (1, .int v3), (2, .int x2)] (K, n, V2, J, O) (some (.int v5)) (K, n, V4, J, O) ∧ (vp_in (V4 57 52) 10 ∧ (∃ (v8 : Int32) (V7 : SV), Ev G d mX12_finds 0 [(0, .ref 57), (1, .int (V4 70 ((V4 57 52)).toNatClampNeg)), (2, .int (2 : Int32))] (K, n, V4, J, O) (some (.int v8)) (K, n, V7, J, O) ∧ (r = some (.int (v5 + v8)) ∧ V' = V7))))))) ∧ (x1 = (6 : Int32) → (∃ (V9 : SV), Ev G d mX12_ranBody 0 [(0, .ref 57), (1, .int (71 : Int32))] (K, n, V, J, O) none (K, n, V9, J, O) ∧ (∃ (v10 : Int32), Ev G d mX12_above 0 [(0, .int (6 : Int32))] (K, n, V9, J, O) (some (.int v10)) (K, n, V9, J, O) ∧ (∃ (v12 : Int32) (V11 : SV), Ev G d mX12_keeps 0 [(0, .ref 57), (1, .int v10), (2, .int x2)] (K, n, V9, J, O) (some (.int v12)) (K, n, V11, J, O) ∧ (r = some (.int (v12 * (2 : Int32))) ∧ V' = V11))))) ∧ ((¬ x1 = (0 : Int32) ∧ ¬ x1 = (3 : Int32) ∧ ¬ x1 = (6 : Int32)) → (∃ (v13 : Int32), Ev G d mX12_above 0 [(0, .int x1)] (K, n, V, J, O) (some (.int v13)) (K, n, V, J, O) ∧ (∃ (v15 : Int32) (V14 : SV), Ev G d mX12_keeps 0 [(0, .ref 57), (1, .int v13), (2, .int x2)] (K, n, V, J, O) (some (.int v15)) (K, n, V14, J, O) ∧ (r = some (.int v15) ∧ V' = V14)))))) : Ev G (d + 1) mX12_keeps 0 [(0, .ref 57), (1, .int x1), (2, .int x2)] (K, n, V, J, O) r (K, n, V', J, O) := by
  refine Ev.mk fun Q hq => ?_
  refine wp_iload_n (i := 1) dX12_keeps_0 rfl rfl ?_
  by_cases q0 : x1 = (0 : Int32)
  · refine wx_lookup (off := 35) (0 : Int32) q0 36 dX12_keeps_1 (by decide +kernel) (by decide +kernel) (by decide) ?_
    replace hv := hv.1 q0
    refine wp_aload_n (i := 0) dX12_keeps_36 rfl rfl ?_
    refine wp_bipush (v := 11) dX12_keeps_37 (by decide) ?_
    obtain ⟨V1, hE, hv⟩ := hv
    refine wz_callV (vs := [.int (11 : Int32)]) (st := []) dX12_keeps_39 (k57 hK) rfl k12_417_12 hE rfl (Nat.le_of_ble_eq_true rfl) (Nat.le_of_ble_eq_true rfl) ?_
    change wp _ _ _ _ _ [] _ _ _
    refine wp_iload_n (i := 2) dX12_keeps_42 rfl rfl ?_
    refine wp_aload_n (i := 0) dX12_keeps_43 rfl rfl ?_
    refine wz_getI dX12_keeps_44 (k57 hK) (f12_421 _ (by decide)) rfl ?_
    refine wp_ixor dX12_keeps_47 ?_
    obtain ⟨rfl, rfl⟩ := hv
    exact wp_ireturn dX12_keeps_48 rfl rfl rfl hq
  by_cases q1 : x1 = (3 : Int32)
  · refine wx_lookup (off := 48) (3 : Int32) q1 49 dX12_keeps_1 (by decide +kernel) (by decide +kernel) (by decide) ?_
    replace hv := hv.2.1 q1
    refine wp_aload_n (i := 0) dX12_keeps_49 rfl rfl ?_
    refine wp_bipush (v := 40) dX12_keeps_50 (by decide) ?_
    obtain ⟨V2, hE, hv⟩ := hv
    refine wz_callV (vs := [.int (40 : Int32)]) (st := []) dX12_keeps_52 (k57 hK) rfl k12_417_12 hE rfl (Nat.le_of_ble_eq_true rfl) (Nat.le_of_ble_eq_true rfl) ?_
    change wp _ _ _ _ _ [] _ _ _
    refine wp_aload_n (i := 0) dX12_keeps_55 rfl rfl ?_
    refine wp_iconst (v := 3) dX12_keeps_56 (by decide) ?_
    obtain ⟨v3, hE, hv⟩ := hv
    refine wz_callS (vs := [.int (3 : Int32)]) (st := [.ref 57]) dX12_keeps_57 k12_424 hE rfl (Nat.le_of_ble_eq_true rfl) (Nat.le_of_ble_eq_true rfl) ?_
    change wp _ _ _ _ _ [.int v3, .ref 57] _ _ _
    refine wp_iload_n (i := 2) dX12_keeps_60 rfl rfl ?_
    obtain ⟨v5, V4, hE, hv⟩ := hv
    refine wz_callV (vs := [.int v3, .int x2]) (st := []) dX12_keeps_61 (k57 hK) rfl k12_433_12 hE rfl (Nat.le_of_ble_eq_true rfl) (Nat.le_of_ble_eq_true rfl) ?_
    change wp _ _ _ _ _ [.int v5] _ _ _
    refine wx_istore_n (ls' := [(0, .ref 57), (1, .int x1), (2, .int x2), (3, .int v5)]) (i := 3) dX12_keeps_64 rfl (by decide) rfl ?_
    refine wp_iload_n (i := 3) dX12_keeps_65 rfl rfl ?_
    refine wp_aload_n (i := 0) dX12_keeps_66 rfl rfl ?_
    refine wp_aload_n (i := 0) dX12_keeps_67 rfl rfl ?_
    refine wz_getR (b := 70) dX12_keeps_68 (k57 hK) (f12_47 _ (by decide)) rfl ?_
    refine wp_aload_n (i := 0) dX12_keeps_71 rfl rfl ?_
    refine wz_getI dX12_keeps_72 (k57 hK) (f12_421 _ (by decide)) rfl ?_
    obtain ⟨z6, hv⟩ := hv
    refine wz_iaload dX12_keeps_75 (k70 hK) z6 ?_
    refine wp_iconst (v := 2) dX12_keeps_76 (by decide) ?_
    obtain ⟨v8, V7, hE, hv⟩ := hv
    refine wz_callV (vs := [.int (V4 70 ((V4 57 52)).toNatClampNeg), .int (2 : Int32)]) (st := [.int v5]) dX12_keeps_77 (k57 hK) rfl k12_427_12 hE rfl (Nat.le_of_ble_eq_true rfl) (Nat.le_of_ble_eq_true rfl) ?_
    change wp _ _ _ _ _ [.int v8, .int v5] _ _ _
    refine wp_iadd dX12_keeps_80 ?_
    obtain ⟨rfl, rfl⟩ := hv
    exact wp_ireturn dX12_keeps_81 rfl rfl rfl hq
  by_cases q2 : x1 = (6 : Int32)
  · refine wx_lookup (off := 81) (6 : Int32) q2 82 dX12_keeps_1 (by decide +kernel) (by decide +kernel) (by decide) ?_
    replace hv := hv.2.2.1 q2
    refine wp_aload_n (i := 0) dX12_keeps_82 rfl rfl ?_
    refine wp_bipush (v := 71) dX12_keeps_83 (by decide) ?_
    obtain ⟨V9, hE, hv⟩ := hv
    refine wz_callV (vs := [.int (71 : Int32)]) (st := []) dX12_keeps_85 (k57 hK) rfl k12_417_12 hE rfl (Nat.le_of_ble_eq_true rfl) (Nat.le_of_ble_eq_true rfl) ?_
    change wp _ _ _ _ _ [] _ _ _
    refine wp_aload_n (i := 0) dX12_keeps_88 rfl rfl ?_
    refine wp_bipush (v := 6) dX12_keeps_89 (by decide) ?_
    obtain ⟨v10, hE, hv⟩ := hv
    refine wz_callS (vs := [.int (6 : Int32)]) (st := [.ref 57]) dX12_keeps_91 k12_424 hE rfl (Nat.le_of_ble_eq_true rfl) (Nat.le_of_ble_eq_true rfl) ?_
    change wp _ _ _ _ _ [.int v10, .ref 57] _ _ _
    refine wp_iload_n (i := 2) dX12_keeps_94 rfl rfl ?_
    obtain ⟨v12, V11, hE, hv⟩ := hv
    refine wz_callV (vs := [.int v10, .int x2]) (st := []) dX12_keeps_95 (k57 hK) rfl k12_433_12 hE rfl (Nat.le_of_ble_eq_true rfl) (Nat.le_of_ble_eq_true rfl) ?_
    change wp _ _ _ _ _ [.int v12] _ _ _
    refine wp_iconst (v := 2) dX12_keeps_98 (by decide) ?_
    refine wp_imul dX12_keeps_99 ?_
    obtain ⟨rfl, rfl⟩ := hv
    exact wp_ireturn dX12_keeps_100 rfl rfl rfl hq
  refine wp_lookup (off := 100) 101 dX12_keeps_1 (by decide +kernel) (by show Op.lookupswitch.offset [(0, 35), (3, 48), (6, 81)] 100 _ = _; rw [lv_osw q0 (show ((0 : Int32)).toInt = 0 by decide), lv_osw q1 (show ((3 : Int32)).toInt = 3 by decide), lv_osw q2 (show ((6 : Int32)).toInt = 6 by decide)]; try rfl) (by decide) ?_
  replace hv := hv.2.2.2 ⟨q0, q1, q2⟩
  refine wp_aload_n (i := 0) dX12_keeps_101 rfl rfl ?_
  refine wp_iload_n (i := 1) dX12_keeps_102 rfl rfl ?_
  obtain ⟨v13, hE, hv⟩ := hv
  refine wz_callS (vs := [.int x1]) (st := [.ref 57]) dX12_keeps_103 k12_424 hE rfl (Nat.le_of_ble_eq_true rfl) (Nat.le_of_ble_eq_true rfl) ?_
  change wp _ _ _ _ _ [.int v13, .ref 57] _ _ _
  refine wp_iload_n (i := 2) dX12_keeps_106 rfl rfl ?_
  obtain ⟨v15, V14, hE, hv⟩ := hv
  refine wz_callV (vs := [.int v13, .int x2]) (st := []) dX12_keeps_107 (k57 hK) rfl k12_433_12 hE rfl (Nat.le_of_ble_eq_true rfl) (Nat.le_of_ble_eq_true rfl) ?_
  change wp _ _ _ _ _ [.int v15] _ _ _
  obtain ⟨rfl, rfl⟩ := hv
  exact wp_ireturn dX12_keeps_110 rfl rfl rfl hq
theorem wX12_tells_0 {x1 : Int32} {x2 : Int32} (hK : StK K)  (hv : ((x1 = (0 : Int32) → (∃ (V1 : SV), Ev G d mX12_ranBody 0 [(0, .ref 57), (1, .int (2 : Int32))] (K, n, V, J, O) none (K, n, V1, J, O) ∧ (vp_in (V1 57 52) 10 ∧ (∃ (v4 : Int32) (V3 : SV), Ev G d mX12_mends 0 [(0, .ref 57), (1, .int (V1 70 ((V1 57 52)).toNatClampNeg)), (2, .int x2)] (K, n, V1, J, O) (some (.int v4)) (K, n, V3, J, O) ∧ (vp_in (V3 57 52) 10 ∧ (∃ (v7 : Int32) (V6 : SV), Ev G d mX12_keeps 0 [(0, .ref 57), (1, .int (V3 70 ((V3 57 52)).toNatClampNeg)), (2, .int (1 : Int32))] (K, n, V3, J, O) (some (.int v7)) (K, n, V6, J, O) ∧ (r = some (.int (v4 - v7)) ∧ V' = V6))))))) ∧ (x1 = (5 : Int32) → (∃ (V8 : SV), Ev G d mX12_ranBody 0 [(0, .ref 57), (1, .int (60 : Int32))] (K, n, V, J, O) none (K, n, V8, J, O) ∧ (∃ (v9 : Int32), Ev G d mX12_above 0 [(0, .int (5 : Int32))] (K, n, V8, J, O) (some (.int v9)) (K, n, V8, J, O) ∧ (∃ (v11 : Int32) (V10 : SV), Ev G d mX12_tells 0 [(0, .ref 57), (1, .int v9), (2, .int x2)] (K, n, V8, J, O) (some (.int v11)) (K, n, V10, J, O) ∧ (r = some (.int (v11 ^^^ (5 : Int32))) ∧ V' = V10))))) ∧ ((¬ x1 = (0 : Int32) ∧ ¬ x1 = (5 : Int32)) → (∃ (v12 : Int32), Ev G d mX12_above 0 [(0, .int x1)] (K, n, V, J, O) (some (.int v12)) (K, n, V, J, O) ∧ (∃ (v14 : Int32) (V13 : SV), Ev G d mX12_tells 0 [(0, .ref 57), (1, .int v12), (2, .int x2)] (K, n, V, J, O) (some (.int v14)) (K, n, V13, J, O) ∧ (r = some (.int v14) ∧ V' = V13)))))) : Ev G (d + 1) mX12_tells 0 [(0, .ref 57), (1, .int x1), (2, .int x2)] (K, n, V, J, O) r (K, n, V', J, O) := by
  refine Ev.mk fun Q hq => ?_
  refine wp_iload_n (i := 1) dX12_tells_0 rfl rfl ?_
  by_cases q0 : x1 = (0 : Int32)
  · refine wx_lookup (off := 27) (0 : Int32) q0 28 dX12_tells_1 (by decide +kernel) (by decide +kernel) (by decide) ?_
    replace hv := hv.1 q0
    refine wp_aload_n (i := 0) dX12_tells_28 rfl rfl ?_
    refine wp_iconst (v := 2) dX12_tells_29 (by decide) ?_
    obtain ⟨V1, hE, hv⟩ := hv
    refine wz_callV (vs := [.int (2 : Int32)]) (st := []) dX12_tells_30 (k57 hK) rfl k12_417_12 hE rfl (Nat.le_of_ble_eq_true rfl) (Nat.le_of_ble_eq_true rfl) ?_
    change wp _ _ _ _ _ [] _ _ _
    refine wp_aload_n (i := 0) dX12_tells_33 rfl rfl ?_
    refine wp_aload_n (i := 0) dX12_tells_34 rfl rfl ?_
    refine wz_getR (b := 70) dX12_tells_35 (k57 hK) (f12_47 _ (by decide)) rfl ?_
    refine wp_aload_n (i := 0) dX12_tells_38 rfl rfl ?_
    refine wz_getI dX12_tells_39 (k57 hK) (f12_421 _ (by decide)) rfl ?_
    obtain ⟨z2, hv⟩ := hv
    refine wz_iaload dX12_tells_42 (k70 hK) z2 ?_
    refine wp_iload_n (i := 2) dX12_tells_43 rfl rfl ?_
    obtain ⟨v4, V3, hE, hv⟩ := hv
    refine wz_callV (vs := [.int (V1 70 ((V1 57 52)).toNatClampNeg), .int x2]) (st := []) dX12_tells_44 (k57 hK) rfl k12_430_12 hE rfl (Nat.le_of_ble_eq_true rfl) (Nat.le_of_ble_eq_true rfl) ?_
    change wp _ _ _ _ _ [.int v4] _ _ _
    refine wx_istore_n (ls' := [(0, .ref 57), (1, .int x1), (2, .int x2), (3, .int v4)]) (i := 3) dX12_tells_47 rfl (by decide) rfl ?_
    refine wp_iload_n (i := 3) dX12_tells_48 rfl rfl ?_
    refine wp_aload_n (i := 0) dX12_tells_49 rfl rfl ?_
    refine wp_aload_n (i := 0) dX12_tells_50 rfl rfl ?_
    refine wz_getR (b := 70) dX12_tells_51 (k57 hK) (f12_47 _ (by decide)) rfl ?_
    refine wp_aload_n (i := 0) dX12_tells_54 rfl rfl ?_
    refine wz_getI dX12_tells_55 (k57 hK) (f12_421 _ (by decide)) rfl ?_
    obtain ⟨z5, hv⟩ := hv
    refine wz_iaload dX12_tells_58 (k70 hK) z5 ?_
    refine wp_iconst (v := 1) dX12_tells_59 (by decide) ?_
    obtain ⟨v7, V6, hE, hv⟩ := hv
    refine wz_callV (vs := [.int (V3 70 ((V3 57 52)).toNatClampNeg), .int (1 : Int32)]) (st := [.int v4]) dX12_tells_60 (k57 hK) rfl k12_433_12 hE rfl (Nat.le_of_ble_eq_true rfl) (Nat.le_of_ble_eq_true rfl) ?_
    change wp _ _ _ _ _ [.int v7, .int v4] _ _ _
    refine wp_isub dX12_tells_63 ?_
    obtain ⟨rfl, rfl⟩ := hv
    exact wp_ireturn dX12_tells_64 rfl rfl rfl hq
  by_cases q1 : x1 = (5 : Int32)
  · refine wx_lookup (off := 64) (5 : Int32) q1 65 dX12_tells_1 (by decide +kernel) (by decide +kernel) (by decide) ?_
    replace hv := hv.2.1 q1
    refine wp_aload_n (i := 0) dX12_tells_65 rfl rfl ?_
    refine wp_bipush (v := 60) dX12_tells_66 (by decide) ?_
    obtain ⟨V8, hE, hv⟩ := hv
    refine wz_callV (vs := [.int (60 : Int32)]) (st := []) dX12_tells_68 (k57 hK) rfl k12_417_12 hE rfl (Nat.le_of_ble_eq_true rfl) (Nat.le_of_ble_eq_true rfl) ?_
    change wp _ _ _ _ _ [] _ _ _
    refine wp_aload_n (i := 0) dX12_tells_71 rfl rfl ?_
    refine wp_iconst (v := 5) dX12_tells_72 (by decide) ?_
    obtain ⟨v9, hE, hv⟩ := hv
    refine wz_callS (vs := [.int (5 : Int32)]) (st := [.ref 57]) dX12_tells_73 k12_424 hE rfl (Nat.le_of_ble_eq_true rfl) (Nat.le_of_ble_eq_true rfl) ?_
    change wp _ _ _ _ _ [.int v9, .ref 57] _ _ _
    refine wp_iload_n (i := 2) dX12_tells_76 rfl rfl ?_
    obtain ⟨v11, V10, hE, hv⟩ := hv
    refine wz_callV (vs := [.int v9, .int x2]) (st := []) dX12_tells_77 (k57 hK) rfl k12_436_12 hE rfl (Nat.le_of_ble_eq_true rfl) (Nat.le_of_ble_eq_true rfl) ?_
    change wp _ _ _ _ _ [.int v11] _ _ _
    refine wp_iconst (v := 5) dX12_tells_80 (by decide) ?_
    refine wp_ixor dX12_tells_81 ?_
    obtain ⟨rfl, rfl⟩ := hv
    exact wp_ireturn dX12_tells_82 rfl rfl rfl hq
  refine wp_lookup (off := 82) 83 dX12_tells_1 (by decide +kernel) (by show Op.lookupswitch.offset [(0, 27), (5, 64)] 82 _ = _; rw [lv_osw q0 (show ((0 : Int32)).toInt = 0 by decide), lv_osw q1 (show ((5 : Int32)).toInt = 5 by decide)]; try rfl) (by decide) ?_
  replace hv := hv.2.2 ⟨q0, q1⟩
  refine wp_aload_n (i := 0) dX12_tells_83 rfl rfl ?_
  refine wp_iload_n (i := 1) dX12_tells_84 rfl rfl ?_
  obtain ⟨v12, hE, hv⟩ := hv
  refine wz_callS (vs := [.int x1]) (st := [.ref 57]) dX12_tells_85 k12_424 hE rfl (Nat.le_of_ble_eq_true rfl) (Nat.le_of_ble_eq_true rfl) ?_
  change wp _ _ _ _ _ [.int v12, .ref 57] _ _ _
  refine wp_iload_n (i := 2) dX12_tells_88 rfl rfl ?_
  obtain ⟨v14, V13, hE, hv⟩ := hv
  refine wz_callV (vs := [.int v12, .int x2]) (st := []) dX12_tells_89 (k57 hK) rfl k12_436_12 hE rfl (Nat.le_of_ble_eq_true rfl) (Nat.le_of_ble_eq_true rfl) ?_
  change wp _ _ _ _ _ [.int v14] _ _ _
  obtain ⟨rfl, rfl⟩ := hv
  exact wp_ireturn dX12_tells_92 rfl rfl rfl hq
theorem wX12_act_0 {x1 : Int32} {x2 : Int32} {x3 : Int32} (hK : StK K)  (hv : (∃ (v1 : Int32), Ev G d mX12_isStone 0 [(0, .ref 57), (1, .int x1)] (K, n, (up2 V 57 51 (0 : Int32)), J, O) (some (.int v1)) (K, n, (up2 V 57 51 (0 : Int32)), J, O) ∧ ((v1 = 0 → (r = some (.int (0 : Int32)) ∧ V' = (up2 V 57 51 (0 : Int32)))) ∧ (¬ v1 = 0 → (∃ (v2 : Int32), Ev G d mX12_within 0 [(0, .long x2.toInt64), (2, .long (0 : Int64)), (4, .long (3 : Int64))] (K, n, (up2 V 57 51 (0 : Int32)), J, O) (some (.int v2)) (K, n, (up2 V 57 51 (0 : Int32)), J, O) ∧ ((v2 ≠ 0 → ((x2 ≠ 0 → ((x2 ≠ (1 : Int32) → ((x2 ≠ (2 : Int32) → (vp_in x1 10 ∧ (∃ (v5 : Int32) (V4 : SV), Ev G d mX12_tells 0 [(0, .ref 57), (1, .int (V 70 (x1).toNatClampNeg)), (2, .int x3)] (K, n, (up2 (up2 V 57 51 (0 : Int32)) 57 52 x1), J, O) (some (.int v5)) (K, n, V4, J, O) ∧ (r = some (.int v5) ∧ V' = V4)))) ∧ (x2 = (2 : Int32) → (vp_in x1 10 ∧ (∃ (v8 : Int32) (V7 : SV), Ev G d mX12_keeps 0 [(0, .ref 57), (1, .int (V 70 (x1).toNatClampNeg)), (2, .int x3)] (K, n, (up2 (up2 V 57 51 (0 : Int32)) 57 52 x1), J, O) (some (.int v8)) (K, n, V7, J, O) ∧ (r = some (.int v8) ∧ V' = V7)))))) ∧ (x2 = (1 : Int32) → (vp_in x1 10 ∧ (∃ (v11 : Int32) (V10 : SV), Ev G d mX12_mends 0 [(0, .ref 57), (1, .int (V 70 (x1).toNatClampNeg)), (2, .int x3)] (K, n, (up2 (up2 V 57 51 (0 : Int32)) 57 52 x1), J, O) (some (.int v11)) (K, n, V10, J, O) ∧ (r = some (.int v11) ∧ V' = V10)))))) ∧ (x2 = 0 → (vp_in x1 10 ∧ (∃ (v14 : Int32) (V13 : SV), Ev G d mX12_finds 0 [(0, .ref 57), (1, .int (V 70 (x1).toNatClampNeg)), (2, .int x3)] (K, n, (up2 (up2 V 57 51 (0 : Int32)) 57 52 x1), J, O) (some (.int v14)) (K, n, V13, J, O) ∧ (r = some (.int v14) ∧ V' = V13)))))) ∧ (v2 = 0 → (r = some (.int (0 : Int32)) ∧ V' = (up2 V 57 51 (0 : Int32)))))))))) : Ev G (d + 1) mX12_act 0 [(0, .ref 57), (1, .int x1), (2, .int x2), (3, .int x3)] (K, n, V, J, O) r (K, n, V', J, O) := by
  refine Ev.mk fun Q hq => ?_
  refine wp_aload_n (i := 0) dX12_act_0 rfl rfl ?_
  refine wp_iconst (v := 0) dX12_act_1 (by decide) ?_
  refine wz_putI dX12_act_2 (k57 hK) (w12_414 _ (by decide)) rfl ?_
  refine wp_aload_n (i := 0) dX12_act_5 rfl rfl ?_
  refine wp_iload_n (i := 1) dX12_act_6 rfl rfl ?_
  obtain ⟨v1, hE, hv⟩ := hv
  refine wz_callV (vs := [.int x1]) (st := []) dX12_act_7 (k57 hK) rfl k12_302_12 hE rfl (Nat.le_of_ble_eq_true rfl) (Nat.le_of_ble_eq_true rfl) ?_
  change wp _ _ _ _ _ [.int v1] _ _ _
  refine wp_if_eq 25 dX12_act_10 (by decide) (fun q => ?_) (fun q => ?_)
  · replace hv := hv.1 q
    refine wp_iconst (v := 0) dX12_act_25 (by decide) ?_
    obtain ⟨rfl, rfl⟩ := hv
    exact wp_ireturn dX12_act_26 rfl rfl rfl hq
  · replace hv := hv.2 q
    refine wp_iload_n (i := 2) dX12_act_13 rfl rfl ?_
    refine wp_i2l dX12_act_14 ?_
    refine wp_lconst (v := 0) dX12_act_15 (by decide) ?_
    refine wp_ldc2 (v := 3) dX12_act_16 q12_133 ?_
    obtain ⟨v2, hE, hv⟩ := hv
    refine wz_callS (vs := [.long x2.toInt64, .long (0 : Int64), .long (3 : Int64)]) (st := []) dX12_act_19 k12_135 hE rfl (Nat.le_of_ble_eq_true rfl) (Nat.le_of_ble_eq_true rfl) ?_
    change wp _ _ _ _ _ [.int v2] _ _ _
    refine wp_if_ne 27 dX12_act_22 (by decide) (fun q => ?_) (fun q => ?_)
    · replace hv := hv.1 q
      refine wp_aload_n (i := 0) dX12_act_27 rfl rfl ?_
      refine wp_iload_n (i := 1) dX12_act_28 rfl rfl ?_
      refine wz_putI dX12_act_29 (k57 hK) (w12_421 _ (by decide)) rfl ?_
      refine wp_iload_n (i := 2) dX12_act_32 rfl rfl ?_
      refine wp_if_ne 50 dX12_act_33 (by decide) (fun q => ?_) (fun q => ?_)
      · replace hv := hv.1 q
        refine wp_iload_n (i := 2) dX12_act_50 rfl rfl ?_
        refine wp_iconst (v := 1) dX12_act_51 (by decide) ?_
        refine wp_icmp_ne 69 dX12_act_52 (by decide) (fun q => ?_) (fun q => ?_)
        · replace hv := hv.1 q
          refine wp_iload_n (i := 2) dX12_act_69 rfl rfl ?_
          refine wp_iconst (v := 2) dX12_act_70 (by decide) ?_
          refine wp_icmp_ne 88 dX12_act_71 (by decide) (fun q => ?_) (fun q => ?_)
          · replace hv := hv.1 q
            refine wp_aload_n (i := 0) dX12_act_88 rfl rfl ?_
            refine wp_aload_n (i := 0) dX12_act_89 rfl rfl ?_
            refine wz_getR (b := 70) dX12_act_90 (k57 hK) (f12_47 _ (by decide)) rfl ?_
            refine wp_iload_n (i := 1) dX12_act_93 rfl rfl ?_
            obtain ⟨z3, hv⟩ := hv
            refine wz_ialoade (v := (V 70 (x1).toNatClampNeg)) dX12_act_94 (k70 hK) z3 (Eq.trans (up2_a (by decide)) (up2_a (by decide))) ?_
            refine wp_iload_n (i := 3) dX12_act_95 rfl rfl ?_
            obtain ⟨v5, V4, hE, hv⟩ := hv
            refine wz_callV (vs := [.int (V 70 (x1).toNatClampNeg), .int x3]) (st := []) dX12_act_96 (k57 hK) rfl k12_436_12 hE rfl (Nat.le_of_ble_eq_true rfl) (Nat.le_of_ble_eq_true rfl) ?_
            change wp _ _ _ _ _ [.int v5] _ _ _
            obtain ⟨rfl, rfl⟩ := hv
            exact wp_ireturn dX12_act_99 rfl rfl rfl hq
          · replace hv := hv.2 q
            refine wp_aload_n (i := 0) dX12_act_74 rfl rfl ?_
            refine wp_aload_n (i := 0) dX12_act_75 rfl rfl ?_
            refine wz_getR (b := 70) dX12_act_76 (k57 hK) (f12_47 _ (by decide)) rfl ?_
            refine wp_iload_n (i := 1) dX12_act_79 rfl rfl ?_
            obtain ⟨z6, hv⟩ := hv
            refine wz_ialoade (v := (V 70 (x1).toNatClampNeg)) dX12_act_80 (k70 hK) z6 (Eq.trans (up2_a (by decide)) (up2_a (by decide))) ?_
            refine wp_iload_n (i := 3) dX12_act_81 rfl rfl ?_
            obtain ⟨v8, V7, hE, hv⟩ := hv
            refine wz_callV (vs := [.int (V 70 (x1).toNatClampNeg), .int x3]) (st := []) dX12_act_82 (k57 hK) rfl k12_433_12 hE rfl (Nat.le_of_ble_eq_true rfl) (Nat.le_of_ble_eq_true rfl) ?_
            change wp _ _ _ _ _ [.int v8] _ _ _
            refine wp_goto 99 dX12_act_85 (by decide) ?_
            obtain ⟨rfl, rfl⟩ := hv
            exact wp_ireturn dX12_act_99 rfl rfl rfl hq
        · replace hv := hv.2 q
          refine wp_aload_n (i := 0) dX12_act_55 rfl rfl ?_
          refine wp_aload_n (i := 0) dX12_act_56 rfl rfl ?_
          refine wz_getR (b := 70) dX12_act_57 (k57 hK) (f12_47 _ (by decide)) rfl ?_
          refine wp_iload_n (i := 1) dX12_act_60 rfl rfl ?_
          obtain ⟨z9, hv⟩ := hv
          refine wz_ialoade (v := (V 70 (x1).toNatClampNeg)) dX12_act_61 (k70 hK) z9 (Eq.trans (up2_a (by decide)) (up2_a (by decide))) ?_
          refine wp_iload_n (i := 3) dX12_act_62 rfl rfl ?_
          obtain ⟨v11, V10, hE, hv⟩ := hv
          refine wz_callV (vs := [.int (V 70 (x1).toNatClampNeg), .int x3]) (st := []) dX12_act_63 (k57 hK) rfl k12_430_12 hE rfl (Nat.le_of_ble_eq_true rfl) (Nat.le_of_ble_eq_true rfl) ?_
          change wp _ _ _ _ _ [.int v11] _ _ _
          refine wp_goto 99 dX12_act_66 (by decide) ?_
          obtain ⟨rfl, rfl⟩ := hv
          exact wp_ireturn dX12_act_99 rfl rfl rfl hq
      · replace hv := hv.2 q
        refine wp_aload_n (i := 0) dX12_act_36 rfl rfl ?_
        refine wp_aload_n (i := 0) dX12_act_37 rfl rfl ?_
        refine wz_getR (b := 70) dX12_act_38 (k57 hK) (f12_47 _ (by decide)) rfl ?_
        refine wp_iload_n (i := 1) dX12_act_41 rfl rfl ?_
        obtain ⟨z12, hv⟩ := hv
        refine wz_ialoade (v := (V 70 (x1).toNatClampNeg)) dX12_act_42 (k70 hK) z12 (Eq.trans (up2_a (by decide)) (up2_a (by decide))) ?_
        refine wp_iload_n (i := 3) dX12_act_43 rfl rfl ?_
        obtain ⟨v14, V13, hE, hv⟩ := hv
        refine wz_callV (vs := [.int (V 70 (x1).toNatClampNeg), .int x3]) (st := []) dX12_act_44 (k57 hK) rfl k12_427_12 hE rfl (Nat.le_of_ble_eq_true rfl) (Nat.le_of_ble_eq_true rfl) ?_
        change wp _ _ _ _ _ [.int v14] _ _ _
        refine wp_goto 99 dX12_act_47 (by decide) ?_
        obtain ⟨rfl, rfl⟩ := hv
        exact wp_ireturn dX12_act_99 rfl rfl rfl hq
    · replace hv := hv.2 q
      refine wp_iconst (v := 0) dX12_act_25 (by decide) ?_
      obtain ⟨rfl, rfl⟩ := hv
      exact wp_ireturn dX12_act_26 rfl rfl rfl hq
theorem wX12_trace_0 {x1 : Int32} (hK : StK K)  (hv : ((x1 < 0 → r = some (.int (-1 : Int32))) ∧ (¬ x1 < 0 → (((V 57 51) ≤ x1 → r = some (.int (-1 : Int32))) ∧ (¬ (V 57 51) ≤ x1 → (((24 : Int32) ≤ x1 → r = some (.int (-1 : Int32))) ∧ (¬ (24 : Int32) ≤ x1 → (vp_in x1 24 ∧ r = some (.int (V 91 (x1).toNatClampNeg)))))))))) : Ev G d mX12_trace 0 [(0, .ref 57), (1, .int x1)] (K, n, V, J, O) r (K, n, V, J, O) := by
  refine Ev.mk fun Q hq => ?_
  refine wp_iload_n (i := 1) dX12_trace_0 rfl rfl ?_
  refine wp_if_lt 27 dX12_trace_1 (by decide) (fun q => ?_) (fun q => ?_)
  · replace hv := hv.1 q
    refine wp_iconst (v := -1) dX12_trace_27 (by decide) ?_
    obtain rfl := hv
    exact wp_ireturn dX12_trace_28 rfl rfl rfl hq
  · replace hv := hv.2 q
    refine wp_iload_n (i := 1) dX12_trace_4 rfl rfl ?_
    refine wp_aload_n (i := 0) dX12_trace_5 rfl rfl ?_
    refine wz_getI dX12_trace_6 (k57 hK) (f12_414 _ (by decide)) rfl ?_
    refine wp_icmp_ge 27 dX12_trace_9 (by decide) (fun q => ?_) (fun q => ?_)
    · replace hv := hv.1 q
      refine wp_iconst (v := -1) dX12_trace_27 (by decide) ?_
      obtain rfl := hv
      exact wp_ireturn dX12_trace_28 rfl rfl rfl hq
    · replace hv := hv.2 q
      refine wp_iload_n (i := 1) dX12_trace_12 rfl rfl ?_
      refine wp_bipush (v := 24) dX12_trace_13 (by decide) ?_
      refine wp_icmp_ge 27 dX12_trace_15 (by decide) (fun q => ?_) (fun q => ?_)
      · replace hv := hv.1 q
        refine wp_iconst (v := -1) dX12_trace_27 (by decide) ?_
        obtain rfl := hv
        exact wp_ireturn dX12_trace_28 rfl rfl rfl hq
      · replace hv := hv.2 q
        refine wp_aload_n (i := 0) dX12_trace_18 rfl rfl ?_
        refine wz_getR (b := 91) dX12_trace_19 (k57 hK) (f12_114 _ (by decide)) rfl ?_
        refine wp_iload_n (i := 1) dX12_trace_22 rfl rfl ?_
        obtain ⟨z1, hv⟩ := hv
        refine wz_iaload dX12_trace_23 (k91 hK) z1 ?_
        refine wp_goto 28 dX12_trace_24 (by decide) ?_
        obtain rfl := hv
        exact wp_ireturn dX12_trace_28 rfl rfl rfl hq
theorem wX12_isShelf_0 {x0 : Int32} (hK : StK K)  (hv : (∃ (v1 : Int32), Ev G d mX12_within 0 [(0, .long x0.toInt64), (2, .long (0 : Int64)), (4, .long (5 : Int64))] (K, n, V, J, O) (some (.int v1)) (K, n, V, J, O) ∧ ((v1 = 0 ∨ v1 = 1) ∧ r = some (.int v1)))) : Ev G (d + 1) mX12_isShelf 0 [(0, .int x0)] (K, n, V, J, O) r (K, n, V, J, O) := by
  refine Ev.mk fun Q hq => ?_
  refine wp_iload_n (i := 0) dX12_isShelf_0 rfl rfl ?_
  refine wp_i2l dX12_isShelf_1 ?_
  refine wp_lconst (v := 0) dX12_isShelf_2 (by decide) ?_
  refine wp_ldc2 (v := 5) dX12_isShelf_3 q12_439 ?_
  obtain ⟨v1, hE, hv⟩ := hv
  refine wz_callS (vs := [.long x0.toInt64, .long (0 : Int64), .long (5 : Int64)]) (st := []) dX12_isShelf_6 k12_135 hE rfl (Nat.le_of_ble_eq_true rfl) (Nat.le_of_ble_eq_true rfl) ?_
  change wp _ _ _ _ _ [.int v1] _ _ _
  obtain ⟨z, hv⟩ := hv
  obtain rfl := hv
  exact wp_ireturn dX12_isShelf_9 rfl (by rcases z with z | z <;> rw [z] <;> decide) rfl hq
theorem wX12_keep_0 {x1 : Int32} {x2 : Int32} (hK : StK K)  (hv : (∃ (v1 : Int32), Ev G d mX12_isShelf 0 [(0, .int x1)] (K, n, V, J, O) (some (.int v1)) (K, n, V, J, O) ∧ ((v1 = 0 → (r = some (.int (-1 : Int32)) ∧ V' = V)) ∧ (¬ v1 = 0 → ((x2 = (-1 : Int32) → (vp_in x1 6 ∧ (vp_in x1 6 ∧ (r = some (.int (1 : Int32)) ∧ V' = (up2 (up2 V 92 (x1).toNatClampNeg x2) 93 (x1).toNatClampNeg (0 : Int32)))))) ∧ (¬ x2 = (-1 : Int32) → (∃ (v4 : Int32), Ev G d mX12_isStone 0 [(0, .ref 57), (1, .int x2)] (K, n, V, J, O) (some (.int v4)) (K, n, V, J, O) ∧ ((v4 ≠ 0 → (vp_in x1 6 ∧ (vp_in x1 6 ∧ (r = some (.int (1 : Int32)) ∧ V' = (up2 (up2 V 92 (x1).toNatClampNeg x2) 93 (x1).toNatClampNeg (0 : Int32)))))) ∧ (v4 = 0 → (r = some (.int (-1 : Int32)) ∧ V' = V)))))))))) : Ev G (d + 1) mX12_keep 0 [(0, .ref 57), (1, .int x1), (2, .int x2)] (K, n, V, J, O) r (K, n, V', J, O) := by
  refine Ev.mk fun Q hq => ?_
  refine wp_iload_n (i := 1) dX12_keep_0 rfl rfl ?_
  obtain ⟨v1, hE, hv⟩ := hv
  refine wz_callS (vs := [.int x1]) (st := []) dX12_keep_1 k12_441 hE rfl (Nat.le_of_ble_eq_true rfl) (Nat.le_of_ble_eq_true rfl) ?_
  change wp _ _ _ _ _ [.int v1] _ _ _
  refine wp_if_eq 20 dX12_keep_4 (by decide) (fun q => ?_) (fun q => ?_)
  · replace hv := hv.1 q
    refine wp_iconst (v := -1) dX12_keep_20 (by decide) ?_
    obtain ⟨rfl, rfl⟩ := hv
    exact wp_ireturn dX12_keep_21 rfl rfl rfl hq
  · replace hv := hv.2 q
    refine wp_iload_n (i := 2) dX12_keep_7 rfl rfl ?_
    refine wp_iconst (v := -1) dX12_keep_8 (by decide) ?_
    refine wp_icmp_eq 22 dX12_keep_9 (by decide) (fun q => ?_) (fun q => ?_)
    · replace hv := hv.1 q
      refine wp_aload_n (i := 0) dX12_keep_22 rfl rfl ?_
      refine wz_getR (b := 92) dX12_keep_23 (k57 hK) (f12_117 _ (by decide)) rfl ?_
      refine wp_iload_n (i := 1) dX12_keep_26 rfl rfl ?_
      refine wp_iload_n (i := 2) dX12_keep_27 rfl rfl ?_
      obtain ⟨z2, hv⟩ := hv
      refine wz_iastore dX12_keep_28 (k92 hK) z2 ?_
      refine wp_aload_n (i := 0) dX12_keep_29 rfl rfl ?_
      refine wz_getR (b := 93) dX12_keep_30 (k57 hK) (f12_120 _ (by decide)) rfl ?_
      refine wp_iload_n (i := 1) dX12_keep_33 rfl rfl ?_
      refine wp_iconst (v := 0) dX12_keep_34 (by decide) ?_
      obtain ⟨z3, hv⟩ := hv
      refine wz_iastore dX12_keep_35 (k93 hK) z3 ?_
      refine wp_iconst (v := 1) dX12_keep_36 (by decide) ?_
      obtain ⟨rfl, rfl⟩ := hv
      exact wp_ireturn dX12_keep_37 rfl rfl rfl hq
    · replace hv := hv.2 q
      refine wp_aload_n (i := 0) dX12_keep_12 rfl rfl ?_
      refine wp_iload_n (i := 2) dX12_keep_13 rfl rfl ?_
      obtain ⟨v4, hE, hv⟩ := hv
      refine wz_callV (vs := [.int x2]) (st := []) dX12_keep_14 (k57 hK) rfl k12_302_12 hE rfl (Nat.le_of_ble_eq_true rfl) (Nat.le_of_ble_eq_true rfl) ?_
      change wp _ _ _ _ _ [.int v4] _ _ _
      refine wp_if_ne 22 dX12_keep_17 (by decide) (fun q => ?_) (fun q => ?_)
      · replace hv := hv.1 q
        refine wp_aload_n (i := 0) dX12_keep_22 rfl rfl ?_
        refine wz_getR (b := 92) dX12_keep_23 (k57 hK) (f12_117 _ (by decide)) rfl ?_
        refine wp_iload_n (i := 1) dX12_keep_26 rfl rfl ?_
        refine wp_iload_n (i := 2) dX12_keep_27 rfl rfl ?_
        obtain ⟨z5, hv⟩ := hv
        refine wz_iastore dX12_keep_28 (k92 hK) z5 ?_
        refine wp_aload_n (i := 0) dX12_keep_29 rfl rfl ?_
        refine wz_getR (b := 93) dX12_keep_30 (k57 hK) (f12_120 _ (by decide)) rfl ?_
        refine wp_iload_n (i := 1) dX12_keep_33 rfl rfl ?_
        refine wp_iconst (v := 0) dX12_keep_34 (by decide) ?_
        obtain ⟨z6, hv⟩ := hv
        refine wz_iastore dX12_keep_35 (k93 hK) z6 ?_
        refine wp_iconst (v := 1) dX12_keep_36 (by decide) ?_
        obtain ⟨rfl, rfl⟩ := hv
        exact wp_ireturn dX12_keep_37 rfl rfl rfl hq
      · replace hv := hv.2 q
        refine wp_iconst (v := -1) dX12_keep_20 (by decide) ?_
        obtain ⟨rfl, rfl⟩ := hv
        exact wp_ireturn dX12_keep_21 rfl rfl rfl hq
theorem wX12_row_0 {x1 : Int32} {x2 : Int32} {x3 : Int32} (hK : StK K)  (hv : (∃ (v1 : Int32), Ev G d mX12_isShelf 0 [(0, .int x1)] (K, n, V, J, O) (some (.int v1)) (K, n, V, J, O) ∧ ((v1 = 0 → (r = some (.int (-1 : Int32)) ∧ V' = V ∧ J' = J)) ∧ (¬ v1 = 0 → (∃ (v2 : Int32), Ev G d mX12_within 0 [(0, .long x2.toInt64), (2, .long (0 : Int64)), (4, .long (4 : Int64))] (K, n, V, J, O) (some (.int v2)) (K, n, V, J, O) ∧ ((v2 = 0 → (r = some (.int (-1 : Int32)) ∧ V' = V ∧ J' = J)) ∧ (¬ v2 = 0 → ((x3 ≤ (60 : Int32) → ((0 ≤ x3 → (vp_in x1 6 ∧ (vp_in x1 6 ∧ Ev G (d + 1) mX12_row 57 [(0, .ref 57), (1, .int x1), (2, .int x2), (3, .int x3), (4, .int ((60 : Int32) * x1))] (K, n, (up2 (up2 V 92 (x1).toNatClampNeg ((10 : Int32) + x2)) 93 (x1).toNatClampNeg x3), J, O) r (K, n, V', J', O)))) ∧ (¬ 0 ≤ x3 → (r = some (.int (-14 : Int32)) ∧ V' = V ∧ J' = J)))) ∧ (¬ x3 ≤ (60 : Int32) → (r = some (.int (-1 : Int32)) ∧ V' = V ∧ J' = J)))))))))) : Ev G (d + 1) mX12_row 0 [(0, .ref 57), (1, .int x1), (2, .int x2), (3, .int x3)] (K, n, V, J, O) r (K, n, V', J', O) := by
  refine Ev.mk fun Q hq => ?_
  refine wp_iload_n (i := 1) dX12_row_0 rfl rfl ?_
  obtain ⟨v1, hE, hv⟩ := hv
  refine wz_callS (vs := [.int x1]) (st := []) dX12_row_1 k12_441 hE rfl (Nat.le_of_ble_eq_true rfl) (Nat.le_of_ble_eq_true rfl) ?_
  change wp _ _ _ _ _ [.int v1] _ _ _
  refine wp_if_eq 25 dX12_row_4 (by decide) (fun q => ?_) (fun q => ?_)
  · replace hv := hv.1 q
    refine wp_iconst (v := -1) dX12_row_25 (by decide) ?_
    obtain ⟨rfl, rfl, rfl⟩ := hv
    exact wp_ireturn dX12_row_26 rfl rfl rfl hq
  · replace hv := hv.2 q
    refine wp_iload_n (i := 2) dX12_row_7 rfl rfl ?_
    refine wp_i2l dX12_row_8 ?_
    refine wp_lconst (v := 0) dX12_row_9 (by decide) ?_
    refine wp_ldc2 (v := 4) dX12_row_10 q12_166 ?_
    obtain ⟨v2, hE, hv⟩ := hv
    refine wz_callS (vs := [.long x2.toInt64, .long (0 : Int64), .long (4 : Int64)]) (st := []) dX12_row_13 k12_135 hE rfl (Nat.le_of_ble_eq_true rfl) (Nat.le_of_ble_eq_true rfl) ?_
    change wp _ _ _ _ _ [.int v2] _ _ _
    refine wp_if_eq 25 dX12_row_16 (by decide) (fun q => ?_) (fun q => ?_)
    · replace hv := hv.1 q
      refine wp_iconst (v := -1) dX12_row_25 (by decide) ?_
      obtain ⟨rfl, rfl, rfl⟩ := hv
      exact wp_ireturn dX12_row_26 rfl rfl rfl hq
    · replace hv := hv.2 q
      refine wp_iload_n (i := 3) dX12_row_19 rfl rfl ?_
      refine wp_bipush (v := 60) dX12_row_20 (by decide) ?_
      refine wp_icmp_le 27 dX12_row_22 (by decide) (fun q => ?_) (fun q => ?_)
      · replace hv := hv.1 q
        refine wp_iload_n (i := 3) dX12_row_27 rfl rfl ?_
        refine wp_if_ge 34 dX12_row_28 (by decide) (fun q => ?_) (fun q => ?_)
        · replace hv := hv.1 q
          refine wp_aload_n (i := 0) dX12_row_34 rfl rfl ?_
          refine wz_getR (b := 92) dX12_row_35 (k57 hK) (f12_117 _ (by decide)) rfl ?_
          refine wp_iload_n (i := 1) dX12_row_38 rfl rfl ?_
          refine wp_bipush (v := 10) dX12_row_39 (by decide) ?_
          refine wp_iload_n (i := 2) dX12_row_41 rfl rfl ?_
          refine wp_iadd dX12_row_42 ?_
          obtain ⟨z3, hv⟩ := hv
          refine wz_iastore dX12_row_43 (k92 hK) z3 ?_
          refine wp_aload_n (i := 0) dX12_row_44 rfl rfl ?_
          refine wz_getR (b := 93) dX12_row_45 (k57 hK) (f12_120 _ (by decide)) rfl ?_
          refine wp_iload_n (i := 1) dX12_row_48 rfl rfl ?_
          refine wp_iload_n (i := 3) dX12_row_49 rfl rfl ?_
          obtain ⟨z4, hv⟩ := hv
          refine wz_iastore dX12_row_50 (k93 hK) z4 ?_
          refine wp_bipush (v := 60) dX12_row_51 (by decide) ?_
          refine wp_iload_n (i := 1) dX12_row_53 rfl rfl ?_
          refine wp_imul dX12_row_54 ?_
          refine wx_istore (ls' := [(0, .ref 57), (1, .int x1), (2, .int x2), (3, .int x3), (4, .int ((60 : Int32) * x1))]) dX12_row_55 (by decide) rfl ?_
          exact hv Q hq
        · replace hv := hv.2 q
          refine wp_bipush (v := -14) dX12_row_31 (by decide) ?_
          obtain ⟨rfl, rfl, rfl⟩ := hv
          exact wp_ireturn dX12_row_33 rfl rfl rfl hq
      · replace hv := hv.2 q
        refine wp_iconst (v := -1) dX12_row_25 (by decide) ?_
        obtain ⟨rfl, rfl, rfl⟩ := hv
        exact wp_ireturn dX12_row_26 rfl rfl rfl hq
theorem wX12_row_57 {x1 : Int32} {x2 : Int32} {x3 : Int32} {x4 : Int32} (hK : StK K)  (hv : (((((60 : Int32) * x1) + (60 : Int32)) ≤ x4 → (r = some (.int (1 : Int32)) ∧ V' = V ∧ J' = J)) ∧ (¬ (((60 : Int32) * x1) + (60 : Int32)) ≤ x4 → (vp_in x4 360 ∧ Ev G (d + 1) mX12_row 57 [(0, .ref 57), (1, .int x1), (2, .int x2), (3, .int x3), (4, .int (x4 + 1))] (K, n, V, (up2 J 94 (x4).toNatClampNeg (0 : Int64)), O) r (K, n, V', J', O))))) : Ev G (d + 1) mX12_row 57 [(0, .ref 57), (1, .int x1), (2, .int x2), (3, .int x3), (4, .int x4)] (K, n, V, J, O) r (K, n, V', J', O) := by
  refine Ev.mk fun Q hq => ?_
  refine wp_iload dX12_row_57 rfl ?_
  refine wp_bipush (v := 60) dX12_row_59 (by decide) ?_
  refine wp_iload_n (i := 1) dX12_row_61 rfl rfl ?_
  refine wp_imul dX12_row_62 ?_
  refine wp_bipush (v := 60) dX12_row_63 (by decide) ?_
  refine wp_iadd dX12_row_65 ?_
  refine wp_icmp_ge 83 dX12_row_66 (by decide) (fun q => ?_) (fun q => ?_)
  · replace hv := hv.1 q
    refine wp_iconst (v := 1) dX12_row_83 (by decide) ?_
    obtain ⟨rfl, rfl, rfl⟩ := hv
    exact wp_ireturn dX12_row_84 rfl rfl rfl hq
  · replace hv := hv.2 q
    refine wp_aload_n (i := 0) dX12_row_69 rfl rfl ?_
    refine wz_getR (b := 94) dX12_row_70 (k57 hK) (f12_123 _ (by decide)) rfl ?_
    refine wp_iload dX12_row_73 rfl ?_
    refine wp_lconst (v := 0) dX12_row_75 (by decide) ?_
    obtain ⟨z1, hv⟩ := hv
    refine wz_lastore dX12_row_76 (k94 hK) z1 ?_
    refine wx_iinc (v := 1) (ls' := [(0, .ref 57), (1, .int x1), (2, .int x2), (3, .int x3), (4, .int (x4 + 1))]) dX12_row_77 rfl (by decide) (by decide) rfl ?_
    refine wp_goto 57 dX12_row_80 (by decide) ?_
    exact hv Q hq
theorem wX12_refusal_0 {x1 : Int32} {x2 : Int32} (hK : StK K)  (hv : (∃ (v1 : Int32), Ev G d mX12_isShelf 0 [(0, .int x1)] (K, n, V, J, O) (some (.int v1)) (K, n, V, J, O) ∧ ((v1 ≠ 0 → (vp_in x1 6 ∧ ((0 ≤ (V 92 (x1).toNatClampNeg) → (vp_in x1 6 ∧ (((10 : Int32) ≤ (V 92 (x1).toNatClampNeg) → ((x2 < 0 → r = some (.int (-13 : Int32))) ∧ (¬ x2 < 0 → (vp_in x1 6 ∧ (((V 93 (x1).toNatClampNeg) ≤ x2 → r = some (.int (-13 : Int32))) ∧ (¬ (V 93 (x1).toNatClampNeg) ≤ x2 → r = some (.int (0 : Int32)))))))) ∧ (¬ (10 : Int32) ≤ (V 92 (x1).toNatClampNeg) → r = some (.int (-12 : Int32)))))) ∧ (¬ 0 ≤ (V 92 (x1).toNatClampNeg) → r = some (.int (-11 : Int32)))))) ∧ (v1 = 0 → r = some (.int (-1 : Int32)))))) : Ev G (d + 1) mX12_refusal 0 [(0, .ref 57), (1, .int x1), (2, .int x2)] (K, n, V, J, O) r (K, n, V, J, O) := by
  refine Ev.mk fun Q hq => ?_
  refine wp_iload_n (i := 1) dX12_refusal_0 rfl rfl ?_
  obtain ⟨v1, hE, hv⟩ := hv
  refine wz_callS (vs := [.int x1]) (st := []) dX12_refusal_1 k12_441 hE rfl (Nat.le_of_ble_eq_true rfl) (Nat.le_of_ble_eq_true rfl) ?_
  change wp _ _ _ _ _ [.int v1] _ _ _
  refine wp_if_ne 9 dX12_refusal_4 (by decide) (fun q => ?_) (fun q => ?_)
  · replace hv := hv.1 q
    refine wp_aload_n (i := 0) dX12_refusal_9 rfl rfl ?_
    refine wz_getR (b := 92) dX12_refusal_10 (k57 hK) (f12_117 _ (by decide)) rfl ?_
    refine wp_iload_n (i := 1) dX12_refusal_13 rfl rfl ?_
    obtain ⟨z2, hv⟩ := hv
    refine wz_iaload dX12_refusal_14 (k92 hK) z2 ?_
    refine wp_if_ge 21 dX12_refusal_15 (by decide) (fun q => ?_) (fun q => ?_)
    · replace hv := hv.1 q
      refine wp_aload_n (i := 0) dX12_refusal_21 rfl rfl ?_
      refine wz_getR (b := 92) dX12_refusal_22 (k57 hK) (f12_117 _ (by decide)) rfl ?_
      refine wp_iload_n (i := 1) dX12_refusal_25 rfl rfl ?_
      obtain ⟨z3, hv⟩ := hv
      refine wz_iaload dX12_refusal_26 (k92 hK) z3 ?_
      refine wp_bipush (v := 10) dX12_refusal_27 (by decide) ?_
      refine wp_icmp_ge 35 dX12_refusal_29 (by decide) (fun q => ?_) (fun q => ?_)
      · replace hv := hv.1 q
        refine wp_iload_n (i := 2) dX12_refusal_35 rfl rfl ?_
        refine wp_if_lt 53 dX12_refusal_36 (by decide) (fun q => ?_) (fun q => ?_)
        · replace hv := hv.1 q
          refine wp_bipush (v := -13) dX12_refusal_53 (by decide) ?_
          obtain rfl := hv
          exact wp_ireturn dX12_refusal_55 rfl rfl rfl hq
        · replace hv := hv.2 q
          refine wp_iload_n (i := 2) dX12_refusal_39 rfl rfl ?_
          refine wp_aload_n (i := 0) dX12_refusal_40 rfl rfl ?_
          refine wz_getR (b := 93) dX12_refusal_41 (k57 hK) (f12_120 _ (by decide)) rfl ?_
          refine wp_iload_n (i := 1) dX12_refusal_44 rfl rfl ?_
          obtain ⟨z4, hv⟩ := hv
          refine wz_iaload dX12_refusal_45 (k93 hK) z4 ?_
          refine wp_icmp_ge 53 dX12_refusal_46 (by decide) (fun q => ?_) (fun q => ?_)
          · replace hv := hv.1 q
            refine wp_bipush (v := -13) dX12_refusal_53 (by decide) ?_
            obtain rfl := hv
            exact wp_ireturn dX12_refusal_55 rfl rfl rfl hq
          · replace hv := hv.2 q
            refine wp_iconst (v := 0) dX12_refusal_49 (by decide) ?_
            refine wp_goto 55 dX12_refusal_50 (by decide) ?_
            obtain rfl := hv
            exact wp_ireturn dX12_refusal_55 rfl rfl rfl hq
      · replace hv := hv.2 q
        refine wp_bipush (v := -12) dX12_refusal_32 (by decide) ?_
        obtain rfl := hv
        exact wp_ireturn dX12_refusal_34 rfl rfl rfl hq
    · replace hv := hv.2 q
      refine wp_bipush (v := -11) dX12_refusal_18 (by decide) ?_
      obtain rfl := hv
      exact wp_ireturn dX12_refusal_20 rfl rfl rfl hq
  · replace hv := hv.2 q
    refine wp_iconst (v := -1) dX12_refusal_7 (by decide) ?_
    obtain rfl := hv
    exact wp_ireturn dX12_refusal_8 rfl rfl rfl hq
theorem wX12_asSort_0 {x0 : Int32} {l1 : Int64} (hK : StK K)  (hv : ((x0 ≠ 0 → ((x0 ≠ (1 : Int32) → ((x0 ≠ (2 : Int32) → ((x0 ≠ (4 : Int32) → r = some (.long l1)) ∧ (x0 = (4 : Int32) → (((lg_cmp l1 (0 : Int64)) = 0 → r = some (.long (0 : Int64))) ∧ (¬ (lg_cmp l1 (0 : Int64)) = 0 → r = some (.long (1 : Int64))))))) ∧ (x0 = (2 : Int32) → r = some (.long (l1.toInt32).toInt64)))) ∧ (x0 = (1 : Int32) → r = some (.long ((l1.toInt32).toInt16.toInt32).toInt64)))) ∧ (x0 = 0 → r = some (.long ((l1.toInt32).toInt8.toInt32).toInt64)))) : Ev G d mX12_asSort 0 [(0, .int x0), (1, .long l1)] (K, n, V, J, O) r (K, n, V, J, O) := by
  refine Ev.mk fun Q hq => ?_
  refine wp_iload_n (i := 0) dX12_asSort_0 rfl rfl ?_
  refine wp_if_ne 11 dX12_asSort_1 (by decide) (fun q => ?_) (fun q => ?_)
  · replace hv := hv.1 q
    refine wp_iload_n (i := 0) dX12_asSort_11 rfl rfl ?_
    refine wp_iconst (v := 1) dX12_asSort_12 (by decide) ?_
    refine wp_icmp_ne 23 dX12_asSort_13 (by decide) (fun q => ?_) (fun q => ?_)
    · replace hv := hv.1 q
      refine wp_iload_n (i := 0) dX12_asSort_23 rfl rfl ?_
      refine wp_iconst (v := 2) dX12_asSort_24 (by decide) ?_
      refine wp_icmp_ne 34 dX12_asSort_25 (by decide) (fun q => ?_) (fun q => ?_)
      · replace hv := hv.1 q
        refine wp_iload_n (i := 0) dX12_asSort_34 rfl rfl ?_
        refine wp_iconst (v := 4) dX12_asSort_35 (by decide) ?_
        refine wp_icmp_ne 53 dX12_asSort_36 (by decide) (fun q => ?_) (fun q => ?_)
        · replace hv := hv.1 q
          refine wp_lload_n (i := 1) dX12_asSort_53 rfl rfl ?_
          obtain rfl := hv
          exact wp_lreturn dX12_asSort_54 rfl rfl hq
        · replace hv := hv.2 q
          refine wp_lload_n (i := 1) dX12_asSort_39 rfl rfl ?_
          refine wp_lconst (v := 0) dX12_asSort_40 (by decide) ?_
          refine wp_lcmp dX12_asSort_41 ?_
          refine wp_if_eq 49 dX12_asSort_42 (by decide) (fun q => ?_) (fun q => ?_)
          · replace hv := hv.1 q
            refine wp_lconst (v := 0) dX12_asSort_49 (by decide) ?_
            refine wp_goto 54 dX12_asSort_50 (by decide) ?_
            obtain rfl := hv
            exact wp_lreturn dX12_asSort_54 rfl rfl hq
          · replace hv := hv.2 q
            refine wp_lconst (v := 1) dX12_asSort_45 (by decide) ?_
            refine wp_goto 54 dX12_asSort_46 (by decide) ?_
            obtain rfl := hv
            exact wp_lreturn dX12_asSort_54 rfl rfl hq
      · replace hv := hv.2 q
        refine wp_lload_n (i := 1) dX12_asSort_28 rfl rfl ?_
        refine wp_l2i dX12_asSort_29 ?_
        refine wp_i2l dX12_asSort_30 ?_
        refine wp_goto 54 dX12_asSort_31 (by decide) ?_
        obtain rfl := hv
        exact wp_lreturn dX12_asSort_54 rfl rfl hq
    · replace hv := hv.2 q
      refine wp_lload_n (i := 1) dX12_asSort_16 rfl rfl ?_
      refine wp_l2i dX12_asSort_17 ?_
      refine wp_i2s dX12_asSort_18 ?_
      refine wp_i2l dX12_asSort_19 ?_
      refine wp_goto 54 dX12_asSort_20 (by decide) ?_
      obtain rfl := hv
      exact wp_lreturn dX12_asSort_54 rfl rfl hq
  · replace hv := hv.2 q
    refine wp_lload_n (i := 1) dX12_asSort_4 rfl rfl ?_
    refine wp_l2i dX12_asSort_5 ?_
    refine wp_i2b dX12_asSort_6 ?_
    refine wp_i2l dX12_asSort_7 ?_
    refine wp_goto 54 dX12_asSort_8 (by decide) ?_
    obtain rfl := hv
    exact wp_lreturn dX12_asSort_54 rfl rfl hq
theorem wX12_set_0 {x1 : Int32} {x2 : Int32} {l3 : Int64} (hK : StK K)  (hv : (∃ (v1 : Int32), Ev G d mX12_refusal 0 [(0, .ref 57), (1, .int x1), (2, .int x2)] (K, n, V, J, O) (some (.int v1)) (K, n, V, J, O) ∧ ((v1 ≠ 0 → ((v1 ≠ 0 → (r = some (.int v1) ∧ J' = J)) ∧ (v1 = 0 → (r = some (.int (1 : Int32)) ∧ J' = J)))) ∧ (v1 = 0 → (vp_in x1 6 ∧ (∃ (w3 : Int64), Ev G d mX12_asSort 0 [(0, .int ((V 92 (x1).toNatClampNeg) - (10 : Int32))), (1, .long l3)] (K, n, V, J, O) (some (.long w3)) (K, n, V, J, O) ∧ (vp_in (((60 : Int32) * x1) + x2) 360 ∧ ((v1 ≠ 0 → (r = some (.int v1) ∧ J' = (up2 J 94 ((((60 : Int32) * x1) + x2)).toNatClampNeg w3))) ∧ (v1 = 0 → (r = some (.int (1 : Int32)) ∧ J' = (up2 J 94 ((((60 : Int32) * x1) + x2)).toNatClampNeg w3))))))))))) : Ev G (d + 1) mX12_set 0 [(0, .ref 57), (1, .int x1), (2, .int x2), (3, .long l3)] (K, n, V, J, O) r (K, n, V, J', O) := by
  refine Ev.mk fun Q hq => ?_
  refine wp_aload_n (i := 0) dX12_set_0 rfl rfl ?_
  refine wp_iload_n (i := 1) dX12_set_1 rfl rfl ?_
  refine wp_iload_n (i := 2) dX12_set_2 rfl rfl ?_
  obtain ⟨v1, hE, hv⟩ := hv
  refine wz_callV (vs := [.int x1, .int x2]) (st := []) dX12_set_3 (k57 hK) rfl k12_444_12 hE rfl (Nat.le_of_ble_eq_true rfl) (Nat.le_of_ble_eq_true rfl) ?_
  change wp _ _ _ _ _ [.int v1] _ _ _
  refine wx_istore (ls' := [(0, .ref 57), (1, .int x1), (2, .int x2), (3, .long l3), (5, .int v1)]) dX12_set_6 (by decide) rfl ?_
  refine wp_iload dX12_set_8 rfl ?_
  refine wp_if_ne 37 dX12_set_10 (by decide) (fun q => ?_) (fun q => ?_)
  · replace hv := hv.1 q
    refine wp_iload dX12_set_37 rfl ?_
    refine wp_if_ne 46 dX12_set_39 (by decide) (fun q => ?_) (fun q => ?_)
    · replace hv := hv.1 q
      refine wp_iload dX12_set_46 rfl ?_
      obtain ⟨rfl, rfl⟩ := hv
      exact wp_ireturn dX12_set_48 rfl rfl rfl hq
    · replace hv := hv.2 q
      refine wp_iconst (v := 1) dX12_set_42 (by decide) ?_
      refine wp_goto 48 dX12_set_43 (by decide) ?_
      obtain ⟨rfl, rfl⟩ := hv
      exact wp_ireturn dX12_set_48 rfl rfl rfl hq
  · replace hv := hv.2 q
    refine wp_aload_n (i := 0) dX12_set_13 rfl rfl ?_
    refine wz_getR (b := 94) dX12_set_14 (k57 hK) (f12_123 _ (by decide)) rfl ?_
    refine wp_bipush (v := 60) dX12_set_17 (by decide) ?_
    refine wp_iload_n (i := 1) dX12_set_19 rfl rfl ?_
    refine wp_imul dX12_set_20 ?_
    refine wp_iload_n (i := 2) dX12_set_21 rfl rfl ?_
    refine wp_iadd dX12_set_22 ?_
    refine wp_aload_n (i := 0) dX12_set_23 rfl rfl ?_
    refine wz_getR (b := 92) dX12_set_24 (k57 hK) (f12_117 _ (by decide)) rfl ?_
    refine wp_iload_n (i := 1) dX12_set_27 rfl rfl ?_
    obtain ⟨z2, hv⟩ := hv
    refine wz_iaload dX12_set_28 (k92 hK) z2 ?_
    refine wp_bipush (v := 10) dX12_set_29 (by decide) ?_
    refine wp_isub dX12_set_31 ?_
    refine wp_lload_n (i := 3) dX12_set_32 rfl rfl ?_
    obtain ⟨w3, hE, hv⟩ := hv
    refine wz_callS (vs := [.int ((V 92 (x1).toNatClampNeg) - (10 : Int32)), .long l3]) (st := [.int (((60 : Int32) * x1) + x2), .ref 94]) dX12_set_33 k12_447 hE rfl (Nat.le_of_ble_eq_true rfl) (Nat.le_of_ble_eq_true rfl) ?_
    change wp _ _ _ _ _ [.long w3, .int (((60 : Int32) * x1) + x2), .ref 94] _ _ _
    obtain ⟨z4, hv⟩ := hv
    refine wz_lastore dX12_set_36 (k94 hK) z4 ?_
    refine wp_iload dX12_set_37 rfl ?_
    refine wp_if_ne 46 dX12_set_39 (by decide) (fun q => ?_) (fun q => ?_)
    · replace hv := hv.1 q
      refine wp_iload dX12_set_46 rfl ?_
      obtain ⟨rfl, rfl⟩ := hv
      exact wp_ireturn dX12_set_48 rfl rfl rfl hq
    · replace hv := hv.2 q
      refine wp_iconst (v := 1) dX12_set_42 (by decide) ?_
      refine wp_goto 48 dX12_set_43 (by decide) ?_
      obtain ⟨rfl, rfl⟩ := hv
      exact wp_ireturn dX12_set_48 rfl rfl rfl hq
theorem wX12_element_0 {x1 : Int32} {x2 : Int32} (hK : StK K)  (hv : (∃ (v1 : Int32), Ev G d mX12_refusal 0 [(0, .ref 57), (1, .int x1), (2, .int x2)] (K, n, V, J, O) (some (.int v1)) (K, n, V, J, O) ∧ ((v1 = 0 → (vp_in (((60 : Int32) * x1) + x2) 360 ∧ r = some (.long (J 94 ((((60 : Int32) * x1) + x2)).toNatClampNeg)))) ∧ (¬ v1 = 0 → r = some (.long (-9223372036854775808 : Int64)))))) : Ev G (d + 1) mX12_element 0 [(0, .ref 57), (1, .int x1), (2, .int x2)] (K, n, V, J, O) r (K, n, V, J, O) := by
  refine Ev.mk fun Q hq => ?_
  refine wp_aload_n (i := 0) dX12_element_0 rfl rfl ?_
  refine wp_iload_n (i := 1) dX12_element_1 rfl rfl ?_
  refine wp_iload_n (i := 2) dX12_element_2 rfl rfl ?_
  obtain ⟨v1, hE, hv⟩ := hv
  refine wz_callV (vs := [.int x1, .int x2]) (st := []) dX12_element_3 (k57 hK) rfl k12_444_12 hE rfl (Nat.le_of_ble_eq_true rfl) (Nat.le_of_ble_eq_true rfl) ?_
  change wp _ _ _ _ _ [.int v1] _ _ _
  refine wp_if_eq 15 dX12_element_6 (by decide) (fun q => ?_) (fun q => ?_)
  · replace hv := hv.1 q
    refine wp_aload_n (i := 0) dX12_element_15 rfl rfl ?_
    refine wz_getR (b := 94) dX12_element_16 (k57 hK) (f12_123 _ (by decide)) rfl ?_
    refine wp_bipush (v := 60) dX12_element_19 (by decide) ?_
    refine wp_iload_n (i := 1) dX12_element_21 rfl rfl ?_
    refine wp_imul dX12_element_22 ?_
    refine wp_iload_n (i := 2) dX12_element_23 rfl rfl ?_
    refine wp_iadd dX12_element_24 ?_
    obtain ⟨z2, hv⟩ := hv
    refine wz_laload dX12_element_25 (k94 hK) z2 ?_
    obtain rfl := hv
    exact wp_lreturn dX12_element_26 rfl rfl hq
  · replace hv := hv.2 q
    refine wp_ldc2 (v := -9223372036854775808) dX12_element_9 q12_453 ?_
    refine wp_goto 26 dX12_element_12 (by decide) ?_
    obtain rfl := hv
    exact wp_lreturn dX12_element_26 rfl rfl hq
theorem wX12_shift_0 {x1 : Int32} {x2 : Int32} {x3 : Int32} {x4 : Int32} {x5 : Int32} (hK : StK K)  (hv : (∃ (v1 : Int32), Ev G d mX12_isShelf 0 [(0, .int x1)] (K, n, V, J, O) (some (.int v1)) (K, n, V, J, O) ∧ ((v1 = 0 → (r = some (.int (-1 : Int32)) ∧ J' = J)) ∧ (¬ v1 = 0 → (∃ (v2 : Int32), Ev G d mX12_isShelf 0 [(0, .int x3)] (K, n, V, J, O) (some (.int v2)) (K, n, V, J, O) ∧ ((v2 ≠ 0 → (vp_in x1 6 ∧ (((V 92 (x1).toNatClampNeg) < 0 → (r = some (.int (-11 : Int32)) ∧ J' = J)) ∧ (¬ (V 92 (x1).toNatClampNeg) < 0 → (vp_in x3 6 ∧ ((0 ≤ (V 92 (x3).toNatClampNeg) → (vp_in x1 6 ∧ (((V 92 (x1).toNatClampNeg) < (10 : Int32) → (r = some (.int (-12 : Int32)) ∧ J' = J)) ∧ (¬ (V 92 (x1).toNatClampNeg) < (10 : Int32) → (vp_in x1 6 ∧ (vp_in x3 6 ∧ (((V 92 (x1).toNatClampNeg) = (V 92 (x3).toNatClampNeg) → ((x5 < 0 → (r = some (.int (-13 : Int32)) ∧ J' = J)) ∧ (¬ x5 < 0 → ((x2 < 0 → (r = some (.int (-13 : Int32)) ∧ J' = J)) ∧ (¬ x2 < 0 → ((x4 < 0 → (r = some (.int (-13 : Int32)) ∧ J' = J)) ∧ (¬ x4 < 0 → (vp_in x1 6 ∧ ((((V 93 (x1).toNatClampNeg) - x5) < x2 → (r = some (.int (-13 : Int32)) ∧ J' = J)) ∧ (¬ ((V 93 (x1).toNatClampNeg) - x5) < x2 → (vp_in x3 6 ∧ ((x4 ≤ ((V 93 (x3).toNatClampNeg) - x5) → Ev G (d + 1) mX12_shift 113 [(0, .ref 57), (1, .int x1), (2, .int x2), (3, .int x3), (4, .int x4), (5, .int x5), (6, .int (0 : Int32))] (K, n, V, J, O) r (K, n, V, J', O)) ∧ (¬ x4 ≤ ((V 93 (x3).toNatClampNeg) - x5) → (r = some (.int (-13 : Int32)) ∧ J' = J)))))))))))))) ∧ (¬ (V 92 (x1).toNatClampNeg) = (V 92 (x3).toNatClampNeg) → (r = some (.int (-12 : Int32)) ∧ J' = J))))))))) ∧ (¬ 0 ≤ (V 92 (x3).toNatClampNeg) → (r = some (.int (-11 : Int32)) ∧ J' = J)))))))) ∧ (v2 = 0 → (r = some (.int (-1 : Int32)) ∧ J' = J)))))))) : Ev G (d + 1) mX12_shift 0 [(0, .ref 57), (1, .int x1), (2, .int x2), (3, .int x3), (4, .int x4), (5, .int x5)] (K, n, V, J, O) r (K, n, V, J', O) := by
  refine Ev.mk fun Q hq => ?_
  refine wp_iload_n (i := 1) dX12_shift_0 rfl rfl ?_
  obtain ⟨v1, hE, hv⟩ := hv
  refine wz_callS (vs := [.int x1]) (st := []) dX12_shift_1 k12_441 hE rfl (Nat.le_of_ble_eq_true rfl) (Nat.le_of_ble_eq_true rfl) ?_
  change wp _ _ _ _ _ [.int v1] _ _ _
  refine wp_if_eq 14 dX12_shift_4 (by decide) (fun q => ?_) (fun q => ?_)
  · replace hv := hv.1 q
    refine wp_iconst (v := -1) dX12_shift_14 (by decide) ?_
    obtain ⟨rfl, rfl⟩ := hv
    exact wp_ireturn dX12_shift_15 rfl rfl rfl hq
  · replace hv := hv.2 q
    refine wp_iload_n (i := 3) dX12_shift_7 rfl rfl ?_
    obtain ⟨v2, hE, hv⟩ := hv
    refine wz_callS (vs := [.int x3]) (st := []) dX12_shift_8 k12_441 hE rfl (Nat.le_of_ble_eq_true rfl) (Nat.le_of_ble_eq_true rfl) ?_
    change wp _ _ _ _ _ [.int v2] _ _ _
    refine wp_if_ne 16 dX12_shift_11 (by decide) (fun q => ?_) (fun q => ?_)
    · replace hv := hv.1 q
      refine wp_aload_n (i := 0) dX12_shift_16 rfl rfl ?_
      refine wz_getR (b := 92) dX12_shift_17 (k57 hK) (f12_117 _ (by decide)) rfl ?_
      refine wp_iload_n (i := 1) dX12_shift_20 rfl rfl ?_
      obtain ⟨z3, hv⟩ := hv
      refine wz_iaload dX12_shift_21 (k92 hK) z3 ?_
      refine wp_if_lt 34 dX12_shift_22 (by decide) (fun q => ?_) (fun q => ?_)
      · replace hv := hv.1 q
        refine wp_bipush (v := -11) dX12_shift_34 (by decide) ?_
        obtain ⟨rfl, rfl⟩ := hv
        exact wp_ireturn dX12_shift_36 rfl rfl rfl hq
      · replace hv := hv.2 q
        refine wp_aload_n (i := 0) dX12_shift_25 rfl rfl ?_
        refine wz_getR (b := 92) dX12_shift_26 (k57 hK) (f12_117 _ (by decide)) rfl ?_
        refine wp_iload_n (i := 3) dX12_shift_29 rfl rfl ?_
        obtain ⟨z4, hv⟩ := hv
        refine wz_iaload dX12_shift_30 (k92 hK) z4 ?_
        refine wp_if_ge 37 dX12_shift_31 (by decide) (fun q => ?_) (fun q => ?_)
        · replace hv := hv.1 q
          refine wp_aload_n (i := 0) dX12_shift_37 rfl rfl ?_
          refine wz_getR (b := 92) dX12_shift_38 (k57 hK) (f12_117 _ (by decide)) rfl ?_
          refine wp_iload_n (i := 1) dX12_shift_41 rfl rfl ?_
          obtain ⟨z5, hv⟩ := hv
          refine wz_iaload dX12_shift_42 (k92 hK) z5 ?_
          refine wp_bipush (v := 10) dX12_shift_43 (by decide) ?_
          refine wp_icmp_lt 63 dX12_shift_45 (by decide) (fun q => ?_) (fun q => ?_)
          · replace hv := hv.1 q
            refine wp_bipush (v := -12) dX12_shift_63 (by decide) ?_
            obtain ⟨rfl, rfl⟩ := hv
            exact wp_ireturn dX12_shift_65 rfl rfl rfl hq
          · replace hv := hv.2 q
            refine wp_aload_n (i := 0) dX12_shift_48 rfl rfl ?_
            refine wz_getR (b := 92) dX12_shift_49 (k57 hK) (f12_117 _ (by decide)) rfl ?_
            refine wp_iload_n (i := 1) dX12_shift_52 rfl rfl ?_
            obtain ⟨z6, hv⟩ := hv
            refine wz_iaload dX12_shift_53 (k92 hK) z6 ?_
            refine wp_aload_n (i := 0) dX12_shift_54 rfl rfl ?_
            refine wz_getR (b := 92) dX12_shift_55 (k57 hK) (f12_117 _ (by decide)) rfl ?_
            refine wp_iload_n (i := 3) dX12_shift_58 rfl rfl ?_
            obtain ⟨z7, hv⟩ := hv
            refine wz_iaload dX12_shift_59 (k92 hK) z7 ?_
            refine wp_icmp_eq 66 dX12_shift_60 (by decide) (fun q => ?_) (fun q => ?_)
            · replace hv := hv.1 q
              refine wp_iload dX12_shift_66 rfl ?_
              refine wp_if_lt 107 dX12_shift_68 (by decide) (fun q => ?_) (fun q => ?_)
              · replace hv := hv.1 q
                refine wp_bipush (v := -13) dX12_shift_107 (by decide) ?_
                obtain ⟨rfl, rfl⟩ := hv
                exact wp_ireturn dX12_shift_109 rfl rfl rfl hq
              · replace hv := hv.2 q
                refine wp_iload_n (i := 2) dX12_shift_71 rfl rfl ?_
                refine wp_if_lt 107 dX12_shift_72 (by decide) (fun q => ?_) (fun q => ?_)
                · replace hv := hv.1 q
                  refine wp_bipush (v := -13) dX12_shift_107 (by decide) ?_
                  obtain ⟨rfl, rfl⟩ := hv
                  exact wp_ireturn dX12_shift_109 rfl rfl rfl hq
                · replace hv := hv.2 q
                  refine wp_iload dX12_shift_75 rfl ?_
                  refine wp_if_lt 107 dX12_shift_77 (by decide) (fun q => ?_) (fun q => ?_)
                  · replace hv := hv.1 q
                    refine wp_bipush (v := -13) dX12_shift_107 (by decide) ?_
                    obtain ⟨rfl, rfl⟩ := hv
                    exact wp_ireturn dX12_shift_109 rfl rfl rfl hq
                  · replace hv := hv.2 q
                    refine wp_iload_n (i := 2) dX12_shift_80 rfl rfl ?_
                    refine wp_aload_n (i := 0) dX12_shift_81 rfl rfl ?_
                    refine wz_getR (b := 93) dX12_shift_82 (k57 hK) (f12_120 _ (by decide)) rfl ?_
                    refine wp_iload_n (i := 1) dX12_shift_85 rfl rfl ?_
                    obtain ⟨z8, hv⟩ := hv
                    refine wz_iaload dX12_shift_86 (k93 hK) z8 ?_
                    refine wp_iload dX12_shift_87 rfl ?_
                    refine wp_isub dX12_shift_89 ?_
                    refine wp_icmp_gt 107 dX12_shift_90 (by decide) (fun q => ?_) (fun q => ?_)
                    · replace hv := hv.1 q
                      refine wp_bipush (v := -13) dX12_shift_107 (by decide) ?_
                      obtain ⟨rfl, rfl⟩ := hv
                      exact wp_ireturn dX12_shift_109 rfl rfl rfl hq
                    · replace hv := hv.2 q
                      refine wp_iload dX12_shift_93 rfl ?_
                      refine wp_aload_n (i := 0) dX12_shift_95 rfl rfl ?_
                      refine wz_getR (b := 93) dX12_shift_96 (k57 hK) (f12_120 _ (by decide)) rfl ?_
                      refine wp_iload_n (i := 3) dX12_shift_99 rfl rfl ?_
                      obtain ⟨z9, hv⟩ := hv
                      refine wz_iaload dX12_shift_100 (k93 hK) z9 ?_
                      refine wp_iload dX12_shift_101 rfl ?_
                      refine wp_isub dX12_shift_103 ?_
                      refine wp_icmp_le 110 dX12_shift_104 (by decide) (fun q => ?_) (fun q => ?_)
                      · replace hv := hv.1 q
                        refine wp_iconst (v := 0) dX12_shift_110 (by decide) ?_
                        refine wx_istore (ls' := [(0, .ref 57), (1, .int x1), (2, .int x2), (3, .int x3), (4, .int x4), (5, .int x5), (6, .int (0 : Int32))]) dX12_shift_111 (by decide) rfl ?_
                        exact hv Q hq
                      · replace hv := hv.2 q
                        refine wp_bipush (v := -13) dX12_shift_107 (by decide) ?_
                        obtain ⟨rfl, rfl⟩ := hv
                        exact wp_ireturn dX12_shift_109 rfl rfl rfl hq
            · replace hv := hv.2 q
              refine wp_bipush (v := -12) dX12_shift_63 (by decide) ?_
              obtain ⟨rfl, rfl⟩ := hv
              exact wp_ireturn dX12_shift_65 rfl rfl rfl hq
        · replace hv := hv.2 q
          refine wp_bipush (v := -11) dX12_shift_34 (by decide) ?_
          obtain ⟨rfl, rfl⟩ := hv
          exact wp_ireturn dX12_shift_36 rfl rfl rfl hq
    · replace hv := hv.2 q
      refine wp_iconst (v := -1) dX12_shift_14 (by decide) ?_
      obtain ⟨rfl, rfl⟩ := hv
      exact wp_ireturn dX12_shift_15 rfl rfl rfl hq
theorem wX12_shift_113 {x1 : Int32} {x2 : Int32} {x3 : Int32} {x4 : Int32} {x5 : Int32} {x6 : Int32} (hK : StK K)  (hv : ((x5 ≤ x6 → Ev G (d + 1) mX12_shift 150 [(0, .ref 57), (1, .int x1), (2, .int x2), (3, .int x3), (4, .int x4), (5, .int x5), (6, .int (0 : Int32))] (K, n, V, J, O) r (K, n, V, J', O)) ∧ (¬ x5 ≤ x6 → (vp_in ((((60 : Int32) * x1) + x2) + x6) 360 ∧ (vp_in x6 60 ∧ Ev G (d + 1) mX12_shift 113 [(0, .ref 57), (1, .int x1), (2, .int x2), (3, .int x3), (4, .int x4), (5, .int x5), (6, .int (x6 + 1))] (K, n, V, (up2 J 95 (x6).toNatClampNeg (J 94 (((((60 : Int32) * x1) + x2) + x6)).toNatClampNeg)), O) r (K, n, V, J', O)))))) : Ev G (d + 1) mX12_shift 113 [(0, .ref 57), (1, .int x1), (2, .int x2), (3, .int x3), (4, .int x4), (5, .int x5), (6, .int x6)] (K, n, V, J, O) r (K, n, V, J', O) := by
  refine Ev.mk fun Q hq => ?_
  refine wp_iload dX12_shift_113 rfl ?_
  refine wp_iload dX12_shift_115 rfl ?_
  refine wp_icmp_ge 147 dX12_shift_117 (by decide) (fun q => ?_) (fun q => ?_)
  · replace hv := hv.1 q
    refine wp_iconst (v := 0) dX12_shift_147 (by decide) ?_
    refine wx_istore (ls' := [(0, .ref 57), (1, .int x1), (2, .int x2), (3, .int x3), (4, .int x4), (5, .int x5), (6, .int (0 : Int32))]) dX12_shift_148 (by decide) rfl ?_
    exact hv Q hq
  · replace hv := hv.2 q
    refine wp_aload_n (i := 0) dX12_shift_120 rfl rfl ?_
    refine wz_getR (b := 95) dX12_shift_121 (k57 hK) (f12_127 _ (by decide)) rfl ?_
    refine wp_iload dX12_shift_124 rfl ?_
    refine wp_aload_n (i := 0) dX12_shift_126 rfl rfl ?_
    refine wz_getR (b := 94) dX12_shift_127 (k57 hK) (f12_123 _ (by decide)) rfl ?_
    refine wp_bipush (v := 60) dX12_shift_130 (by decide) ?_
    refine wp_iload_n (i := 1) dX12_shift_132 rfl rfl ?_
    refine wp_imul dX12_shift_133 ?_
    refine wp_iload_n (i := 2) dX12_shift_134 rfl rfl ?_
    refine wp_iadd dX12_shift_135 ?_
    refine wp_iload dX12_shift_136 rfl ?_
    refine wp_iadd dX12_shift_138 ?_
    obtain ⟨z1, hv⟩ := hv
    refine wz_laload dX12_shift_139 (k94 hK) z1 ?_
    obtain ⟨z2, hv⟩ := hv
    refine wz_lastore dX12_shift_140 (k95 hK) z2 ?_
    refine wx_iinc (v := 1) (ls' := [(0, .ref 57), (1, .int x1), (2, .int x2), (3, .int x3), (4, .int x4), (5, .int x5), (6, .int (x6 + 1))]) dX12_shift_141 rfl (by decide) (by decide) rfl ?_
    refine wp_goto 113 dX12_shift_144 (by decide) ?_
    exact hv Q hq
theorem wX12_shift_150 {x1 : Int32} {x2 : Int32} {x3 : Int32} {x4 : Int32} {x5 : Int32} {x6 : Int32} (hK : StK K)  (hv : ((x5 ≤ x6 → (r = some (.int x5) ∧ J' = J)) ∧ (¬ x5 ≤ x6 → (vp_in x6 60 ∧ (vp_in ((((60 : Int32) * x3) + x4) + x6) 360 ∧ Ev G (d + 1) mX12_shift 150 [(0, .ref 57), (1, .int x1), (2, .int x2), (3, .int x3), (4, .int x4), (5, .int x5), (6, .int (x6 + 1))] (K, n, V, (up2 J 94 (((((60 : Int32) * x3) + x4) + x6)).toNatClampNeg (J 95 (x6).toNatClampNeg)), O) r (K, n, V, J', O)))))) : Ev G (d + 1) mX12_shift 150 [(0, .ref 57), (1, .int x1), (2, .int x2), (3, .int x3), (4, .int x4), (5, .int x5), (6, .int x6)] (K, n, V, J, O) r (K, n, V, J', O) := by
  refine Ev.mk fun Q hq => ?_
  refine wp_iload dX12_shift_150 rfl ?_
  refine wp_iload dX12_shift_152 rfl ?_
  refine wp_icmp_ge 185 dX12_shift_154 (by decide) (fun q => ?_) (fun q => ?_)
  · replace hv := hv.1 q
    refine wp_iload dX12_shift_185 rfl ?_
    obtain ⟨rfl, rfl⟩ := hv
    exact wp_ireturn dX12_shift_187 rfl rfl rfl hq
  · replace hv := hv.2 q
    refine wp_aload_n (i := 0) dX12_shift_157 rfl rfl ?_
    refine wz_getR (b := 94) dX12_shift_158 (k57 hK) (f12_123 _ (by decide)) rfl ?_
    refine wp_bipush (v := 60) dX12_shift_161 (by decide) ?_
    refine wp_iload_n (i := 3) dX12_shift_163 rfl rfl ?_
    refine wp_imul dX12_shift_164 ?_
    refine wp_iload dX12_shift_165 rfl ?_
    refine wp_iadd dX12_shift_167 ?_
    refine wp_iload dX12_shift_168 rfl ?_
    refine wp_iadd dX12_shift_170 ?_
    refine wp_aload_n (i := 0) dX12_shift_171 rfl rfl ?_
    refine wz_getR (b := 95) dX12_shift_172 (k57 hK) (f12_127 _ (by decide)) rfl ?_
    refine wp_iload dX12_shift_175 rfl ?_
    obtain ⟨z1, hv⟩ := hv
    refine wz_laload dX12_shift_177 (k95 hK) z1 ?_
    obtain ⟨z2, hv⟩ := hv
    refine wz_lastore dX12_shift_178 (k94 hK) z2 ?_
    refine wx_iinc (v := 1) (ls' := [(0, .ref 57), (1, .int x1), (2, .int x2), (3, .int x3), (4, .int x4), (5, .int x5), (6, .int (x6 + 1))]) dX12_shift_179 rfl (by decide) (by decide) rfl ?_
    refine wp_goto 150 dX12_shift_182 (by decide) ?_
    exact hv Q hq
theorem wX12_taken_0 {x1 : Int32} {x2 : Int32} (hK : StK K)  (hv : (∃ (v1 : Int32), Ev G d mX12_isShelf 0 [(0, .int x1)] (K, n, V, J, O) (some (.int v1)) (K, n, V, J, O) ∧ ((v1 = 0 → r = some (.int (-1 : Int32))) ∧ (¬ v1 = 0 → (∃ (v2 : Int32), Ev G d mX12_within 0 [(0, .long x2.toInt64), (2, .long (0 : Int64)), (4, .long (7 : Int64))] (K, n, V, J, O) (some (.int v2)) (K, n, V, J, O) ∧ ((v2 ≠ 0 → (vp_in x1 6 ∧ ((0 ≤ (V 92 (x1).toNatClampNeg) → (vp_in x1 6 ∧ (((V 92 (x1).toNatClampNeg) < (10 : Int32) → (vp_in x1 6 ∧ (vp_in (V 92 (x1).toNatClampNeg) 10 ∧ Ev G (d + 1) mX12_taken 59 [(0, .ref 57), (1, .int x1), (2, .int x2), (3, .int (V 70 ((V 92 (x1).toNatClampNeg)).toNatClampNeg))] (K, n, V, J, O) r (K, n, V, J, O)))) ∧ (¬ (V 92 (x1).toNatClampNeg) < (10 : Int32) → r = some (.int (-12 : Int32)))))) ∧ (¬ 0 ≤ (V 92 (x1).toNatClampNeg) → r = some (.int (-11 : Int32)))))) ∧ (v2 = 0 → r = some (.int (-1 : Int32))))))))) : Ev G (d + 1) mX12_taken 0 [(0, .ref 57), (1, .int x1), (2, .int x2)] (K, n, V, J, O) r (K, n, V, J, O) := by
  refine Ev.mk fun Q hq => ?_
  refine wp_iload_n (i := 1) dX12_taken_0 rfl rfl ?_
  obtain ⟨v1, hE, hv⟩ := hv
  refine wz_callS (vs := [.int x1]) (st := []) dX12_taken_1 k12_441 hE rfl (Nat.le_of_ble_eq_true rfl) (Nat.le_of_ble_eq_true rfl) ?_
  change wp _ _ _ _ _ [.int v1] _ _ _
  refine wp_if_eq 19 dX12_taken_4 (by decide) (fun q => ?_) (fun q => ?_)
  · replace hv := hv.1 q
    refine wp_iconst (v := -1) dX12_taken_19 (by decide) ?_
    obtain rfl := hv
    exact wp_ireturn dX12_taken_20 rfl rfl rfl hq
  · replace hv := hv.2 q
    refine wp_iload_n (i := 2) dX12_taken_7 rfl rfl ?_
    refine wp_i2l dX12_taken_8 ?_
    refine wp_lconst (v := 0) dX12_taken_9 (by decide) ?_
    refine wp_ldc2 (v := 7) dX12_taken_10 q12_300 ?_
    obtain ⟨v2, hE, hv⟩ := hv
    refine wz_callS (vs := [.long x2.toInt64, .long (0 : Int64), .long (7 : Int64)]) (st := []) dX12_taken_13 k12_135 hE rfl (Nat.le_of_ble_eq_true rfl) (Nat.le_of_ble_eq_true rfl) ?_
    change wp _ _ _ _ _ [.int v2] _ _ _
    refine wp_if_ne 21 dX12_taken_16 (by decide) (fun q => ?_) (fun q => ?_)
    · replace hv := hv.1 q
      refine wp_aload_n (i := 0) dX12_taken_21 rfl rfl ?_
      refine wz_getR (b := 92) dX12_taken_22 (k57 hK) (f12_117 _ (by decide)) rfl ?_
      refine wp_iload_n (i := 1) dX12_taken_25 rfl rfl ?_
      obtain ⟨z3, hv⟩ := hv
      refine wz_iaload dX12_taken_26 (k92 hK) z3 ?_
      refine wp_if_ge 33 dX12_taken_27 (by decide) (fun q => ?_) (fun q => ?_)
      · replace hv := hv.1 q
        refine wp_aload_n (i := 0) dX12_taken_33 rfl rfl ?_
        refine wz_getR (b := 92) dX12_taken_34 (k57 hK) (f12_117 _ (by decide)) rfl ?_
        refine wp_iload_n (i := 1) dX12_taken_37 rfl rfl ?_
        obtain ⟨z4, hv⟩ := hv
        refine wz_iaload dX12_taken_38 (k92 hK) z4 ?_
        refine wp_bipush (v := 10) dX12_taken_39 (by decide) ?_
        refine wp_icmp_lt 47 dX12_taken_41 (by decide) (fun q => ?_) (fun q => ?_)
        · replace hv := hv.1 q
          refine wp_aload_n (i := 0) dX12_taken_47 rfl rfl ?_
          refine wz_getR (b := 70) dX12_taken_48 (k57 hK) (f12_47 _ (by decide)) rfl ?_
          refine wp_aload_n (i := 0) dX12_taken_51 rfl rfl ?_
          refine wz_getR (b := 92) dX12_taken_52 (k57 hK) (f12_117 _ (by decide)) rfl ?_
          refine wp_iload_n (i := 1) dX12_taken_55 rfl rfl ?_
          obtain ⟨z5, hv⟩ := hv
          refine wz_iaload dX12_taken_56 (k92 hK) z5 ?_
          obtain ⟨z6, hv⟩ := hv
          refine wz_iaload dX12_taken_57 (k70 hK) z6 ?_
          refine wx_istore_n (ls' := [(0, .ref 57), (1, .int x1), (2, .int x2), (3, .int (V 70 ((V 92 (x1).toNatClampNeg)).toNatClampNeg))]) (i := 3) dX12_taken_58 rfl (by decide) rfl ?_
          exact hv Q hq
        · replace hv := hv.2 q
          refine wp_bipush (v := -12) dX12_taken_44 (by decide) ?_
          obtain rfl := hv
          exact wp_ireturn dX12_taken_46 rfl rfl rfl hq
      · replace hv := hv.2 q
        refine wp_bipush (v := -11) dX12_taken_30 (by decide) ?_
        obtain rfl := hv
        exact wp_ireturn dX12_taken_32 rfl rfl rfl hq
    · replace hv := hv.2 q
      refine wp_iconst (v := -1) dX12_taken_19 (by decide) ?_
      obtain rfl := hv
      exact wp_ireturn dX12_taken_20 rfl rfl rfl hq
theorem wX12_taken_59 {x1 : Int32} {x2 : Int32} {x3 : Int32} (hK : StK K)  (hv : ((x3 = x2 → ((x3 ≠ x2 → r = some (.int (-12 : Int32))) ∧ (x3 = x2 → (vp_in x1 6 ∧ (vp_in (V 92 (x1).toNatClampNeg) 10 ∧ r = some (.int (V 70 ((V 92 (x1).toNatClampNeg)).toNatClampNeg))))))) ∧ (¬ x3 = x2 → ((x3 ≤ 0 → ((x3 ≠ x2 → r = some (.int (-12 : Int32))) ∧ (x3 = x2 → (vp_in x1 6 ∧ (vp_in (V 92 (x1).toNatClampNeg) 10 ∧ r = some (.int (V 70 ((V 92 (x1).toNatClampNeg)).toNatClampNeg))))))) ∧ (¬ x3 ≤ 0 → (∃ (v5 : Int32), Ev G d mX12_above 0 [(0, .int x3)] (K, n, V, J, O) (some (.int v5)) (K, n, V, J, O) ∧ Ev G (d + 1) mX12_taken 59 [(0, .ref 57), (1, .int x1), (2, .int x2), (3, .int v5)] (K, n, V, J, O) r (K, n, V, J, O))))))) : Ev G (d + 1) mX12_taken 59 [(0, .ref 57), (1, .int x1), (2, .int x2), (3, .int x3)] (K, n, V, J, O) r (K, n, V, J, O) := by
  refine Ev.mk fun Q hq => ?_
  refine wp_iload_n (i := 3) dX12_taken_59 rfl rfl ?_
  refine wp_iload_n (i := 2) dX12_taken_60 rfl rfl ?_
  refine wp_icmp_eq 76 dX12_taken_61 (by decide) (fun q => ?_) (fun q => ?_)
  · replace hv := hv.1 q
    refine wp_iload_n (i := 3) dX12_taken_76 rfl rfl ?_
    refine wp_iload_n (i := 2) dX12_taken_77 rfl rfl ?_
    refine wp_icmp_ne 95 dX12_taken_78 (by decide) (fun q => ?_) (fun q => ?_)
    · replace hv := hv.1 q
      refine wp_bipush (v := -12) dX12_taken_95 (by decide) ?_
      obtain rfl := hv
      exact wp_ireturn dX12_taken_97 rfl rfl rfl hq
    · replace hv := hv.2 q
      refine wp_aload_n (i := 0) dX12_taken_81 rfl rfl ?_
      refine wz_getR (b := 70) dX12_taken_82 (k57 hK) (f12_47 _ (by decide)) rfl ?_
      refine wp_aload_n (i := 0) dX12_taken_85 rfl rfl ?_
      refine wz_getR (b := 92) dX12_taken_86 (k57 hK) (f12_117 _ (by decide)) rfl ?_
      refine wp_iload_n (i := 1) dX12_taken_89 rfl rfl ?_
      obtain ⟨z1, hv⟩ := hv
      refine wz_iaload dX12_taken_90 (k92 hK) z1 ?_
      obtain ⟨z2, hv⟩ := hv
      refine wz_iaload dX12_taken_91 (k70 hK) z2 ?_
      refine wp_goto 97 dX12_taken_92 (by decide) ?_
      obtain rfl := hv
      exact wp_ireturn dX12_taken_97 rfl rfl rfl hq
  · replace hv := hv.2 q
    refine wp_iload_n (i := 3) dX12_taken_64 rfl rfl ?_
    refine wp_if_le 76 dX12_taken_65 (by decide) (fun q => ?_) (fun q => ?_)
    · replace hv := hv.1 q
      refine wp_iload_n (i := 3) dX12_taken_76 rfl rfl ?_
      refine wp_iload_n (i := 2) dX12_taken_77 rfl rfl ?_
      refine wp_icmp_ne 95 dX12_taken_78 (by decide) (fun q => ?_) (fun q => ?_)
      · replace hv := hv.1 q
        refine wp_bipush (v := -12) dX12_taken_95 (by decide) ?_
        obtain rfl := hv
        exact wp_ireturn dX12_taken_97 rfl rfl rfl hq
      · replace hv := hv.2 q
        refine wp_aload_n (i := 0) dX12_taken_81 rfl rfl ?_
        refine wz_getR (b := 70) dX12_taken_82 (k57 hK) (f12_47 _ (by decide)) rfl ?_
        refine wp_aload_n (i := 0) dX12_taken_85 rfl rfl ?_
        refine wz_getR (b := 92) dX12_taken_86 (k57 hK) (f12_117 _ (by decide)) rfl ?_
        refine wp_iload_n (i := 1) dX12_taken_89 rfl rfl ?_
        obtain ⟨z3, hv⟩ := hv
        refine wz_iaload dX12_taken_90 (k92 hK) z3 ?_
        obtain ⟨z4, hv⟩ := hv
        refine wz_iaload dX12_taken_91 (k70 hK) z4 ?_
        refine wp_goto 97 dX12_taken_92 (by decide) ?_
        obtain rfl := hv
        exact wp_ireturn dX12_taken_97 rfl rfl rfl hq
    · replace hv := hv.2 q
      refine wp_iload_n (i := 3) dX12_taken_68 rfl rfl ?_
      obtain ⟨v5, hE, hv⟩ := hv
      refine wz_callS (vs := [.int x3]) (st := []) dX12_taken_69 k12_424 hE rfl (Nat.le_of_ble_eq_true rfl) (Nat.le_of_ble_eq_true rfl) ?_
      change wp _ _ _ _ _ [.int v5] _ _ _
      refine wx_istore_n (ls' := [(0, .ref 57), (1, .int x1), (2, .int x2), (3, .int v5)]) (i := 3) dX12_taken_72 rfl (by decide) rfl ?_
      refine wp_goto 59 dX12_taken_73 (by decide) ?_
      exact hv Q hq
theorem wX12_things_0 {x1 : Int32} {x2 : Int32} {x3 : Int32} (hK : StK K)  (hv : (∃ (v1 : Int32), Ev G d mX12_isShelf 0 [(0, .int x1)] (K, n, V, J, O) (some (.int v1)) (K, n, V, J, O) ∧ ((v1 = 0 → (r = some (.int (-1 : Int32)) ∧ V' = V)) ∧ (¬ v1 = 0 → (∃ (v2 : Int32), Ev G d mX12_within 0 [(0, .long x3.toInt64), (2, .long (1 : Int64)), (4, .long (15 : Int64))] (K, n, V, J, O) (some (.int v2)) (K, n, V, J, O) ∧ ((v2 ≠ 0 → (vp_in x1 6 ∧ (((V 92 (x1).toNatClampNeg) = (-1 : Int32) → Ev G (d + 1) mX12_things 45 [(0, .ref 57), (1, .int x1), (2, .int x2), (3, .int x3)] (K, n, V, J, O) r (K, n, V', J, O)) ∧ (¬ (V 92 (x1).toNatClampNeg) = (-1 : Int32) → (vp_in x1 6 ∧ (((V 92 (x1).toNatClampNeg) = (10 : Int32) → Ev G (d + 1) mX12_things 45 [(0, .ref 57), (1, .int x1), (2, .int x2), (3, .int x3)] (K, n, V, J, O) r (K, n, V', J, O)) ∧ (¬ (V 92 (x1).toNatClampNeg) = (10 : Int32) → (r = some (.int (-12 : Int32)) ∧ V' = V)))))))) ∧ (v2 = 0 → (r = some (.int (-1 : Int32)) ∧ V' = V)))))))) : Ev G (d + 1) mX12_things 0 [(0, .ref 57), (1, .int x1), (2, .int x2), (3, .int x3)] (K, n, V, J, O) r (K, n, V', J, O) := by
  refine Ev.mk fun Q hq => ?_
  refine wp_iload_n (i := 1) dX12_things_0 rfl rfl ?_
  obtain ⟨v1, hE, hv⟩ := hv
  refine wz_callS (vs := [.int x1]) (st := []) dX12_things_1 k12_441 hE rfl (Nat.le_of_ble_eq_true rfl) (Nat.le_of_ble_eq_true rfl) ?_
  change wp _ _ _ _ _ [.int v1] _ _ _
  refine wp_if_eq 19 dX12_things_4 (by decide) (fun q => ?_) (fun q => ?_)
  · replace hv := hv.1 q
    refine wp_iconst (v := -1) dX12_things_19 (by decide) ?_
    obtain ⟨rfl, rfl⟩ := hv
    exact wp_ireturn dX12_things_20 rfl rfl rfl hq
  · replace hv := hv.2 q
    refine wp_iload_n (i := 3) dX12_things_7 rfl rfl ?_
    refine wp_i2l dX12_things_8 ?_
    refine wp_lconst (v := 1) dX12_things_9 (by decide) ?_
    refine wp_ldc2 (v := 15) dX12_things_10 q12_455 ?_
    obtain ⟨v2, hE, hv⟩ := hv
    refine wz_callS (vs := [.long x3.toInt64, .long (1 : Int64), .long (15 : Int64)]) (st := []) dX12_things_13 k12_135 hE rfl (Nat.le_of_ble_eq_true rfl) (Nat.le_of_ble_eq_true rfl) ?_
    change wp _ _ _ _ _ [.int v2] _ _ _
    refine wp_if_ne 21 dX12_things_16 (by decide) (fun q => ?_) (fun q => ?_)
    · replace hv := hv.1 q
      refine wp_aload_n (i := 0) dX12_things_21 rfl rfl ?_
      refine wz_getR (b := 92) dX12_things_22 (k57 hK) (f12_117 _ (by decide)) rfl ?_
      refine wp_iload_n (i := 1) dX12_things_25 rfl rfl ?_
      obtain ⟨z3, hv⟩ := hv
      refine wz_iaload dX12_things_26 (k92 hK) z3 ?_
      refine wp_iconst (v := -1) dX12_things_27 (by decide) ?_
      refine wp_icmp_eq 45 dX12_things_28 (by decide) (fun q => ?_) (fun q => ?_)
      · replace hv := hv.1 q
        exact hv Q hq
      · replace hv := hv.2 q
        refine wp_aload_n (i := 0) dX12_things_31 rfl rfl ?_
        refine wz_getR (b := 92) dX12_things_32 (k57 hK) (f12_117 _ (by decide)) rfl ?_
        refine wp_iload_n (i := 1) dX12_things_35 rfl rfl ?_
        obtain ⟨z4, hv⟩ := hv
        refine wz_iaload dX12_things_36 (k92 hK) z4 ?_
        refine wp_bipush (v := 10) dX12_things_37 (by decide) ?_
        refine wp_icmp_eq 45 dX12_things_39 (by decide) (fun q => ?_) (fun q => ?_)
        · replace hv := hv.1 q
          exact hv Q hq
        · replace hv := hv.2 q
          refine wp_bipush (v := -12) dX12_things_42 (by decide) ?_
          obtain ⟨rfl, rfl⟩ := hv
          exact wp_ireturn dX12_things_44 rfl rfl rfl hq
    · replace hv := hv.2 q
      refine wp_iconst (v := -1) dX12_things_19 (by decide) ?_
      obtain ⟨rfl, rfl⟩ := hv
      exact wp_ireturn dX12_things_20 rfl rfl rfl hq
theorem wX12_things_45 {x1 : Int32} {x2 : Int32} {x3 : Int32} (hK : StK K)  (hv : (vp_in x1 6 ∧ (((V 92 (x1).toNatClampNeg) = (-1 : Int32) → Ev G (d + 1) mX12_things 65 [(0, .ref 57), (1, .int x1), (2, .int x2), (3, .int x3), (4, .int (0 : Int32)), (5, .int (0 : Int32))] (K, n, V, J, O) r (K, n, V', J, O)) ∧ (¬ (V 92 (x1).toNatClampNeg) = (-1 : Int32) → Ev G (d + 1) mX12_things 65 [(0, .ref 57), (1, .int x1), (2, .int x2), (3, .int x3), (4, .int (0 : Int32)), (5, .int (1 : Int32))] (K, n, V, J, O) r (K, n, V', J, O))))) : Ev G (d + 1) mX12_things 45 [(0, .ref 57), (1, .int x1), (2, .int x2), (3, .int x3)] (K, n, V, J, O) r (K, n, V', J, O) := by
  refine Ev.mk fun Q hq => ?_
  refine wp_iconst (v := 0) dX12_things_45 (by decide) ?_
  refine wx_istore (ls' := [(0, .ref 57), (1, .int x1), (2, .int x2), (3, .int x3), (4, .int (0 : Int32))]) dX12_things_46 (by decide) rfl ?_
  refine wp_aload_n (i := 0) dX12_things_48 rfl rfl ?_
  refine wz_getR (b := 92) dX12_things_49 (k57 hK) (f12_117 _ (by decide)) rfl ?_
  refine wp_iload_n (i := 1) dX12_things_52 rfl rfl ?_
  obtain ⟨z1, hv⟩ := hv
  refine wz_iaload dX12_things_53 (k92 hK) z1 ?_
  refine wp_iconst (v := -1) dX12_things_54 (by decide) ?_
  refine wp_icmp_eq 62 dX12_things_55 (by decide) (fun q => ?_) (fun q => ?_)
  · replace hv := hv.1 q
    refine wp_iconst (v := 0) dX12_things_62 (by decide) ?_
    refine wx_istore (ls' := [(0, .ref 57), (1, .int x1), (2, .int x2), (3, .int x3), (4, .int (0 : Int32)), (5, .int (0 : Int32))]) dX12_things_63 (by decide) rfl ?_
    exact hv Q hq
  · replace hv := hv.2 q
    refine wp_iconst (v := 1) dX12_things_58 (by decide) ?_
    refine wp_goto 63 dX12_things_59 (by decide) ?_
    refine wx_istore (ls' := [(0, .ref 57), (1, .int x1), (2, .int x2), (3, .int x3), (4, .int (0 : Int32)), (5, .int (1 : Int32))]) dX12_things_63 (by decide) rfl ?_
    exact hv Q hq
theorem wX12_things_65 {x1 : Int32} {x2 : Int32} {x3 : Int32} {x4 : Int32} {x5 : Int32} (hK : StK K)  (hv : ((x5 = 0 → (r = some (.int x4) ∧ V' = V)) ∧ (¬ x5 = 0 → ((x3 ≤ x4 → (r = some (.int x4) ∧ V' = V)) ∧ (¬ x3 ≤ x4 → (((lg_cmp ((x2.toInt64) + ((4 : Int64) * (x4.toInt64))) (0 : Int64)) < 0 → Ev G (d + 1) mX12_things 116 [(0, .ref 57), (1, .int x1), (2, .int x2), (3, .int x3), (4, .int x4), (5, .int x5), (6, .long ((x2.toInt64) + ((4 : Int64) * (x4.toInt64))))] (K, n, V, J, O) r (K, n, V', J, O)) ∧ (¬ (lg_cmp ((x2.toInt64) + ((4 : Int64) * (x4.toInt64))) (0 : Int64)) < 0 → (vp_in x1 6 ∧ ((0 ≤ (lg_cmp (((x2.toInt64) + ((4 : Int64) * (x4.toInt64))) + (3 : Int64)) ((V 93 (x1).toNatClampNeg).toInt64)) → Ev G (d + 1) mX12_things 116 [(0, .ref 57), (1, .int x1), (2, .int x2), (3, .int x3), (4, .int x4), (5, .int x5), (6, .long ((x2.toInt64) + ((4 : Int64) * (x4.toInt64))))] (K, n, V, J, O) r (K, n, V', J, O)) ∧ (¬ 0 ≤ (lg_cmp (((x2.toInt64) + ((4 : Int64) * (x4.toInt64))) + (3 : Int64)) ((V 93 (x1).toNatClampNeg).toInt64)) → (vp_in (((60 : Int32) * x1) + (((x2.toInt64) + ((4 : Int64) * (x4.toInt64))).toInt32)) 360 ∧ (vp_in ((((60 : Int32) * x1) + (((x2.toInt64) + ((4 : Int64) * (x4.toInt64))).toInt32)) + (1 : Int32)) 360 ∧ (vp_in ((((60 : Int32) * x1) + (((x2.toInt64) + ((4 : Int64) * (x4.toInt64))).toInt32)) + (2 : Int32)) 360 ∧ (vp_in ((((60 : Int32) * x1) + (((x2.toInt64) + ((4 : Int64) * (x4.toInt64))).toInt32)) + (3 : Int32)) 360 ∧ (∃ (v7 : Int32) (V6 : SV), Ev G d mX12_put 0 [(0, .ref 57), (1, .int (J 94 ((((60 : Int32) * x1) + (((x2.toInt64) + ((4 : Int64) * (x4.toInt64))).toInt32))).toNatClampNeg).toInt32), (2, .int (J 94 (((((60 : Int32) * x1) + (((x2.toInt64) + ((4 : Int64) * (x4.toInt64))).toInt32)) + (1 : Int32))).toNatClampNeg).toInt32), (3, .int (J 94 (((((60 : Int32) * x1) + (((x2.toInt64) + ((4 : Int64) * (x4.toInt64))).toInt32)) + (2 : Int32))).toNatClampNeg).toInt32), (4, .int (J 94 (((((60 : Int32) * x1) + (((x2.toInt64) + ((4 : Int64) * (x4.toInt64))).toInt32)) + (3 : Int32))).toNatClampNeg).toInt32)] (K, n, V, J, O) (some (.int v7)) (K, n, V6, J, O) ∧ ((v7 < 0 → Ev G (d + 1) mX12_things 201 [(0, .ref 57), (1, .int x1), (2, .int x2), (3, .int x3), (4, .int (x4 + (0 : Int32))), (5, .int (0 : Int32)), (6, .long ((x2.toInt64) + ((4 : Int64) * (x4.toInt64))))] (K, n, V6, J, O) r (K, n, V', J, O)) ∧ (¬ v7 < 0 → Ev G (d + 1) mX12_things 201 [(0, .ref 57), (1, .int x1), (2, .int x2), (3, .int x3), (4, .int (x4 + (1 : Int32))), (5, .int (1 : Int32)), (6, .long ((x2.toInt64) + ((4 : Int64) * (x4.toInt64))))] (K, n, V6, J, O) r (K, n, V', J, O)))))))))))))))))) : Ev G (d + 1) mX12_things 65 [(0, .ref 57), (1, .int x1), (2, .int x2), (3, .int x3), (4, .int x4), (5, .int x5)] (K, n, V, J, O) r (K, n, V', J, O) := by
  refine Ev.mk fun Q hq => ?_
  refine wp_iload dX12_things_65 rfl ?_
  refine wp_if_eq 204 dX12_things_67 (by decide) (fun q => ?_) (fun q => ?_)
  · replace hv := hv.1 q
    refine wp_iload dX12_things_204 rfl ?_
    obtain ⟨rfl, rfl⟩ := hv
    exact wp_ireturn dX12_things_206 rfl rfl rfl hq
  · replace hv := hv.2 q
    refine wp_iload dX12_things_70 rfl ?_
    refine wp_iload_n (i := 3) dX12_things_72 rfl rfl ?_
    refine wp_icmp_ge 204 dX12_things_73 (by decide) (fun q => ?_) (fun q => ?_)
    · replace hv := hv.1 q
      refine wp_iload dX12_things_204 rfl ?_
      obtain ⟨rfl, rfl⟩ := hv
      exact wp_ireturn dX12_things_206 rfl rfl rfl hq
    · replace hv := hv.2 q
      refine wp_iload_n (i := 2) dX12_things_76 rfl rfl ?_
      refine wp_i2l dX12_things_77 ?_
      refine wp_ldc2 (v := 4) dX12_things_78 q12_166 ?_
      refine wp_iload dX12_things_81 rfl ?_
      refine wp_i2l dX12_things_83 ?_
      refine wp_lmul dX12_things_84 ?_
      refine wp_ladd dX12_things_85 ?_
      refine wx_lstore (ls' := [(0, .ref 57), (1, .int x1), (2, .int x2), (3, .int x3), (4, .int x4), (5, .int x5), (6, .long ((x2.toInt64) + ((4 : Int64) * (x4.toInt64))))]) dX12_things_86 (by decide) rfl ?_
      refine wp_lload dX12_things_88 rfl ?_
      refine wp_lconst (v := 0) dX12_things_90 (by decide) ?_
      refine wp_lcmp dX12_things_91 ?_
      refine wp_if_lt 116 dX12_things_92 (by decide) (fun q => ?_) (fun q => ?_)
      · replace hv := hv.1 q
        exact hv Q hq
      · replace hv := hv.2 q
        refine wp_lload dX12_things_95 rfl ?_
        refine wp_ldc2 (v := 3) dX12_things_97 q12_133 ?_
        refine wp_ladd dX12_things_100 ?_
        refine wp_aload_n (i := 0) dX12_things_101 rfl rfl ?_
        refine wz_getR (b := 93) dX12_things_102 (k57 hK) (f12_120 _ (by decide)) rfl ?_
        refine wp_iload_n (i := 1) dX12_things_105 rfl rfl ?_
        obtain ⟨z1, hv⟩ := hv
        refine wz_iaload dX12_things_106 (k93 hK) z1 ?_
        refine wp_i2l dX12_things_107 ?_
        refine wp_lcmp dX12_things_108 ?_
        refine wp_if_ge 116 dX12_things_109 (by decide) (fun q => ?_) (fun q => ?_)
        · replace hv := hv.1 q
          exact hv Q hq
        · replace hv := hv.2 q
          refine wp_iconst (v := 1) dX12_things_112 (by decide) ?_
          refine wp_goto 117 dX12_things_113 (by decide) ?_
          refine wx_istore (ls' := [(0, .ref 57), (1, .int x1), (2, .int x2), (3, .int x3), (4, .int x4), (5, .int (1 : Int32)), (6, .long ((x2.toInt64) + ((4 : Int64) * (x4.toInt64))))]) dX12_things_117 (by decide) rfl ?_
          refine wp_iload dX12_things_119 rfl ?_
          refine wp_if_eq 201 dX12_things_121 (by decide) (fun q => absurd q (by decide)) (fun _ => ?_)
          refine wp_bipush (v := 60) dX12_things_124 (by decide) ?_
          refine wp_iload_n (i := 1) dX12_things_126 rfl rfl ?_
          refine wp_imul dX12_things_127 ?_
          refine wp_lload dX12_things_128 rfl ?_
          refine wp_l2i dX12_things_130 ?_
          refine wp_iadd dX12_things_131 ?_
          refine wx_istore (ls' := [(0, .ref 57), (1, .int x1), (2, .int x2), (3, .int x3), (4, .int x4), (5, .int (1 : Int32)), (6, .long ((x2.toInt64) + ((4 : Int64) * (x4.toInt64)))), (8, .int (((60 : Int32) * x1) + (((x2.toInt64) + ((4 : Int64) * (x4.toInt64))).toInt32)))]) dX12_things_132 (by decide) rfl ?_
          refine wp_aload_n (i := 0) dX12_things_134 rfl rfl ?_
          refine wp_aload_n (i := 0) dX12_things_135 rfl rfl ?_
          refine wz_getR (b := 94) dX12_things_136 (k57 hK) (f12_123 _ (by decide)) rfl ?_
          refine wp_iload dX12_things_139 rfl ?_
          obtain ⟨z2, hv⟩ := hv
          refine wz_laload dX12_things_141 (k94 hK) z2 ?_
          refine wp_l2i dX12_things_142 ?_
          refine wp_aload_n (i := 0) dX12_things_143 rfl rfl ?_
          refine wz_getR (b := 94) dX12_things_144 (k57 hK) (f12_123 _ (by decide)) rfl ?_
          refine wp_iload dX12_things_147 rfl ?_
          refine wp_iconst (v := 1) dX12_things_149 (by decide) ?_
          refine wp_iadd dX12_things_150 ?_
          obtain ⟨z3, hv⟩ := hv
          refine wz_laload dX12_things_151 (k94 hK) z3 ?_
          refine wp_l2i dX12_things_152 ?_
          refine wp_aload_n (i := 0) dX12_things_153 rfl rfl ?_
          refine wz_getR (b := 94) dX12_things_154 (k57 hK) (f12_123 _ (by decide)) rfl ?_
          refine wp_iload dX12_things_157 rfl ?_
          refine wp_iconst (v := 2) dX12_things_159 (by decide) ?_
          refine wp_iadd dX12_things_160 ?_
          obtain ⟨z4, hv⟩ := hv
          refine wz_laload dX12_things_161 (k94 hK) z4 ?_
          refine wp_l2i dX12_things_162 ?_
          refine wp_aload_n (i := 0) dX12_things_163 rfl rfl ?_
          refine wz_getR (b := 94) dX12_things_164 (k57 hK) (f12_123 _ (by decide)) rfl ?_
          refine wp_iload dX12_things_167 rfl ?_
          refine wp_iconst (v := 3) dX12_things_169 (by decide) ?_
          refine wp_iadd dX12_things_170 ?_
          obtain ⟨z5, hv⟩ := hv
          refine wz_laload dX12_things_171 (k94 hK) z5 ?_
          refine wp_l2i dX12_things_172 ?_
          obtain ⟨v7, V6, hE, hv⟩ := hv
          refine wz_callV (vs := [.int (J 94 ((((60 : Int32) * x1) + (((x2.toInt64) + ((4 : Int64) * (x4.toInt64))).toInt32))).toNatClampNeg).toInt32, .int (J 94 (((((60 : Int32) * x1) + (((x2.toInt64) + ((4 : Int64) * (x4.toInt64))).toInt32)) + (1 : Int32))).toNatClampNeg).toInt32, .int (J 94 (((((60 : Int32) * x1) + (((x2.toInt64) + ((4 : Int64) * (x4.toInt64))).toInt32)) + (2 : Int32))).toNatClampNeg).toInt32, .int (J 94 (((((60 : Int32) * x1) + (((x2.toInt64) + ((4 : Int64) * (x4.toInt64))).toInt32)) + (3 : Int32))).toNatClampNeg).toInt32]) (st := []) dX12_things_173 (k57 hK) rfl k12_457_12 hE rfl (Nat.le_of_ble_eq_true rfl) (Nat.le_of_ble_eq_true rfl) ?_
          change wp _ _ _ _ _ [.int v7] _ _ _
          refine wp_if_lt 183 dX12_things_176 (by decide) (fun q => ?_) (fun q => ?_)
          · replace hv := hv.1 q
            refine wp_iconst (v := 0) dX12_things_183 (by decide) ?_
            refine wx_istore (ls' := [(0, .ref 57), (1, .int x1), (2, .int x2), (3, .int x3), (4, .int x4), (5, .int (0 : Int32)), (6, .long ((x2.toInt64) + ((4 : Int64) * (x4.toInt64)))), (8, .int (((60 : Int32) * x1) + (((x2.toInt64) + ((4 : Int64) * (x4.toInt64))).toInt32)))]) dX12_things_184 (by decide) rfl ?_
            refine wp_iload dX12_things_186 rfl ?_
            refine wp_iload dX12_things_188 rfl ?_
            refine wp_if_eq 197 dX12_things_190 (by decide) (fun _ => ?_) (fun q => absurd q (by decide))
            refine wp_iconst (v := 0) dX12_things_197 (by decide) ?_
            refine wp_iadd dX12_things_198 ?_
            refine wx_istore (ls' := [(0, .ref 57), (1, .int x1), (2, .int x2), (3, .int x3), (4, .int (x4 + (0 : Int32))), (5, .int (0 : Int32)), (6, .long ((x2.toInt64) + ((4 : Int64) * (x4.toInt64)))), (8, .int (((60 : Int32) * x1) + (((x2.toInt64) + ((4 : Int64) * (x4.toInt64))).toInt32)))]) dX12_things_199 (by decide) rfl ?_
            refine wx_sub (ls' := [(0, .ref 57), (1, .int x1), (2, .int x2), (3, .int x3), (4, .int (x4 + (0 : Int32))), (5, .int (0 : Int32)), (6, .long ((x2.toInt64) + ((4 : Int64) * (x4.toInt64))))]) [0, 1, 2, 3, 4, 5, 6] rfl ?_
            exact hv Q hq
          · replace hv := hv.2 q
            refine wp_iconst (v := 1) dX12_things_179 (by decide) ?_
            refine wp_goto 184 dX12_things_180 (by decide) ?_
            refine wx_istore (ls' := [(0, .ref 57), (1, .int x1), (2, .int x2), (3, .int x3), (4, .int x4), (5, .int (1 : Int32)), (6, .long ((x2.toInt64) + ((4 : Int64) * (x4.toInt64)))), (8, .int (((60 : Int32) * x1) + (((x2.toInt64) + ((4 : Int64) * (x4.toInt64))).toInt32)))]) dX12_things_184 (by decide) rfl ?_
            refine wp_iload dX12_things_186 rfl ?_
            refine wp_iload dX12_things_188 rfl ?_
            refine wp_if_eq 197 dX12_things_190 (by decide) (fun q => absurd q (by decide)) (fun _ => ?_)
            refine wp_iconst (v := 1) dX12_things_193 (by decide) ?_
            refine wp_goto 198 dX12_things_194 (by decide) ?_
            refine wp_iadd dX12_things_198 ?_
            refine wx_istore (ls' := [(0, .ref 57), (1, .int x1), (2, .int x2), (3, .int x3), (4, .int (x4 + (1 : Int32))), (5, .int (1 : Int32)), (6, .long ((x2.toInt64) + ((4 : Int64) * (x4.toInt64)))), (8, .int (((60 : Int32) * x1) + (((x2.toInt64) + ((4 : Int64) * (x4.toInt64))).toInt32)))]) dX12_things_199 (by decide) rfl ?_
            refine wx_sub (ls' := [(0, .ref 57), (1, .int x1), (2, .int x2), (3, .int x3), (4, .int (x4 + (1 : Int32))), (5, .int (1 : Int32)), (6, .long ((x2.toInt64) + ((4 : Int64) * (x4.toInt64))))]) [0, 1, 2, 3, 4, 5, 6] rfl ?_
            exact hv Q hq
theorem wX12_things_116 {x1 : Int32} {x2 : Int32} {x3 : Int32} {x4 : Int32} {x5 : Int32} {l6 : Int64} (hK : StK K)  (hv : Ev G (d + 1) mX12_things 201 [(0, .ref 57), (1, .int x1), (2, .int x2), (3, .int x3), (4, .int x4), (5, .int (0 : Int32)), (6, .long l6)] (K, n, V, J, O) r (K, n, V', J, O)) : Ev G (d + 1) mX12_things 116 [(0, .ref 57), (1, .int x1), (2, .int x2), (3, .int x3), (4, .int x4), (5, .int x5), (6, .long l6)] (K, n, V, J, O) r (K, n, V', J, O) := by
  refine Ev.mk fun Q hq => ?_
  refine wp_iconst (v := 0) dX12_things_116 (by decide) ?_
  refine wx_istore (ls' := [(0, .ref 57), (1, .int x1), (2, .int x2), (3, .int x3), (4, .int x4), (5, .int (0 : Int32)), (6, .long l6)]) dX12_things_117 (by decide) rfl ?_
  refine wp_iload dX12_things_119 rfl ?_
  refine wp_if_eq 201 dX12_things_121 (by decide) (fun _ => ?_) (fun q => absurd q (by decide))
  exact hv Q hq
theorem wX12_things_201 {x1 : Int32} {x2 : Int32} {x3 : Int32} {x4 : Int32} {x5 : Int32} {l6 : Int64} (hK : StK K)  (hv : Ev G (d + 1) mX12_things 65 [(0, .ref 57), (1, .int x1), (2, .int x2), (3, .int x3), (4, .int x4), (5, .int x5)] (K, n, V, J, O) r (K, n, V', J, O)) : Ev G (d + 1) mX12_things 201 [(0, .ref 57), (1, .int x1), (2, .int x2), (3, .int x3), (4, .int x4), (5, .int x5), (6, .long l6)] (K, n, V, J, O) r (K, n, V', J, O) := by
  refine Ev.mk fun Q hq => ?_
  refine wp_goto 65 dX12_things_201 (by decide) ?_
  refine wx_sub (ls' := [(0, .ref 57), (1, .int x1), (2, .int x2), (3, .int x3), (4, .int x4), (5, .int x5)]) [0, 1, 2, 3, 4, 5] rfl ?_
  exact hv Q hq
theorem wX12_count_0 {x1 : Int32} (hK : StK K)  (hv : Ev G d mX12_count 4 [(0, .ref 57), (1, .int x1), (2, .int (0 : Int32)), (3, .int (0 : Int32))] (K, n, V, J, O) r (K, n, V, J, O)) : Ev G d mX12_count 0 [(0, .ref 57), (1, .int x1)] (K, n, V, J, O) r (K, n, V, J, O) := by
  refine Ev.mk fun Q hq => ?_
  refine wp_iconst (v := 0) dX12_count_0 (by decide) ?_
  refine wx_istore_n (ls' := [(0, .ref 57), (1, .int x1), (2, .int (0 : Int32))]) (i := 2) dX12_count_1 rfl (by decide) rfl ?_
  refine wp_iconst (v := 0) dX12_count_2 (by decide) ?_
  refine wx_istore_n (ls' := [(0, .ref 57), (1, .int x1), (2, .int (0 : Int32)), (3, .int (0 : Int32))]) (i := 3) dX12_count_3 rfl (by decide) rfl ?_
  exact hv Q hq
theorem wX12_count_4 {x1 : Int32} {x2 : Int32} {x3 : Int32} (hK : StK K)  (hv : (((V 57 2) ≤ x3 → ((x1 = (0 : Int32) → r = some (.int (V 57 2))) ∧ (x1 = (1 : Int32) → r = some (.int x2)) ∧ (x1 = (2 : Int32) → r = some (.int (V 57 14))) ∧ (x1 = (3 : Int32) → r = some (.int (V 57 25))) ∧ (x1 = (4 : Int32) → r = some (.int (V 57 6))) ∧ (x1 = (5 : Int32) → r = some (.int (V 57 49))) ∧ (x1 = (6 : Int32) → r = some (.int (V 57 51))) ∧ ((¬ x1 = (0 : Int32) ∧ ¬ x1 = (1 : Int32) ∧ ¬ x1 = (2 : Int32) ∧ ¬ x1 = (3 : Int32) ∧ ¬ x1 = (4 : Int32) ∧ ¬ x1 = (5 : Int32) ∧ ¬ x1 = (6 : Int32)) → r = some (.int (-1 : Int32))))) ∧ (¬ (V 57 2) ≤ x3 → (vp_in x3 80 ∧ (((V 59 (x3).toNatClampNeg) = 0 → Ev G d mX12_count 4 [(0, .ref 57), (1, .int x1), (2, .int (x2 + (0 : Int32))), (3, .int (x3 + 1))] (K, n, V, J, O) r (K, n, V, J, O)) ∧ (¬ (V 59 (x3).toNatClampNeg) = 0 → Ev G d mX12_count 4 [(0, .ref 57), (1, .int x1), (2, .int (x2 + (1 : Int32))), (3, .int (x3 + 1))] (K, n, V, J, O) r (K, n, V, J, O))))))) : Ev G d mX12_count 4 [(0, .ref 57), (1, .int x1), (2, .int x2), (3, .int x3)] (K, n, V, J, O) r (K, n, V, J, O) := by
  refine Ev.mk fun Q hq => ?_
  refine wp_iload_n (i := 3) dX12_count_4 rfl rfl ?_
  refine wp_aload_n (i := 0) dX12_count_5 rfl rfl ?_
  refine wz_getI dX12_count_6 (k57 hK) (f12_130 _ (by decide)) rfl ?_
  refine wp_icmp_ge 35 dX12_count_9 (by decide) (fun q => ?_) (fun q => ?_)
  · replace hv := hv.1 q
    refine wp_iload_n (i := 1) dX12_count_35 rfl rfl ?_
    by_cases q0 : x1 = (0 : Int32)
    · refine wx_tableIn (off := 44) (0 : Int32) q0 80 dX12_count_36 (by decide) (by decide) (by decide +kernel) (by decide) ?_
      replace hv := hv.1 q0
      refine wp_aload_n (i := 0) dX12_count_80 rfl rfl ?_
      refine wz_getI dX12_count_81 (k57 hK) (f12_130 _ (by decide)) rfl ?_
      obtain rfl := hv
      exact wp_ireturn dX12_count_84 rfl rfl rfl hq
    by_cases q1 : x1 = (1 : Int32)
    · refine wx_tableIn (off := 49) (1 : Int32) q1 85 dX12_count_36 (by decide) (by decide) (by decide +kernel) (by decide) ?_
      replace hv := hv.2.1 q1
      refine wp_iload_n (i := 2) dX12_count_85 rfl rfl ?_
      obtain rfl := hv
      exact wp_ireturn dX12_count_86 rfl rfl rfl hq
    by_cases q2 : x1 = (2 : Int32)
    · refine wx_tableIn (off := 51) (2 : Int32) q2 87 dX12_count_36 (by decide) (by decide) (by decide +kernel) (by decide) ?_
      replace hv := hv.2.2.1 q2
      refine wp_aload_n (i := 0) dX12_count_87 rfl rfl ?_
      refine wz_getI dX12_count_88 (k57 hK) (f12_198 _ (by decide)) rfl ?_
      obtain rfl := hv
      exact wp_ireturn dX12_count_91 rfl rfl rfl hq
    by_cases q3 : x1 = (3 : Int32)
    · refine wx_tableIn (off := 56) (3 : Int32) q3 92 dX12_count_36 (by decide) (by decide) (by decide +kernel) (by decide) ?_
      replace hv := hv.2.2.2.1 q3
      refine wp_aload_n (i := 0) dX12_count_92 rfl rfl ?_
      refine wz_getI dX12_count_93 (k57 hK) (f12_153 _ (by decide)) rfl ?_
      obtain rfl := hv
      exact wp_ireturn dX12_count_96 rfl rfl rfl hq
    by_cases q4 : x1 = (4 : Int32)
    · refine wx_tableIn (off := 61) (4 : Int32) q4 97 dX12_count_36 (by decide) (by decide) (by decide +kernel) (by decide) ?_
      replace hv := hv.2.2.2.2.1 q4
      refine wp_aload_n (i := 0) dX12_count_97 rfl rfl ?_
      refine wz_getI dX12_count_98 (k57 hK) (f12_176 _ (by decide)) rfl ?_
      obtain rfl := hv
      exact wp_ireturn dX12_count_101 rfl rfl rfl hq
    by_cases q5 : x1 = (5 : Int32)
    · refine wx_tableIn (off := 66) (5 : Int32) q5 102 dX12_count_36 (by decide) (by decide) (by decide +kernel) (by decide) ?_
      replace hv := hv.2.2.2.2.2.1 q5
      refine wp_aload_n (i := 0) dX12_count_102 rfl rfl ?_
      refine wz_getI dX12_count_103 (k57 hK) (f12_411 _ (by decide)) rfl ?_
      obtain rfl := hv
      exact wp_ireturn dX12_count_106 rfl rfl rfl hq
    by_cases q6 : x1 = (6 : Int32)
    · refine wx_tableIn (off := 71) (6 : Int32) q6 107 dX12_count_36 (by decide) (by decide) (by decide +kernel) (by decide) ?_
      replace hv := hv.2.2.2.2.2.2.1 q6
      refine wp_aload_n (i := 0) dX12_count_107 rfl rfl ?_
      refine wz_getI dX12_count_108 (k57 hK) (f12_414 _ (by decide)) rfl ?_
      obtain rfl := hv
      exact wp_ireturn dX12_count_111 rfl rfl rfl hq
    refine wp_tableOut 112 dX12_count_36 (by have n0 := lv_neT q0 (show ((0 : Int32)).toInt = 0 by decide); have n1 := lv_neT q1 (show ((1 : Int32)).toInt = 1 by decide); have n2 := lv_neT q2 (show ((2 : Int32)).toInt = 2 by decide); have n3 := lv_neT q3 (show ((3 : Int32)).toInt = 3 by decide); have n4 := lv_neT q4 (show ((4 : Int32)).toInt = 4 by decide); have n5 := lv_neT q5 (show ((5 : Int32)).toInt = 5 by decide); have n6 := lv_neT q6 (show ((6 : Int32)).toInt = 6 by decide); omega) (by decide) ?_
    replace hv := hv.2.2.2.2.2.2.2 ⟨q0, q1, q2, q3, q4, q5, q6⟩
    refine wp_iconst (v := -1) dX12_count_112 (by decide) ?_
    obtain rfl := hv
    exact wp_ireturn dX12_count_113 rfl rfl rfl hq
  · replace hv := hv.2 q
    refine wp_iload_n (i := 2) dX12_count_12 rfl rfl ?_
    refine wp_aload_n (i := 0) dX12_count_13 rfl rfl ?_
    refine wz_getR (b := 59) dX12_count_14 (k57 hK) (f12_13 _ (by decide)) rfl ?_
    refine wp_iload_n (i := 3) dX12_count_17 rfl rfl ?_
    obtain ⟨z1, hv⟩ := hv
    refine wz_baload dX12_count_18 (k59 hK) z1 ?_
    refine wp_if_eq 26 dX12_count_19 (by decide) (fun q => ?_) (fun q => ?_)
    · replace hv := hv.1 q
      refine wp_iconst (v := 0) dX12_count_26 (by decide) ?_
      refine wp_iadd dX12_count_27 ?_
      refine wx_istore_n (ls' := [(0, .ref 57), (1, .int x1), (2, .int (x2 + (0 : Int32))), (3, .int x3)]) (i := 2) dX12_count_28 rfl (by decide) rfl ?_
      refine wx_iinc (v := 1) (ls' := [(0, .ref 57), (1, .int x1), (2, .int (x2 + (0 : Int32))), (3, .int (x3 + 1))]) dX12_count_29 rfl (by decide) (by decide) rfl ?_
      refine wp_goto 4 dX12_count_32 (by decide) ?_
      exact hv Q hq
    · replace hv := hv.2 q
      refine wp_iconst (v := 1) dX12_count_22 (by decide) ?_
      refine wp_goto 27 dX12_count_23 (by decide) ?_
      refine wp_iadd dX12_count_27 ?_
      refine wx_istore_n (ls' := [(0, .ref 57), (1, .int x1), (2, .int (x2 + (1 : Int32))), (3, .int x3)]) (i := 2) dX12_count_28 rfl (by decide) rfl ?_
      refine wx_iinc (v := 1) (ls' := [(0, .ref 57), (1, .int x1), (2, .int (x2 + (1 : Int32))), (3, .int (x3 + 1))]) dX12_count_29 rfl (by decide) (by decide) rfl ?_
      refine wp_goto 4 dX12_count_32 (by decide) ?_
      exact hv Q hq
end
