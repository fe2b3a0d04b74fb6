/-! ===== what makes objects, raw: asks and stones ===== -/
theorem vX0_init_0 {G : Gp} {d : Nat} {h : AH} {fin : Nat × Nat} {Q : Option Value → AH → Prop} {a0 : Nat} (hv : FS [0] h a0 0 (.int (1 : Int32)) (fun h1 => NW h1 (.inl (0, 15, .inl (fun _ => 0))) 15 fin (fun b3 h2 => FS [0] h2 a0 1 (.ref b3) (fun h4 => NW h4 (.inl (0, 15, .inl (fun _ => 0))) 15 fin (fun b6 h5 => FS [0] h5 a0 2 (.ref b6) (fun h7 => NW h7 (.inl (0, 15, .inl (fun _ => 0))) 15 fin (fun b9 h8 => FS [0] h8 a0 3 (.ref b9) (fun h10 => (h10.2 = fin ∧ Q none h10))))))))) : wp G d mX0_init 0 [(0, .ref a0)] [] h fin Q := by
  refine wp_aload_n (i := 0) dX0_init_0 rfl rfl ?_
  refine wp_objInit dX0_init_1 ob0_3 oi1 oi2 (Nat.le_of_ble_eq_true rfl) ?_
  refine wp_aload_n (i := 0) dX0_init_4 rfl rfl ?_
  refine wp_iconst (v := 1) dX0_init_5 (by decide) ?_
  obtain ⟨ci, fs, c, s, q, hv⟩ := hv
  refine wp_putI dX0_init_6 c (w0_9 _ s) q ?_
  generalize hset h a0 (.inr (ci, fs.set 0 (.int (1 : Int32)))) = h1 at hv ⊢
  refine wp_aload_n (i := 0) dX0_init_9 rfl rfl ?_
  refine wp_bipush (v := 15) dX0_init_10 (by decide) ?_
  obtain ⟨f1, f2, hv⟩ := hv
  refine wp_newI (N := 15) dX0_init_12 aI (by decide) (by decide) (by decide) f1 f2 ?_
  generalize hnew h1 (.inl (0, 15, .inl (fun _ => 0))) 15 = h2 at hv ⊢
  generalize h1.2.1 = b3 at hv ⊢
  obtain ⟨ci, fs, c, s, q, hv⟩ := hv
  refine wp_putFR dX0_init_14 rfl c (w0_15 _ s) (Or.inr ⟨_, rfl⟩) q ?_
  generalize hset h2 a0 (.inr (ci, fs.set 1 (.ref b3))) = h4 at hv ⊢
  refine wp_aload_n (i := 0) dX0_init_17 rfl rfl ?_
  refine wp_bipush (v := 15) dX0_init_18 (by decide) ?_
  obtain ⟨f1, f2, hv⟩ := hv
  refine wp_newI (N := 15) dX0_init_20 aI (by decide) (by decide) (by decide) f1 f2 ?_
  generalize hnew h4 (.inl (0, 15, .inl (fun _ => 0))) 15 = h5 at hv ⊢
  generalize h4.2.1 = b6 at hv ⊢
  obtain ⟨ci, fs, c, s, q, hv⟩ := hv
  refine wp_putFR dX0_init_22 rfl c (w0_19 _ s) (Or.inr ⟨_, rfl⟩) q ?_
  generalize hset h5 a0 (.inr (ci, fs.set 2 (.ref b6))) = h7 at hv ⊢
  refine wp_aload_n (i := 0) dX0_init_25 rfl rfl ?_
  refine wp_bipush (v := 15) dX0_init_26 (by decide) ?_
  obtain ⟨f1, f2, hv⟩ := hv
  refine wp_newI (N := 15) dX0_init_28 aI (by decide) (by decide) (by decide) f1 f2 ?_
  generalize hnew h7 (.inl (0, 15, .inl (fun _ => 0))) 15 = h8 at hv ⊢
  generalize h7.2.1 = b9 at hv ⊢
  obtain ⟨ci, fs, c, s, q, hv⟩ := hv
  refine wp_putFR dX0_init_30 rfl c (w0_22 _ s) (Or.inr ⟨_, rfl⟩) q ?_
  generalize hset h8 a0 (.inr (ci, fs.set 3 (.ref b9))) = h10 at hv ⊢
  obtain ⟨e, hv⟩ := hv
  exact wp_return dX0_init_33 rfl e hv
theorem vX5_init_0 {G : Gp} {d : Nat} {h : AH} {fin : Nat × Nat} {Q : Option Value → AH → Prop} {a0 : Nat} {a1 : Nat} {x2 : Int32} {x3 : Int32} (hv : NW h (.inl (0, 24, .inl (fun _ => 0))) 24 fin (fun b2 h1 => FS [1, 2, 3, 4, 5, 6, 7, 10] h1 a0 4 (.ref b2) (fun h3 => FS [1, 2, 3, 4, 5, 6, 7, 10] h3 a0 0 (.ref a1) (fun h4 => FS [1, 2, 3, 4, 5, 6, 7, 10] h4 a0 1 (.int x2) (fun h5 => FS [1, 2, 3, 4, 5, 6, 7, 10] h5 a0 2 (.int x3) (fun h6 => FR [8] h6 a1 4 (fun r7 => AR h6 r7 x3 (fun r8 => FS [1, 2, 3, 4, 5, 6, 7, 10] h6 a0 3 (.ref r8) (fun h9 => (h9.2 = fin ∧ Q none h9)))))))))) : wp G d mX5_init 0 [(0, .ref a0), (1, .ref a1), (2, .int x2), (3, .int x3)] [] h fin Q := by
  refine wp_aload_n (i := 0) dX5_init_0 rfl rfl ?_
  refine wp_objInit dX5_init_1 ob5_3 oi1 oi2 (Nat.le_of_ble_eq_true rfl) ?_
  refine wp_aload_n (i := 0) dX5_init_4 rfl rfl ?_
  refine wp_bipush (v := 24) dX5_init_5 (by decide) ?_
  obtain ⟨f1, f2, hv⟩ := hv
  refine wp_newI (N := 24) dX5_init_7 aI (by decide) (by decide) (by decide) f1 f2 ?_
  generalize hnew h (.inl (0, 24, .inl (fun _ => 0))) 24 = h1 at hv ⊢
  generalize h.2.1 = b2 at hv ⊢
  obtain ⟨ci, fs, c, s, q, hv⟩ := hv
  refine wp_putFR dX5_init_9 rfl c (w5_9 _ s) (Or.inr ⟨_, rfl⟩) q ?_
  generalize hset h1 a0 (.inr (ci, fs.set 4 (.ref b2))) = h3 at hv ⊢
  refine wp_aload_n (i := 0) dX5_init_12 rfl rfl ?_
  refine wp_aload_n (i := 1) dX5_init_13 rfl rfl ?_
  obtain ⟨ci, fs, c, s, q, hv⟩ := hv
  refine wp_putFR dX5_init_14 rfl c (w5_15 _ s) (Or.inl ⟨_, rfl⟩) q ?_
  generalize hset h3 a0 (.inr (ci, fs.set 0 (.ref a1))) = h4 at hv ⊢
  refine wp_aload_n (i := 0) dX5_init_17 rfl rfl ?_
  refine wp_iload_n (i := 2) dX5_init_18 rfl rfl ?_
  obtain ⟨ci, fs, c, s, q, hv⟩ := hv
  refine wp_putFI dX5_init_19 rfl c (w5_19 _ s) q ?_
  generalize hset h4 a0 (.inr (ci, fs.set 1 (.int x2))) = h5 at hv ⊢
  refine wp_aload_n (i := 0) dX5_init_22 rfl rfl ?_
  refine wp_iload_n (i := 3) dX5_init_23 rfl rfl ?_
  obtain ⟨ci, fs, c, s, q, hv⟩ := hv
  refine wp_putFI dX5_init_24 rfl c (w5_23 _ s) q ?_
  generalize hset h5 a0 (.inr (ci, fs.set 2 (.int x3))) = h6 at hv ⊢
  refine wp_aload_n (i := 0) dX5_init_27 rfl rfl ?_
  refine wp_aload_n (i := 1) dX5_init_28 rfl rfl ?_
  obtain ⟨_, _, r7, c, s, q, hv⟩ := hv
  refine wp_getfield dX5_init_29 c (f5_26 _ s) q ?_
  refine wp_iload_n (i := 3) dX5_init_32 rfl rfl ?_
  obtain ⟨_, _, _, r8, c, t, q, z, hv⟩ := hv
  refine wp_aaloadR dX5_init_33 c t q z ?_
  obtain ⟨ci, fs, c, s, q, hv⟩ := hv
  refine wp_putFR dX5_init_34 rfl c (w5_32 _ s) (Or.inr ⟨_, rfl⟩) q ?_
  generalize hset h6 a0 (.inr (ci, fs.set 3 (.ref r8))) = h9 at hv ⊢
  obtain ⟨e, hv⟩ := hv
  exact wp_return dX5_init_37 rfl e hv
theorem vX3_init_0 {G : Gp} {d : Nat} {h : AH} {fin : Nat × Nat} {Q : Option Value → AH → Prop} {a0 : Nat} {a1 : Nat} {x2 : Int32} {x3 : Int32} (hv : (∃ fin' : Nat × Nat, cR h fin' fin ∧ wp G d mX5_init 0 [(0, .ref a0), (1, .ref a1), (2, .int x2), (3, .int x3)] [] h fin' (fun r h1 => h1.2 = fin' → (r = none ∧ NW h1 (.inl (0, 80, .inl (fun _ => 0))) 80 fin (fun b3 h2 => FS [2, 3, 4, 6] h2 a0 9 (.ref b3) (fun h4 => (h4.2 = fin ∧ Q none h4))))))) : wp G (d + 1) mX3_init 0 [(0, .ref a0), (1, .ref a1), (2, .int x2), (3, .int x3)] [] h fin Q := by
  refine wp_aload_n (i := 0) dX3_init_0 rfl rfl ?_
  refine wp_aload_n (i := 1) dX3_init_1 rfl rfl ?_
  refine wp_iload_n (i := 2) dX3_init_2 rfl rfl ?_
  refine wp_iload_n (i := 3) dX3_init_3 rfl rfl ?_
  obtain ⟨fin', hr, hv⟩ := hv
  refine wp_callI (vs := [.ref a1, .int x2, .int x3]) (st := []) (fin' := fin') dX3_init_4 k3_3 rfl (Nat.le_of_ble_eq_true rfl) (Nat.le_of_ble_eq_true rfl) hr (wp_mono hv ?_)
  intro r h1 hv e1
  replace hv := hv e1
  obtain ⟨rfl, hv⟩ := hv
  change wp _ _ _ _ _ [] _ _ _
  refine wp_aload_n (i := 0) dX3_init_7 rfl rfl ?_
  refine wp_bipush (v := 80) dX3_init_8 (by decide) ?_
  obtain ⟨f1, f2, hv⟩ := hv
  refine wp_newI (N := 80) dX3_init_10 aI (by decide) (by decide) (by decide) f1 f2 ?_
  generalize hnew h1 (.inl (0, 80, .inl (fun _ => 0))) 80 = h2 at hv ⊢
  generalize h1.2.1 = b3 at hv ⊢
  obtain ⟨ci, fs, c, s, q, hv⟩ := hv
  refine wp_putFR dX3_init_12 rfl c (w3_9 _ s) (Or.inr ⟨_, rfl⟩) q ?_
  generalize hset h2 a0 (.inr (ci, fs.set 9 (.ref b3))) = h4 at hv ⊢
  obtain ⟨e, hv⟩ := hv
  exact wp_return dX3_init_15 rfl e hv
theorem vX4_init_0 {G : Gp} {d : Nat} {h : AH} {fin : Nat × Nat} {Q : Option Value → AH → Prop} {a0 : Nat} {a1 : Nat} {x2 : Int32} {x3 : Int32} (hv : (∃ fin' : Nat × Nat, cR h fin' fin ∧ wp G d mX3_init 0 [(0, .ref a0), (1, .ref a1), (2, .int x2), (3, .int x3)] [] h fin' (fun r h1 => h1.2 = fin' → (r = none ∧ (h1.2 = fin ∧ Q none h1))))) : wp G (d + 1) mX4_init 0 [(0, .ref a0), (1, .ref a1), (2, .int x2), (3, .int x3)] [] h fin Q := by
  refine wp_aload_n (i := 0) dX4_init_0 rfl rfl ?_
  refine wp_aload_n (i := 1) dX4_init_1 rfl rfl ?_
  refine wp_iload_n (i := 2) dX4_init_2 rfl rfl ?_
  refine wp_iload_n (i := 3) dX4_init_3 rfl rfl ?_
  obtain ⟨fin', hr, hv⟩ := hv
  refine wp_callI (vs := [.ref a1, .int x2, .int x3]) (st := []) (fin' := fin') dX4_init_4 k4_3 rfl (Nat.le_of_ble_eq_true rfl) (Nat.le_of_ble_eq_true rfl) hr (wp_mono hv ?_)
  intro r h1 hv e1
  replace hv := hv e1
  obtain ⟨rfl, hv⟩ := hv
  change wp _ _ _ _ _ [] _ _ _
  obtain ⟨e, hv⟩ := hv
  exact wp_return dX4_init_7 rfl e hv
theorem vX2_init_0 {G : Gp} {d : Nat} {h : AH} {fin : Nat × Nat} {Q : Option Value → AH → Prop} {a0 : Nat} {a1 : Nat} {x2 : Int32} {x3 : Int32} (hv : (∃ fin' : Nat × Nat, cR h fin' fin ∧ wp G d mX3_init 0 [(0, .ref a0), (1, .ref a1), (2, .int x2), (3, .int x3)] [] h fin' (fun r h1 => h1.2 = fin' → (r = none ∧ (h1.2 = fin ∧ Q none h1))))) : wp G (d + 1) mX2_init 0 [(0, .ref a0), (1, .ref a1), (2, .int x2), (3, .int x3)] [] h fin Q := by
  refine wp_aload_n (i := 0) dX2_init_0 rfl rfl ?_
  refine wp_aload_n (i := 1) dX2_init_1 rfl rfl ?_
  refine wp_iload_n (i := 2) dX2_init_2 rfl rfl ?_
  refine wp_iload_n (i := 3) dX2_init_3 rfl rfl ?_
  obtain ⟨fin', hr, hv⟩ := hv
  refine wp_callI (vs := [.ref a1, .int x2, .int x3]) (st := []) (fin' := fin') dX2_init_4 k2_1 rfl (Nat.le_of_ble_eq_true rfl) (Nat.le_of_ble_eq_true rfl) hr (wp_mono hv ?_)
  intro r h1 hv e1
  replace hv := hv e1
  obtain ⟨rfl, hv⟩ := hv
  change wp _ _ _ _ _ [] _ _ _
  obtain ⟨e, hv⟩ := hv
  exact wp_return dX2_init_7 rfl e hv
theorem vX6_init_0 {G : Gp} {d : Nat} {h : AH} {fin : Nat × Nat} {Q : Option Value → AH → Prop} {a0 : Nat} {a1 : Nat} {x2 : Int32} {x3 : Int32} (hv : (∃ fin' : Nat × Nat, cR h fin' fin ∧ wp G d mX4_init 0 [(0, .ref a0), (1, .ref a1), (2, .int x2), (3, .int x3)] [] h fin' (fun r h1 => h1.2 = fin' → (r = none ∧ NW h1 (.inl (0, 81, .inl (fun _ => 0))) 81 fin (fun b3 h2 => FS [6] h2 a0 11 (.ref b3) (fun h4 => (h4.2 = fin ∧ Q none h4))))))) : wp G (d + 1) mX6_init 0 [(0, .ref a0), (1, .ref a1), (2, .int x2), (3, .int x3)] [] h fin Q := by
  refine wp_aload_n (i := 0) dX6_init_0 rfl rfl ?_
  refine wp_aload_n (i := 1) dX6_init_1 rfl rfl ?_
  refine wp_iload_n (i := 2) dX6_init_2 rfl rfl ?_
  refine wp_iload_n (i := 3) dX6_init_3 rfl rfl ?_
  obtain ⟨fin', hr, hv⟩ := hv
  refine wp_callI (vs := [.ref a1, .int x2, .int x3]) (st := []) (fin' := fin') dX6_init_4 k6_3 rfl (Nat.le_of_ble_eq_true rfl) (Nat.le_of_ble_eq_true rfl) hr (wp_mono hv ?_)
  intro r h1 hv e1
  replace hv := hv e1
  obtain ⟨rfl, hv⟩ := hv
  change wp _ _ _ _ _ [] _ _ _
  refine wp_aload_n (i := 0) dX6_init_7 rfl rfl ?_
  refine wp_bipush (v := 81) dX6_init_8 (by decide) ?_
  obtain ⟨f1, f2, hv⟩ := hv
  refine wp_newI (N := 81) dX6_init_10 aI (by decide) (by decide) (by decide) f1 f2 ?_
  generalize hnew h1 (.inl (0, 81, .inl (fun _ => 0))) 81 = h2 at hv ⊢
  generalize h1.2.1 = b3 at hv ⊢
  obtain ⟨ci, fs, c, s, q, hv⟩ := hv
  refine wp_putFR dX6_init_12 rfl c (w6_9 _ s) (Or.inr ⟨_, rfl⟩) q ?_
  generalize hset h2 a0 (.inr (ci, fs.set 11 (.ref b3))) = h4 at hv ⊢
  obtain ⟨e, hv⟩ := hv
  exact wp_return dX6_init_15 rfl e hv
theorem vX7_init_0 {G : Gp} {d : Nat} {h : AH} {fin : Nat × Nat} {Q : Option Value → AH → Prop} {a0 : Nat} {a1 : Nat} {x2 : Int32} {x3 : Int32} {x4 : Int32} (hv : (∃ fin' : Nat × Nat, cR h fin' fin ∧ wp G d mX5_init 0 [(0, .ref a0), (1, .ref a1), (2, .int x2), (3, .int x3)] [] h fin' (fun r h1 => h1.2 = fin' → (r = none ∧ ((h1.2.1 ≤ fin.1 ∧ h1.2.2 ≤ fin.2) ∧ (¬ (if x4 < (0 : Int32) then (0 : Int32) else x4) < 0 ∧ ((if x4 < (0 : Int32) then (0 : Int32) else x4)).toNatClampNeg ≤ 60000 ∧ NW h1 (.inl (0, ((if x4 < (0 : Int32) then (0 : Int32) else x4)).toNatClampNeg, .inl (fun _ => 0))) ((if x4 < (0 : Int32) then (0 : Int32) else x4)).toNatClampNeg fin (fun b3 h2 => FS [1, 7] h2 a0 9 (.ref b3) (fun h4 => (h4.2 = fin ∧ Q none h4))))))))) : wp G (d + 1) mX7_init 0 [(0, .ref a0), (1, .ref a1), (2, .int x2), (3, .int x3), (4, .int x4)] [] h fin Q := by
  refine wp_aload_n (i := 0) dX7_init_0 rfl rfl ?_
  refine wp_aload_n (i := 1) dX7_init_1 rfl rfl ?_
  refine wp_iload_n (i := 2) dX7_init_2 rfl rfl ?_
  refine wp_iload_n (i := 3) dX7_init_3 rfl rfl ?_
  obtain ⟨fin', hr, hv⟩ := hv
  refine wp_callI (vs := [.ref a1, .int x2, .int x3]) (st := []) (fin' := fin') dX7_init_4 k7_3 rfl (Nat.le_of_ble_eq_true rfl) (Nat.le_of_ble_eq_true rfl) hr (wp_mono hv ?_)
  intro r h1 hv e1
  replace hv := hv e1
  obtain ⟨rfl, hv⟩ := hv
  change wp _ _ _ _ _ [] _ _ _
  refine wp_aload_n (i := 0) dX7_init_7 rfl rfl ?_
  refine wp_iload dX7_init_8 rfl ?_
  refine wp_iconst (v := 0) dX7_init_10 (by decide) ?_
  obtain ⟨hle, hv⟩ := hv
  refine wp_mmax dX7_init_11 ma7_9 mmax1 mth2 mmax3 (Nat.le_of_ble_eq_true rfl) hle ?_
  obtain ⟨z0, z1, f1, f2, hv⟩ := hv
  refine wp_newI dX7_init_14 aI z0 rfl z1 f1 f2 ?_
  generalize hnew h1 (.inl (0, ((if x4 < (0 : Int32) then (0 : Int32) else x4)).toNatClampNeg, .inl (fun _ => 0))) ((if x4 < (0 : Int32) then (0 : Int32) else x4)).toNatClampNeg = h2 at hv ⊢
  generalize h1.2.1 = b3 at hv ⊢
  obtain ⟨ci, fs, c, s, q, hv⟩ := hv
  refine wp_putFR dX7_init_16 rfl c (w7_15 _ s) (Or.inr ⟨_, rfl⟩) q ?_
  generalize hset h2 a0 (.inr (ci, fs.set 9 (.ref b3))) = h4 at hv ⊢
  obtain ⟨e, hv⟩ := hv
  exact wp_return dX7_init_19 rfl e hv
theorem vX1_init_0 {G : Gp} {d : Nat} {h : AH} {fin : Nat × Nat} {Q : Option Value → AH → Prop} {a0 : Nat} {a1 : Nat} {x2 : Int32} {x3 : Int32} (hv : (∃ fin' : Nat × Nat, cR h fin' fin ∧ wp G d mX7_init 0 [(0, .ref a0), (1, .ref a1), (2, .int x2), (3, .int x3), (4, .int (0 : Int32))] [] h fin' (fun r h1 => h1.2 = fin' → (r = none ∧ (h1.2 = fin ∧ Q none h1))))) : wp G (d + 1) mX1_init 0 [(0, .ref a0), (1, .ref a1), (2, .int x2), (3, .int x3)] [] h fin Q := by
  refine wp_aload_n (i := 0) dX1_init_0 rfl rfl ?_
  refine wp_aload_n (i := 1) dX1_init_1 rfl rfl ?_
  refine wp_iload_n (i := 2) dX1_init_2 rfl rfl ?_
  refine wp_iload_n (i := 3) dX1_init_3 rfl rfl ?_
  refine wp_iconst (v := 0) dX1_init_4 (by decide) ?_
  obtain ⟨fin', hr, hv⟩ := hv
  refine wp_callI (vs := [.ref a1, .int x2, .int x3, .int (0 : Int32)]) (st := []) (fin' := fin') dX1_init_5 k1_3 rfl (Nat.le_of_ble_eq_true rfl) (Nat.le_of_ble_eq_true rfl) hr (wp_mono hv ?_)
  intro r h1 hv e1
  replace hv := hv e1
  obtain ⟨rfl, hv⟩ := hv
  change wp _ _ _ _ _ [] _ _ _
  obtain ⟨e, hv⟩ := hv
  exact wp_return dX1_init_8 rfl e hv
theorem vX10_init_0 {G : Gp} {d : Nat} {h : AH} {fin : Nat × Nat} {Q : Option Value → AH → Prop} {a0 : Nat} {a1 : Nat} {x2 : Int32} {x3 : Int32} (hv : (∃ fin' : Nat × Nat, cR h fin' fin ∧ wp G d mX5_init 0 [(0, .ref a0), (1, .ref a1), (2, .int x2), (3, .int x3)] [] h fin' (fun r h1 => h1.2 = fin' → (r = none ∧ NW h1 (.inl (0, 80, .inl (fun _ => 0))) 80 fin (fun b3 h2 => FS [10] h2 a0 9 (.ref b3) (fun h4 => NW h4 (.inl (0, 80, .inl (fun _ => 0))) 80 fin (fun b6 h5 => FS [10] h5 a0 10 (.ref b6) (fun h7 => NW h7 (.inl (0, 80, .inl (fun _ => 0))) 80 fin (fun b9 h8 => FS [10] h8 a0 11 (.ref b9) (fun h10 => FS [10] h10 a0 12 (.int (-1 : Int32)) (fun h11 => (h11.2 = fin ∧ Q none h11)))))))))))) : wp G (d + 1) mX10_init 0 [(0, .ref a0), (1, .ref a1), (2, .int x2), (3, .int x3)] [] h fin Q := by
  refine wp_aload_n (i := 0) dX10_init_0 rfl rfl ?_
  refine wp_aload_n (i := 1) dX10_init_1 rfl rfl ?_
  refine wp_iload_n (i := 2) dX10_init_2 rfl rfl ?_
  refine wp_iload_n (i := 3) dX10_init_3 rfl rfl ?_
  obtain ⟨fin', hr, hv⟩ := hv
  refine wp_callI (vs := [.ref a1, .int x2, .int x3]) (st := []) (fin' := fin') dX10_init_4 k10_3 rfl (Nat.le_of_ble_eq_true rfl) (Nat.le_of_ble_eq_true rfl) hr (wp_mono hv ?_)
  intro r h1 hv e1
  replace hv := hv e1
  obtain ⟨rfl, hv⟩ := hv
  change wp _ _ _ _ _ [] _ _ _
  refine wp_aload_n (i := 0) dX10_init_7 rfl rfl ?_
  refine wp_bipush (v := 80) dX10_init_8 (by decide) ?_
  obtain ⟨f1, f2, hv⟩ := hv
  refine wp_newI (N := 80) dX10_init_10 aI (by decide) (by decide) (by decide) f1 f2 ?_
  generalize hnew h1 (.inl (0, 80, .inl (fun _ => 0))) 80 = h2 at hv ⊢
  generalize h1.2.1 = b3 at hv ⊢
  obtain ⟨ci, fs, c, s, q, hv⟩ := hv
  refine wp_putFR dX10_init_12 rfl c (w10_9 _ s) (Or.inr ⟨_, rfl⟩) q ?_
  generalize hset h2 a0 (.inr (ci, fs.set 9 (.ref b3))) = h4 at hv ⊢
  refine wp_aload_n (i := 0) dX10_init_15 rfl rfl ?_
  refine wp_bipush (v := 80) dX10_init_16 (by decide) ?_
  obtain ⟨f1, f2, hv⟩ := hv
  refine wp_newI (N := 80) dX10_init_18 aI (by decide) (by decide) (by decide) f1 f2 ?_
  generalize hnew h4 (.inl (0, 80, .inl (fun _ => 0))) 80 = h5 at hv ⊢
  generalize h4.2.1 = b6 at hv ⊢
  obtain ⟨ci, fs, c, s, q, hv⟩ := hv
  refine wp_putFR dX10_init_20 rfl c (w10_15 _ s) (Or.inr ⟨_, rfl⟩) q ?_
  generalize hset h5 a0 (.inr (ci, fs.set 10 (.ref b6))) = h7 at hv ⊢
  refine wp_aload_n (i := 0) dX10_init_23 rfl rfl ?_
  refine wp_bipush (v := 80) dX10_init_24 (by decide) ?_
  obtain ⟨f1, f2, hv⟩ := hv
  refine wp_newI (N := 80) dX10_init_26 aI (by decide) (by decide) (by decide) f1 f2 ?_
  generalize hnew h7 (.inl (0, 80, .inl (fun _ => 0))) 80 = h8 at hv ⊢
  generalize h7.2.1 = b9 at hv ⊢
  obtain ⟨ci, fs, c, s, q, hv⟩ := hv
  refine wp_putFR dX10_init_28 rfl c (w10_18 _ s) (Or.inr ⟨_, rfl⟩) q ?_
  generalize hset h8 a0 (.inr (ci, fs.set 11 (.ref b9))) = h10 at hv ⊢
  refine wp_aload_n (i := 0) dX10_init_31 rfl rfl ?_
  refine wp_iconst (v := -1) dX10_init_32 (by decide) ?_
  obtain ⟨ci, fs, c, s, q, hv⟩ := hv
  refine wp_putI dX10_init_33 c (w10_21 _ s) q ?_
  generalize hset h10 a0 (.inr (ci, fs.set 12 (.int (-1 : Int32)))) = h11 at hv ⊢
  obtain ⟨e, hv⟩ := hv
  exact wp_return dX10_init_36 rfl e hv
theorem vX11_ask_0 {G : Gp} {d : Nat} {h : AH} {fin : Nat × Nat} {Q : Option Value → AH → Prop} {a0 : Nat} (hv : FI [11] h a0 5 (fun v1 => ((v1 < (10 : Int32) → FR [11] h a0 17 (fun r2 => FR [11] h a0 2 (fun r3 => FI [11] h a0 3 (fun v4 => (∃ fs : List Value, h.1 r2 = some (.inr (0, fs)) ∧ ∃ fin' : Nat × Nat, cR h fin' fin ∧ wp G d mX0_readFrom 0 [(0, .ref r2), (1, .ref r3), (2, .int v4)] [] h fin' (fun r h5 => h5.2 = fin' → (∃ v6, r = some (.int v6) ∧ FS [11] h5 a0 3 (.int (0 : Int32)) (fun h7 => ((v6 = (-1 : Int32) → FR [11] h7 a0 4 (fun r8 => FI [11] h7 a0 5 (fun v9 => FR [11] h7 a0 17 (fun r10 => SR h7 r8 v9 r10 (fun h11 => NW h11 (.inr (0, [.int 0, .null, .null, .null, .int 0, .int 0, .int 0, .int 0, .int 0, .int 0, .int 0, .int 0, .int 0])) 13 fin (fun b13 h12 => (∃ fin' : Nat × Nat, cR h12 fin' fin ∧ wp G d mX0_init 0 [(0, .ref b13)] [] h12 fin' (fun r h14 => h14.2 = fin' → (r = none ∧ FS [11] h14 a0 17 (.ref b13) (fun h15 => FI [11] h15 a0 5 (fun v16 => FS [11] h15 a0 5 (.int (v16 + (1 : Int32))) (fun h17 => FI [11] h17 a0 5 (fun v18 => (h17.2 = fin ∧ Q (some (.int (v18 - (1 : Int32)))) h17)))))))))))))) ∧ (¬ v6 = (-1 : Int32) → (h7.2 = fin ∧ Q (some (.int ((-100 : Int32) - v6))) h7))))))))))) ∧ (¬ v1 < (10 : Int32) → (h.2 = fin ∧ Q (some (.int (-3 : Int32))) h))))) : wp G (d + 1) mX11_ask 0 [(0, .ref a0)] [] h fin Q := by
  refine wp_aload_n (i := 0) dX11_ask_0 rfl rfl ?_
  obtain ⟨_, _, v1, c, s, q, hv⟩ := hv
  refine wp_getfield dX11_ask_1 c (f11_138 _ s) q ?_
  refine wp_bipush (v := 10) dX11_ask_4 (by decide) ?_
  refine wp_icmp_lt 12 dX11_ask_6 (by decide) (fun q => ?_) (fun q => ?_)
  · replace hv := hv.1 q
    refine wp_aload_n (i := 0) dX11_ask_12 rfl rfl ?_
    obtain ⟨_, _, r2, c, s, q, hv⟩ := hv
    refine wp_getfield dX11_ask_13 c (f11_34 _ s) q ?_
    refine wp_aload_n (i := 0) dX11_ask_16 rfl rfl ?_
    obtain ⟨_, _, r3, c, s, q, hv⟩ := hv
    refine wp_getfield dX11_ask_17 c (f11_23 _ s) q ?_
    refine wp_aload_n (i := 0) dX11_ask_20 rfl rfl ?_
    obtain ⟨_, _, v4, c, s, q, hv⟩ := hv
    refine wp_getfield dX11_ask_21 c (f11_135 _ s) q ?_
    obtain ⟨fs, c, hv⟩ := hv
    obtain ⟨fin', hr, hv⟩ := hv
    refine wp_callV (vs := [.ref r3, .int v4]) (st := []) (fin' := fin') dX11_ask_24 c rfl k11_141_0 rfl (Nat.le_of_ble_eq_true rfl) (Nat.le_of_ble_eq_true rfl) hr (wp_mono hv ?_)
    intro r h5 hv e1
    replace hv := hv e1
    obtain ⟨v6, rfl, hv⟩ := hv
    change wp _ _ _ _ _ [.int v6] _ _ _
    refine wx_istore_n (ls' := [(0, .ref a0), (1, .int v6)]) (i := 1) dX11_ask_27 rfl (by decide) rfl ?_
    refine wp_aload_n (i := 0) dX11_ask_28 rfl rfl ?_
    refine wp_iconst (v := 0) dX11_ask_29 (by decide) ?_
    obtain ⟨ci, fs, c, s, q, hv⟩ := hv
    refine wp_putI dX11_ask_30 c (w11_135 _ s) q ?_
    generalize hset h5 a0 (.inr (ci, fs.set 3 (.int (0 : Int32)))) = h7 at hv ⊢
    refine wp_iload_n (i := 1) dX11_ask_33 rfl rfl ?_
    refine wp_iconst (v := -1) dX11_ask_34 (by decide) ?_
    refine wp_icmp_eq 43 dX11_ask_35 (by decide) (fun q => ?_) (fun q => ?_)
    · replace hv := hv.1 q
      refine wp_aload_n (i := 0) dX11_ask_43 rfl rfl ?_
      obtain ⟨_, _, r8, c, s, q, hv⟩ := hv
      refine wp_getfield dX11_ask_44 c (f11_29 _ s) q ?_
      refine wp_aload_n (i := 0) dX11_ask_47 rfl rfl ?_
      obtain ⟨_, _, v9, c, s, q, hv⟩ := hv
      refine wp_getfield dX11_ask_48 c (f11_138 _ s) q ?_
      refine wp_aload_n (i := 0) dX11_ask_51 rfl rfl ?_
      obtain ⟨_, _, r10, c, s, q, hv⟩ := hv
      refine wp_getfield dX11_ask_52 c (f11_34 _ s) q ?_
      obtain ⟨t, n, f, _, _, c, c2, z, q, hv⟩ := hv
      refine wx_aastR dX11_ask_55 c c2 z q ?_
      generalize hset h7 r8 (.inl (t, n, .inr (.inr (.inr (.inr (va_up f (v9).toNatClampNeg (some r10))))))) = h11 at hv ⊢
      refine wp_aload_n (i := 0) dX11_ask_56 rfl rfl ?_
      obtain ⟨f1, f2, hv⟩ := hv
      refine wp_new dX11_ask_57 n11_27 f1 f2 ?_
      generalize hnew h11 (.inr (0, [.int 0, .null, .null, .null, .int 0, .int 0, .int 0, .int 0, .int 0, .int 0, .int 0, .int 0, .int 0])) 13 = h12 at hv ⊢
      generalize h11.2.1 = b13 at hv ⊢
      refine wp_dupR dX11_ask_60 ?_
      obtain ⟨fin', hr, hv⟩ := hv
      refine wp_callIN (vs := []) (st := [.ref b13, .ref a0]) (fin' := fin') dX11_ask_61 k11_33 rfl (Nat.le_of_ble_eq_true rfl) (Nat.le_of_ble_eq_true rfl) hr (wp_mono hv ?_)
      intro r h14 hv e1
      replace hv := hv e1
      obtain ⟨rfl, hv⟩ := hv
      change wp _ _ _ _ _ [.ref b13, .ref a0] _ _ _
      obtain ⟨ci, fs, c, s, q, hv⟩ := hv
      refine wp_putR dX11_ask_64 c (w11_34 _ s) (Or.inl ⟨_, rfl⟩) q ?_
      generalize hset h14 a0 (.inr (ci, fs.set 17 (.ref b13))) = h15 at hv ⊢
      refine wp_aload_n (i := 0) dX11_ask_67 rfl rfl ?_
      refine wp_dupR dX11_ask_68 ?_
      obtain ⟨_, _, v16, c, s, q, hv⟩ := hv
      refine wp_getfield dX11_ask_69 c (f11_138 _ s) q ?_
      refine wp_iconst (v := 1) dX11_ask_72 (by decide) ?_
      refine wp_iadd dX11_ask_73 ?_
      obtain ⟨ci, fs, c, s, q, hv⟩ := hv
      refine wp_putI dX11_ask_74 c (w11_138 _ s) q ?_
      generalize hset h15 a0 (.inr (ci, fs.set 5 (.int (v16 + (1 : Int32))))) = h17 at hv ⊢
      refine wp_aload_n (i := 0) dX11_ask_77 rfl rfl ?_
      obtain ⟨_, _, v18, c, s, q, hv⟩ := hv
      refine wp_getfield dX11_ask_78 c (f11_138 _ s) q ?_
      refine wp_iconst (v := 1) dX11_ask_81 (by decide) ?_
      refine wp_isub dX11_ask_82 ?_
      obtain ⟨e, hv⟩ := hv
      exact wp_ireturn dX11_ask_83 rfl rfl e hv
    · replace hv := hv.2 q
      refine wp_bipush (v := -100) dX11_ask_38 (by decide) ?_
      refine wp_iload_n (i := 1) dX11_ask_40 rfl rfl ?_
      refine wp_isub dX11_ask_41 ?_
      obtain ⟨e, hv⟩ := hv
      exact wp_ireturn dX11_ask_42 rfl rfl e hv
  · replace hv := hv.2 q
    refine wp_bipush (v := -3) dX11_ask_9 (by decide) ?_
    obtain ⟨e, hv⟩ := hv
    exact wp_ireturn dX11_ask_11 rfl rfl e hv
theorem vX11_newStone_0 {G : Gp} {d : Nat} {h : AH} {fin : Nat × Nat} {Q : Option Value → AH → Prop} {a0 : Nat} {x1 : Int32} {x2 : Int32} {x3 : Int32} (hv : ((x1 = (1 : Int32) → NW h (.inr (3, [.null, .int 0, .int 0, .null, .null, .int 0, .int 0, .int 0, .int 0, .null, .int 0])) 11 fin (fun b2 h1 => FR [11] h1 a0 0 (fun r3 => (∃ fin' : Nat × Nat, cR h1 fin' fin ∧ wp G d mX3_init 0 [(0, .ref b2), (1, .ref r3), (2, .int x2), (3, .int x3)] [] h1 fin' (fun r h4 => h4.2 = fin' → (r = none ∧ (h4.2 = fin ∧ Q (some (.ref b2)) h4))))))) ∧ (x1 = (2 : Int32) → NW h (.inr (4, [.null, .int 0, .int 0, .null, .null, .int 0, .int 0, .int 0, .int 0, .null, .int 0])) 11 fin (fun b6 h5 => FR [11] h5 a0 0 (fun r7 => (∃ fin' : Nat × Nat, cR h5 fin' fin ∧ wp G d mX4_init 0 [(0, .ref b6), (1, .ref r7), (2, .int x2), (3, .int x3)] [] h5 fin' (fun r h8 => h8.2 = fin' → (r = none ∧ (h8.2 = fin ∧ Q (some (.ref b6)) h8))))))) ∧ (x1 = (3 : Int32) → NW h (.inr (2, [.null, .int 0, .int 0, .null, .null, .int 0, .int 0, .int 0, .int 0, .null, .int 0])) 11 fin (fun b10 h9 => FR [11] h9 a0 0 (fun r11 => (∃ fin' : Nat × Nat, cR h9 fin' fin ∧ wp G d mX2_init 0 [(0, .ref b10), (1, .ref r11), (2, .int x2), (3, .int x3)] [] h9 fin' (fun r h12 => h12.2 = fin' → (r = none ∧ (h12.2 = fin ∧ Q (some (.ref b10)) h12))))))) ∧ (x1 = (4 : Int32) → NW h (.inr (7, [.null, .int 0, .int 0, .null, .null, .int 0, .int 0, .int 0, .int 0, .null, .int 0])) 11 fin (fun b14 h13 => FR [11] h13 a0 0 (fun r15 => (∃ fin' : Nat × Nat, cR h13 fin' fin ∧ wp G d mX7_init 0 [(0, .ref b14), (1, .ref r15), (2, .int x2), (3, .int x3), (4, .int (80 : Int32))] [] h13 fin' (fun r h16 => h16.2 = fin' → (r = none ∧ (h16.2 = fin ∧ Q (some (.ref b14)) h16))))))) ∧ (x1 = (5 : Int32) → NW h (.inr (10, [.null, .int 0, .int 0, .null, .null, .int 0, .int 0, .int 0, .int 0, .null, .null, .null, .int 0, .int 0])) 14 fin (fun b18 h17 => FR [11] h17 a0 0 (fun r19 => (∃ fin' : Nat × Nat, cR h17 fin' fin ∧ wp G d mX10_init 0 [(0, .ref b18), (1, .ref r19), (2, .int x2), (3, .int x3)] [] h17 fin' (fun r h20 => h20.2 = fin' → (r = none ∧ (h20.2 = fin ∧ Q (some (.ref b18)) h20))))))) ∧ (x1 = (6 : Int32) → NW h (.inr (1, [.null, .int 0, .int 0, .null, .null, .int 0, .int 0, .int 0, .int 0, .null, .int 0, .int 0])) 12 fin (fun b22 h21 => FR [11] h21 a0 0 (fun r23 => (∃ fin' : Nat × Nat, cR h21 fin' fin ∧ wp G d mX1_init 0 [(0, .ref b22), (1, .ref r23), (2, .int x2), (3, .int x3)] [] h21 fin' (fun r h24 => h24.2 = fin' → (r = none ∧ (h24.2 = fin ∧ Q (some (.ref b22)) h24))))))) ∧ (x1 = (7 : Int32) → NW h (.inr (6, [.null, .int 0, .int 0, .null, .null, .int 0, .int 0, .int 0, .int 0, .null, .int 0, .null])) 12 fin (fun b26 h25 => FR [11] h25 a0 0 (fun r27 => (∃ fin' : Nat × Nat, cR h25 fin' fin ∧ wp G d mX6_init 0 [(0, .ref b26), (1, .ref r27), (2, .int x2), (3, .int x3)] [] h25 fin' (fun r h28 => h28.2 = fin' → (r = none ∧ (h28.2 = fin ∧ Q (some (.ref b26)) h28))))))) ∧ ((¬ x1 = (1 : Int32) ∧ ¬ x1 = (2 : Int32) ∧ ¬ x1 = (3 : Int32) ∧ ¬ x1 = (4 : Int32) ∧ ¬ x1 = (5 : Int32) ∧ ¬ x1 = (6 : Int32) ∧ ¬ x1 = (7 : Int32)) → NW h (.inr (5, [.null, .int 0, .int 0, .null, .null, .int 0, .int 0, .int 0, .int 0])) 9 fin (fun b30 h29 => FR [11] h29 a0 0 (fun r31 => (∃ fin' : Nat × Nat, cR h29 fin' fin ∧ wp G d mX5_init 0 [(0, .ref b30), (1, .ref r31), (2, .int x2), (3, .int x3)] [] h29 fin' (fun r h32 => h32.2 = fin' → (r = none ∧ (h32.2 = fin ∧ Q (some (.ref b30)) h32))))))))) : wp G (d + 1) mX11_newStone 0 [(0, .ref a0), (1, .int x1), (2, .int x2), (3, .int x3)] [] h fin Q := by
  refine wp_iload_n (i := 1) dX11_newStone_0 rfl rfl ?_
  by_cases q0 : x1 = (1 : Int32)
  · refine wx_tableIn (off := 43) (1 : Int32) q0 44 dX11_newStone_1 (by decide) (by decide) (by decide +kernel) (by decide) ?_
    replace hv := hv.1 q0
    obtain ⟨f1, f2, hv⟩ := hv
    refine wp_new dX11_newStone_44 n11_172 f1 f2 ?_
    generalize hnew h (.inr (3, [.null, .int 0, .int 0, .null, .null, .int 0, .int 0, .int 0, .int 0, .null, .int 0])) 11 = h1 at hv ⊢
    generalize h.2.1 = b2 at hv ⊢
    refine wp_dupR dX11_newStone_47 ?_
    refine wp_aload_n (i := 0) dX11_newStone_48 rfl rfl ?_
    obtain ⟨_, _, r3, c, s, q, hv⟩ := hv
    refine wp_getfield dX11_newStone_49 c (f11_10 _ s) q ?_
    refine wp_iload_n (i := 2) dX11_newStone_52 rfl rfl ?_
    refine wp_iload_n (i := 3) dX11_newStone_53 rfl rfl ?_
    obtain ⟨fin', hr, hv⟩ := hv
    refine wp_callI (vs := [.ref r3, .int x2, .int x3]) (st := [.ref b2]) (fin' := fin') dX11_newStone_54 k11_174 rfl (Nat.le_of_ble_eq_true rfl) (Nat.le_of_ble_eq_true rfl) hr (wp_mono hv ?_)
    intro r h4 hv e1
    replace hv := hv e1
    obtain ⟨rfl, hv⟩ := hv
    change wp _ _ _ _ _ [.ref b2] _ _ _
    obtain ⟨e, hv⟩ := hv
    exact wp_areturn dX11_newStone_57 rfl (Or.inl ⟨_, rfl⟩) e hv
  by_cases q1 : x1 = (2 : Int32)
  · refine wx_tableIn (off := 57) (2 : Int32) q1 58 dX11_newStone_1 (by decide) (by decide) (by decide +kernel) (by decide) ?_
    replace hv := hv.2.1 q1
    obtain ⟨f1, f2, hv⟩ := hv
    refine wp_new dX11_newStone_58 n11_177 f1 f2 ?_
    generalize hnew h (.inr (4, [.null, .int 0, .int 0, .null, .null, .int 0, .int 0, .int 0, .int 0, .null, .int 0])) 11 = h5 at hv ⊢
    generalize h.2.1 = b6 at hv ⊢
    refine wp_dupR dX11_newStone_61 ?_
    refine wp_aload_n (i := 0) dX11_newStone_62 rfl rfl ?_
    obtain ⟨_, _, r7, c, s, q, hv⟩ := hv
    refine wp_getfield dX11_newStone_63 c (f11_10 _ s) q ?_
    refine wp_iload_n (i := 2) dX11_newStone_66 rfl rfl ?_
    refine wp_iload_n (i := 3) dX11_newStone_67 rfl rfl ?_
    obtain ⟨fin', hr, hv⟩ := hv
    refine wp_callI (vs := [.ref r7, .int x2, .int x3]) (st := [.ref b6]) (fin' := fin') dX11_newStone_68 k11_179 rfl (Nat.le_of_ble_eq_true rfl) (Nat.le_of_ble_eq_true rfl) hr (wp_mono hv ?_)
    intro r h8 hv e1
    replace hv := hv e1
    obtain ⟨rfl, hv⟩ := hv
    change wp _ _ _ _ _ [.ref b6] _ _ _
    obtain ⟨e, hv⟩ := hv
    exact wp_areturn dX11_newStone_71 rfl (Or.inl ⟨_, rfl⟩) e hv
  by_cases q2 : x1 = (3 : Int32)
  · refine wx_tableIn (off := 71) (3 : Int32) q2 72 dX11_newStone_1 (by decide) (by decide) (by decide +kernel) (by decide) ?_
    replace hv := hv.2.2.1 q2
    obtain ⟨f1, f2, hv⟩ := hv
    refine wp_new dX11_newStone_72 n11_180 f1 f2 ?_
    generalize hnew h (.inr (2, [.null, .int 0, .int 0, .null, .null, .int 0, .int 0, .int 0, .int 0, .null, .int 0])) 11 = h9 at hv ⊢
    generalize h.2.1 = b10 at hv ⊢
    refine wp_dupR dX11_newStone_75 ?_
    refine wp_aload_n (i := 0) dX11_newStone_76 rfl rfl ?_
    obtain ⟨_, _, r11, c, s, q, hv⟩ := hv
    refine wp_getfield dX11_newStone_77 c (f11_10 _ s) q ?_
    refine wp_iload_n (i := 2) dX11_newStone_80 rfl rfl ?_
    refine wp_iload_n (i := 3) dX11_newStone_81 rfl rfl ?_
    obtain ⟨fin', hr, hv⟩ := hv
    refine wp_callI (vs := [.ref r11, .int x2, .int x3]) (st := [.ref b10]) (fin' := fin') dX11_newStone_82 k11_182 rfl (Nat.le_of_ble_eq_true rfl) (Nat.le_of_ble_eq_true rfl) hr (wp_mono hv ?_)
    intro r h12 hv e1
    replace hv := hv e1
    obtain ⟨rfl, hv⟩ := hv
    change wp _ _ _ _ _ [.ref b10] _ _ _
    obtain ⟨e, hv⟩ := hv
    exact wp_areturn dX11_newStone_85 rfl (Or.inl ⟨_, rfl⟩) e hv
  by_cases q3 : x1 = (4 : Int32)
  · refine wx_tableIn (off := 85) (4 : Int32) q3 86 dX11_newStone_1 (by decide) (by decide) (by decide +kernel) (by decide) ?_
    replace hv := hv.2.2.2.1 q3
    obtain ⟨f1, f2, hv⟩ := hv
    refine wp_new dX11_newStone_86 n11_183 f1 f2 ?_
    generalize hnew h (.inr (7, [.null, .int 0, .int 0, .null, .null, .int 0, .int 0, .int 0, .int 0, .null, .int 0])) 11 = h13 at hv ⊢
    generalize h.2.1 = b14 at hv ⊢
    refine wp_dupR dX11_newStone_89 ?_
    refine wp_aload_n (i := 0) dX11_newStone_90 rfl rfl ?_
    obtain ⟨_, _, r15, c, s, q, hv⟩ := hv
    refine wp_getfield dX11_newStone_91 c (f11_10 _ s) q ?_
    refine wp_iload_n (i := 2) dX11_newStone_94 rfl rfl ?_
    refine wp_iload_n (i := 3) dX11_newStone_95 rfl rfl ?_
    refine wp_bipush (v := 80) dX11_newStone_96 (by decide) ?_
    obtain ⟨fin', hr, hv⟩ := hv
    refine wp_callI (vs := [.ref r15, .int x2, .int x3, .int (80 : Int32)]) (st := [.ref b14]) (fin' := fin') dX11_newStone_98 k11_185 rfl (Nat.le_of_ble_eq_true rfl) (Nat.le_of_ble_eq_true rfl) hr (wp_mono hv ?_)
    intro r h16 hv e1
    replace hv := hv e1
    obtain ⟨rfl, hv⟩ := hv
    change wp _ _ _ _ _ [.ref b14] _ _ _
    obtain ⟨e, hv⟩ := hv
    exact wp_areturn dX11_newStone_101 rfl (Or.inl ⟨_, rfl⟩) e hv
  by_cases q4 : x1 = (5 : Int32)
  · refine wx_tableIn (off := 101) (5 : Int32) q4 102 dX11_newStone_1 (by decide) (by decide) (by decide +kernel) (by decide) ?_
    replace hv := hv.2.2.2.2.1 q4
    obtain ⟨f1, f2, hv⟩ := hv
    refine wp_new dX11_newStone_102 n11_188 f1 f2 ?_
    generalize hnew h (.inr (10, [.null, .int 0, .int 0, .null, .null, .int 0, .int 0, .int 0, .int 0, .null, .null, .null, .int 0, .int 0])) 14 = h17 at hv ⊢
    generalize h.2.1 = b18 at hv ⊢
    refine wp_dupR dX11_newStone_105 ?_
    refine wp_aload_n (i := 0) dX11_newStone_106 rfl rfl ?_
    obtain ⟨_, _, r19, c, s, q, hv⟩ := hv
    refine wp_getfield dX11_newStone_107 c (f11_10 _ s) q ?_
    refine wp_iload_n (i := 2) dX11_newStone_110 rfl rfl ?_
    refine wp_iload_n (i := 3) dX11_newStone_111 rfl rfl ?_
    obtain ⟨fin', hr, hv⟩ := hv
    refine wp_callI (vs := [.ref r19, .int x2, .int x3]) (st := [.ref b18]) (fin' := fin') dX11_newStone_112 k11_190 rfl (Nat.le_of_ble_eq_true rfl) (Nat.le_of_ble_eq_true rfl) hr (wp_mono hv ?_)
    intro r h20 hv e1
    replace hv := hv e1
    obtain ⟨rfl, hv⟩ := hv
    change wp _ _ _ _ _ [.ref b18] _ _ _
    obtain ⟨e, hv⟩ := hv
    exact wp_areturn dX11_newStone_115 rfl (Or.inl ⟨_, rfl⟩) e hv
  by_cases q5 : x1 = (6 : Int32)
  · refine wx_tableIn (off := 115) (6 : Int32) q5 116 dX11_newStone_1 (by decide) (by decide) (by decide +kernel) (by decide) ?_
    replace hv := hv.2.2.2.2.2.1 q5
    obtain ⟨f1, f2, hv⟩ := hv
    refine wp_new dX11_newStone_116 n11_191 f1 f2 ?_
    generalize hnew h (.inr (1, [.null, .int 0, .int 0, .null, .null, .int 0, .int 0, .int 0, .int 0, .null, .int 0, .int 0])) 12 = h21 at hv ⊢
    generalize h.2.1 = b22 at hv ⊢
    refine wp_dupR dX11_newStone_119 ?_
    refine wp_aload_n (i := 0) dX11_newStone_120 rfl rfl ?_
    obtain ⟨_, _, r23, c, s, q, hv⟩ := hv
    refine wp_getfield dX11_newStone_121 c (f11_10 _ s) q ?_
    refine wp_iload_n (i := 2) dX11_newStone_124 rfl rfl ?_
    refine wp_iload_n (i := 3) dX11_newStone_125 rfl rfl ?_
    obtain ⟨fin', hr, hv⟩ := hv
    refine wp_callI (vs := [.ref r23, .int x2, .int x3]) (st := [.ref b22]) (fin' := fin') dX11_newStone_126 k11_193 rfl (Nat.le_of_ble_eq_true rfl) (Nat.le_of_ble_eq_true rfl) hr (wp_mono hv ?_)
    intro r h24 hv e1
    replace hv := hv e1
    obtain ⟨rfl, hv⟩ := hv
    change wp _ _ _ _ _ [.ref b22] _ _ _
    obtain ⟨e, hv⟩ := hv
    exact wp_areturn dX11_newStone_129 rfl (Or.inl ⟨_, rfl⟩) e hv
  by_cases q6 : x1 = (7 : Int32)
  · refine wx_tableIn (off := 129) (7 : Int32) q6 130 dX11_newStone_1 (by decide) (by decide) (by decide +kernel) (by decide) ?_
    replace hv := hv.2.2.2.2.2.2.1 q6
    obtain ⟨f1, f2, hv⟩ := hv
    refine wp_new dX11_newStone_130 n11_194 f1 f2 ?_
    generalize hnew h (.inr (6, [.null, .int 0, .int 0, .null, .null, .int 0, .int 0, .int 0, .int 0, .null, .int 0, .null])) 12 = h25 at hv ⊢
    generalize h.2.1 = b26 at hv ⊢
    refine wp_dupR dX11_newStone_133 ?_
    refine wp_aload_n (i := 0) dX11_newStone_134 rfl rfl ?_
    obtain ⟨_, _, r27, c, s, q, hv⟩ := hv
    refine wp_getfield dX11_newStone_135 c (f11_10 _ s) q ?_
    refine wp_iload_n (i := 2) dX11_newStone_138 rfl rfl ?_
    refine wp_iload_n (i := 3) dX11_newStone_139 rfl rfl ?_
    obtain ⟨fin', hr, hv⟩ := hv
    refine wp_callI (vs := [.ref r27, .int x2, .int x3]) (st := [.ref b26]) (fin' := fin') dX11_newStone_140 k11_196 rfl (Nat.le_of_ble_eq_true rfl) (Nat.le_of_ble_eq_true rfl) hr (wp_mono hv ?_)
    intro r h28 hv e1
    replace hv := hv e1
    obtain ⟨rfl, hv⟩ := hv
    change wp _ _ _ _ _ [.ref b26] _ _ _
    obtain ⟨e, hv⟩ := hv
    exact wp_areturn dX11_newStone_143 rfl (Or.inl ⟨_, rfl⟩) e hv
  refine wp_tableOut 144 dX11_newStone_1 (by have n0 := lv_neT q0 (show ((1 : Int32)).toInt = 1 by decide); have n1 := lv_neT q1 (show ((2 : Int32)).toInt = 2 by decide); have n2 := lv_neT q2 (show ((3 : Int32)).toInt = 3 by decide); have n3 := lv_neT q3 (show ((4 : Int32)).toInt = 4 by decide); have n4 := lv_neT q4 (show ((5 : Int32)).toInt = 5 by decide); have n5 := lv_neT q5 (show ((6 : Int32)).toInt = 6 by decide); have n6 := lv_neT q6 (show ((7 : Int32)).toInt = 7 by decide); omega) (by decide) ?_
  replace hv := hv.2.2.2.2.2.2.2 ⟨q0, q1, q2, q3, q4, q5, q6⟩
  obtain ⟨f1, f2, hv⟩ := hv
  refine wp_new dX11_newStone_144 n11_38 f1 f2 ?_
  generalize hnew h (.inr (5, [.null, .int 0, .int 0, .null, .null, .int 0, .int 0, .int 0, .int 0])) 9 = h29 at hv ⊢
  generalize h.2.1 = b30 at hv ⊢
  refine wp_dupR dX11_newStone_147 ?_
  refine wp_aload_n (i := 0) dX11_newStone_148 rfl rfl ?_
  obtain ⟨_, _, r31, c, s, q, hv⟩ := hv
  refine wp_getfield dX11_newStone_149 c (f11_10 _ s) q ?_
  refine wp_iload_n (i := 2) dX11_newStone_152 rfl rfl ?_
  refine wp_iload_n (i := 3) dX11_newStone_153 rfl rfl ?_
  obtain ⟨fin', hr, hv⟩ := hv
  refine wp_callI (vs := [.ref r31, .int x2, .int x3]) (st := [.ref b30]) (fin' := fin') dX11_newStone_154 k11_197 rfl (Nat.le_of_ble_eq_true rfl) (Nat.le_of_ble_eq_true rfl) hr (wp_mono hv ?_)
  intro r h32 hv e1
  replace hv := hv e1
  obtain ⟨rfl, hv⟩ := hv
  change wp _ _ _ _ _ [.ref b30] _ _ _
  obtain ⟨e, hv⟩ := hv
  exact wp_areturn dX11_newStone_157 rfl (Or.inl ⟨_, rfl⟩) e hv
theorem vX11_stone_0 {G : Gp} {d : Nat} {h : AH} {fin : Nat × Nat} {Q : Option Value → AH → Prop} {a0 : Nat} {x1 : Int32} {x2 : Int32} (hv : (∃ fin' : Nat × Nat, cR h fin' fin ∧ wp G d mX11_isWithin 0 [(0, .int x1), (1, .int (0 : Int32)), (2, .int (7 : Int32))] [] h fin' (fun r h1 => h1.2 = fin' → (∃ v2, r = some (.int v2) ∧ ((v2 = 0 → (h1.2 = fin ∧ Q (some (.int (-1 : Int32))) h1)) ∧ (¬ v2 = 0 → (∃ fin' : Nat × Nat, cR h1 fin' fin ∧ wp G d mX11_isField 0 [(0, .int x2)] [] h1 fin' (fun r h3 => h3.2 = fin' → (∃ v4, r = some (.int v4) ∧ ((v4 ≠ 0 → FI [11] h3 a0 7 (fun v5 => ((v5 < (10 : Int32) → FI [11] h3 a0 7 (fun v6 => (∃ fs : List Value, h3.1 a0 = some (.inr (11, fs)) ∧ ∃ fin' : Nat × Nat, cR h3 fin' fin ∧ wp G d mX11_newStone 0 [(0, .ref a0), (1, .int x1), (2, .int v6), (3, .int x2)] [] h3 fin' (fun r h7 => h7.2 = fin' → (∃ b8, r = some (.ref b8) ∧ wp G (d + 1) mX11_stone 45 [(0, .ref a0), (1, .int x1), (2, .int x2), (3, .ref b8), (4, .int (0 : Int32))] [] h7 fin Q))))) ∧ (¬ v5 < (10 : Int32) → (h3.2 = fin ∧ Q (some (.int (-3 : Int32))) h3))))) ∧ (v4 = 0 → (h3.2 = fin ∧ Q (some (.int (-1 : Int32))) h3)))))))))))) : wp G (d + 1) mX11_stone 0 [(0, .ref a0), (1, .int x1), (2, .int x2)] [] h fin Q := by
  refine wp_iload_n (i := 1) dX11_stone_0 rfl rfl ?_
  refine wp_iconst (v := 0) dX11_stone_1 (by decide) ?_
  refine wp_bipush (v := 7) dX11_stone_2 (by decide) ?_
  obtain ⟨fin', hr, hv⟩ := hv
  refine wp_callS (vs := [.int x1, .int (0 : Int32), .int (7 : Int32)]) (st := []) (fin' := fin') dX11_stone_4 k11_110 rfl (Nat.le_of_ble_eq_true rfl) (Nat.le_of_ble_eq_true rfl) hr (wp_mono hv ?_)
  intro r h1 hv e1
  replace hv := hv e1
  obtain ⟨v2, rfl, hv⟩ := hv
  change wp _ _ _ _ _ [.int v2] _ _ _
  refine wp_if_eq 17 dX11_stone_7 (by decide) (fun q => ?_) (fun q => ?_)
  · replace hv := hv.1 q
    refine wp_iconst (v := -1) dX11_stone_17 (by decide) ?_
    obtain ⟨e, hv⟩ := hv
    exact wp_ireturn dX11_stone_18 rfl rfl e hv
  · replace hv := hv.2 q
    refine wp_iload_n (i := 2) dX11_stone_10 rfl rfl ?_
    obtain ⟨fin', hr, hv⟩ := hv
    refine wp_callS (vs := [.int x2]) (st := []) (fin' := fin') dX11_stone_11 k11_118 rfl (Nat.le_of_ble_eq_true rfl) (Nat.le_of_ble_eq_true rfl) hr (wp_mono hv ?_)
    intro r h3 hv e1
    replace hv := hv e1
    obtain ⟨v4, rfl, hv⟩ := hv
    change wp _ _ _ _ _ [.int v4] _ _ _
    refine wp_if_ne 19 dX11_stone_14 (by decide) (fun q => ?_) (fun q => ?_)
    · replace hv := hv.1 q
      refine wp_aload_n (i := 0) dX11_stone_19 rfl rfl ?_
      obtain ⟨_, _, v5, c, s, q, hv⟩ := hv
      refine wp_getfield dX11_stone_20 c (f11_91 _ s) q ?_
      refine wp_bipush (v := 10) dX11_stone_23 (by decide) ?_
      refine wp_icmp_lt 31 dX11_stone_25 (by decide) (fun q => ?_) (fun q => ?_)
      · replace hv := hv.1 q
        refine wp_aload_n (i := 0) dX11_stone_31 rfl rfl ?_
        refine wp_iload_n (i := 1) dX11_stone_32 rfl rfl ?_
        refine wp_aload_n (i := 0) dX11_stone_33 rfl rfl ?_
        obtain ⟨_, _, v6, c, s, q, hv⟩ := hv
        refine wp_getfield dX11_stone_34 c (f11_91 _ s) q ?_
        refine wp_iload_n (i := 2) dX11_stone_37 rfl rfl ?_
        obtain ⟨fs, c, hv⟩ := hv
        obtain ⟨fin', hr, hv⟩ := hv
        refine wp_callV (vs := [.int x1, .int v6, .int x2]) (st := []) (fin' := fin') dX11_stone_38 c rfl k11_168_11 rfl (Nat.le_of_ble_eq_true rfl) (Nat.le_of_ble_eq_true rfl) hr (wp_mono hv ?_)
        intro r h7 hv e1
        replace hv := hv e1
        obtain ⟨b8, rfl, hv⟩ := hv
        change wp _ _ _ _ _ [.ref b8] _ _ _
        refine wx_astore_n (ls' := [(0, .ref a0), (1, .int x1), (2, .int x2), (3, .ref b8)]) (i := 3) dX11_stone_41 rfl (by decide) rfl ?_
        refine wp_iconst (v := 0) dX11_stone_42 (by decide) ?_
        refine wx_istore (ls' := [(0, .ref a0), (1, .int x1), (2, .int x2), (3, .ref b8), (4, .int (0 : Int32))]) dX11_stone_43 (by decide) rfl ?_
        exact hv
      · replace hv := hv.2 q
        refine wp_bipush (v := -3) dX11_stone_28 (by decide) ?_
        obtain ⟨e, hv⟩ := hv
        exact wp_ireturn dX11_stone_30 rfl rfl e hv
    · replace hv := hv.2 q
      refine wp_iconst (v := -1) dX11_stone_17 (by decide) ?_
      obtain ⟨e, hv⟩ := hv
      exact wp_ireturn dX11_stone_18 rfl rfl e hv
theorem vX11_stone_45 {G : Gp} {d : Nat} {h : AH} {fin : Nat × Nat} {Q : Option Value → AH → Prop} {a0 : Nat} {x1 : Int32} {x2 : Int32} {a3 : Nat} {x4 : Int32} (hv : FR [11] h a0 0 (fun r1 => FI [8] h r1 2 (fun v2 => ((v2 ≤ x4 → FR [11] h a0 6 (fun r3 => FI [11] h a0 7 (fun v4 => SR h r3 v4 a3 (fun h5 => FI [11] h5 a0 7 (fun v6 => FS [11] h5 a0 7 (.int (v6 + (1 : Int32))) (fun h7 => FI [11] h7 a0 7 (fun v8 => (h7.2 = fin ∧ Q (some (.int (v8 - (1 : Int32)))) h7)))))))) ∧ (¬ v2 ≤ x4 → FR [11] h a0 0 (fun r9 => (∃ fs : List Value, h.1 r9 = some (.inr (8, fs)) ∧ ∃ fin' : Nat × Nat, cR h fin' fin ∧ wp G d mX8_isIn 0 [(0, .ref r9), (1, .int x4)] [] h fin' (fun r h10 => h10.2 = fin' → (∃ v11, r = some (.int v11) ∧ ((v11 = 0 → wp G (d + 1) mX11_stone 45 [(0, .ref a0), (1, .int x1), (2, .int x2), (3, .ref a3), (4, .int (x4 + 1))] [] h10 fin Q) ∧ (¬ v11 = 0 → (∃ (ci : Nat) (fs : List Value) (M' : AM), h10.1 a3 = some (.inr (ci, fs)) ∧ vt11_94 ci = some M' ∧ ∃ fin' : Nat × Nat, cR h10 fin' fin ∧ wp G d M' 0 [(0, .ref a3), (1, .int x4)] [] h10 fin' (fun r h12 => h12.2 = fin' → (r = none ∧ wp G (d + 1) mX11_stone 45 [(0, .ref a0), (1, .int x1), (2, .int x2), (3, .ref a3), (4, .int (x4 + 1))] [] h12 fin Q)))))))))))))) : wp G (d + 1) mX11_stone 45 [(0, .ref a0), (1, .int x1), (2, .int x2), (3, .ref a3), (4, .int x4)] [] h fin Q := by
  refine wp_iload dX11_stone_45 rfl ?_
  refine wp_aload_n (i := 0) dX11_stone_47 rfl rfl ?_
  obtain ⟨_, _, r1, c, s, q, hv⟩ := hv
  refine wp_getfield dX11_stone_48 c (f11_10 _ s) q ?_
  obtain ⟨_, _, v2, c, s, q, hv⟩ := hv
  refine wp_getfield dX11_stone_51 c (f11_83 _ s) q ?_
  refine wp_icmp_ge 81 dX11_stone_54 (by decide) (fun q => ?_) (fun q => ?_)
  · replace hv := hv.1 q
    refine wp_aload_n (i := 0) dX11_stone_81 rfl rfl ?_
    obtain ⟨_, _, r3, c, s, q, hv⟩ := hv
    refine wp_getfield dX11_stone_82 c (f11_40 _ s) q ?_
    refine wp_aload_n (i := 0) dX11_stone_85 rfl rfl ?_
    obtain ⟨_, _, v4, c, s, q, hv⟩ := hv
    refine wp_getfield dX11_stone_86 c (f11_91 _ s) q ?_
    refine wp_aload_n (i := 3) dX11_stone_89 rfl rfl ?_
    obtain ⟨t, n, f, _, _, c, c2, z, q, hv⟩ := hv
    refine wx_aastR dX11_stone_90 c c2 z q ?_
    generalize hset h r3 (.inl (t, n, .inr (.inr (.inr (.inr (va_up f (v4).toNatClampNeg (some a3))))))) = h5 at hv ⊢
    refine wp_aload_n (i := 0) dX11_stone_91 rfl rfl ?_
    refine wp_dupR dX11_stone_92 ?_
    obtain ⟨_, _, v6, c, s, q, hv⟩ := hv
    refine wp_getfield dX11_stone_93 c (f11_91 _ s) q ?_
    refine wp_iconst (v := 1) dX11_stone_96 (by decide) ?_
    refine wp_iadd dX11_stone_97 ?_
    obtain ⟨ci, fs, c, s, q, hv⟩ := hv
    refine wp_putI dX11_stone_98 c (w11_91 _ s) q ?_
    generalize hset h5 a0 (.inr (ci, fs.set 7 (.int (v6 + (1 : Int32))))) = h7 at hv ⊢
    refine wp_aload_n (i := 0) dX11_stone_101 rfl rfl ?_
    obtain ⟨_, _, v8, c, s, q, hv⟩ := hv
    refine wp_getfield dX11_stone_102 c (f11_91 _ s) q ?_
    refine wp_iconst (v := 1) dX11_stone_105 (by decide) ?_
    refine wp_isub dX11_stone_106 ?_
    obtain ⟨e, hv⟩ := hv
    exact wp_ireturn dX11_stone_107 rfl rfl e hv
  · replace hv := hv.2 q
    refine wp_aload_n (i := 0) dX11_stone_57 rfl rfl ?_
    obtain ⟨_, _, r9, c, s, q, hv⟩ := hv
    refine wp_getfield dX11_stone_58 c (f11_10 _ s) q ?_
    refine wp_iload dX11_stone_61 rfl ?_
    obtain ⟨fs, c, hv⟩ := hv
    obtain ⟨fin', hr, hv⟩ := hv
    refine wp_callV (vs := [.int x4]) (st := []) (fin' := fin') dX11_stone_63 c rfl k11_101_8 rfl (Nat.le_of_ble_eq_true rfl) (Nat.le_of_ble_eq_true rfl) hr (wp_mono hv ?_)
    intro r h10 hv e1
    replace hv := hv e1
    obtain ⟨v11, rfl, hv⟩ := hv
    change wp _ _ _ _ _ [.int v11] _ _ _
    refine wp_if_eq 75 dX11_stone_66 (by decide) (fun q => ?_) (fun q => ?_)
    · replace hv := hv.1 q
      refine wx_iinc (v := 1) (ls' := [(0, .ref a0), (1, .int x1), (2, .int x2), (3, .ref a3), (4, .int (x4 + 1))]) dX11_stone_75 rfl (by decide) (by decide) rfl ?_
      refine wp_goto 45 dX11_stone_78 (by decide) ?_
      exact hv
    · replace hv := hv.2 q
      refine wp_aload_n (i := 3) dX11_stone_69 rfl rfl ?_
      refine wp_iload dX11_stone_70 rfl ?_
      obtain ⟨ci, fs, M', c, z, hv⟩ := hv
      obtain ⟨fin', hr, hv⟩ := hv
      refine wp_callX (vs := [.int x4]) (st := []) (fin' := fin') dX11_stone_72 c (kx11_94 z).1 rfl (kx11_94 z).2 (Nat.le_of_ble_eq_true rfl) hr (wp_mono hv ?_)
      intro r h12 hv e1
      replace hv := hv e1
      obtain ⟨rfl, hv⟩ := hv
      change wp _ _ _ _ _ [] _ _ _
      refine wx_iinc (v := 1) (ls' := [(0, .ref a0), (1, .int x1), (2, .int x2), (3, .ref a3), (4, .int (x4 + 1))]) dX11_stone_75 rfl (by decide) (by decide) rfl ?_
      refine wp_goto 45 dX11_stone_78 (by decide) ?_
      exact hv
