/-! ===== what makes objects, raw ===== -/
theorem vX0_init_0 {G : Gp} {d : Nat} {h : AH} {fin : Nat × Nat} {Q : Option Value → AH → Prop} {a0 : Nat} (hv : FS [0] h a0 0 (.int (1 : Int32)) (fun h1 => NW h1 (.inl (0, 15, .inl (fun _ => 0))) 15 fin (fun b3 h2 => FS [0] h2 a0 1 (.ref b3) (fun h4 => NW h4 (.inl (0, 15, .inl (fun _ => 0))) 15 fin (fun b6 h5 => FS [0] h5 a0 2 (.ref b6) (fun h7 => NW h7 (.inl (0, 15, .inl (fun _ => 0))) 15 fin (fun b9 h8 => FS [0] h8 a0 3 (.ref b9) (fun h10 => (h10.2 = fin ∧ Q none h10))))))))) : wp G d mX0_init 0 [(0, .ref a0)] [] h fin Q := by
  refine wp_aload_n (i := 0) dX0_init_0 rfl rfl ?_
  refine wp_objInit dX0_init_1 ob0_3 oi1 oi2 (Nat.le_of_ble_eq_true rfl) ?_
  refine wp_aload_n (i := 0) dX0_init_4 rfl rfl ?_
  refine wp_iconst (v := 1) dX0_init_5 (by decide) ?_
  obtain ⟨ci, fs, c, s, q, hv⟩ := hv
  refine wp_putI dX0_init_6 c (w0_9 _ s) q ?_
  generalize hset h a0 (.inr (ci, fs.set 0 (.int (1 : Int32)))) = h1 at hv ⊢
  refine wp_aload_n (i := 0) dX0_init_9 rfl rfl ?_
  refine wp_bipush (v := 15) dX0_init_10 (by decide) ?_
  obtain ⟨f1, f2, hv⟩ := hv
  refine wp_newI (N := 15) dX0_init_12 aI (by decide) (by decide) (by decide) f1 f2 ?_
  generalize hnew h1 (.inl (0, 15, .inl (fun _ => 0))) 15 = h2 at hv ⊢
  generalize h1.2.1 = b3 at hv ⊢
  obtain ⟨ci, fs, c, s, q, hv⟩ := hv
  refine wp_putFR dX0_init_14 rfl c (w0_15 _ s) (Or.inr ⟨_, rfl⟩) q ?_
  generalize hset h2 a0 (.inr (ci, fs.set 1 (.ref b3))) = h4 at hv ⊢
  refine wp_aload_n (i := 0) dX0_init_17 rfl rfl ?_
  refine wp_bipush (v := 15) dX0_init_18 (by decide) ?_
  obtain ⟨f1, f2, hv⟩ := hv
  refine wp_newI (N := 15) dX0_init_20 aI (by decide) (by decide) (by decide) f1 f2 ?_
  generalize hnew h4 (.inl (0, 15, .inl (fun _ => 0))) 15 = h5 at hv ⊢
  generalize h4.2.1 = b6 at hv ⊢
  obtain ⟨ci, fs, c, s, q, hv⟩ := hv
  refine wp_putFR dX0_init_22 rfl c (w0_19 _ s) (Or.inr ⟨_, rfl⟩) q ?_
  generalize hset h5 a0 (.inr (ci, fs.set 2 (.ref b6))) = h7 at hv ⊢
  refine wp_aload_n (i := 0) dX0_init_25 rfl rfl ?_
  refine wp_bipush (v := 15) dX0_init_26 (by decide) ?_
  obtain ⟨f1, f2, hv⟩ := hv
  refine wp_newI (N := 15) dX0_init_28 aI (by decide) (by decide) (by decide) f1 f2 ?_
  generalize hnew h7 (.inl (0, 15, .inl (fun _ => 0))) 15 = h8 at hv ⊢
  generalize h7.2.1 = b9 at hv ⊢
  obtain ⟨ci, fs, c, s, q, hv⟩ := hv
  refine wp_putFR dX0_init_30 rfl c (w0_22 _ s) (Or.inr ⟨_, rfl⟩) q ?_
  generalize hset h8 a0 (.inr (ci, fs.set 3 (.ref b9))) = h10 at hv ⊢
  obtain ⟨e, hv⟩ := hv
  exact wp_return dX0_init_33 rfl e hv
theorem vX1_init_0 {G : Gp} {d : Nat} {h : AH} {fin : Nat × Nat} {Q : Option Value → AH → Prop} {a0 : Nat} {a1 : Nat} {x2 : Int32} {x3 : Int32} (hv : (∃ fin' : Nat × Nat, cR h fin' fin ∧ wp G d mX7_init 0 [(0, .ref a0), (1, .ref a1), (2, .int x2), (3, .int x3), (4, .int (0 : Int32))] [] h fin' (fun r h1 => h1.2 = fin' → (r = none ∧ (h1.2 = fin ∧ Q none h1))))) : wp G (d + 1) mX1_init 0 [(0, .ref a0), (1, .ref a1), (2, .int x2), (3, .int x3)] [] h fin Q := by
  refine wp_aload_n (i := 0) dX1_init_0 rfl rfl ?_
  refine wp_aload_n (i := 1) dX1_init_1 rfl rfl ?_
  refine wp_iload_n (i := 2) dX1_init_2 rfl rfl ?_
  refine wp_iload_n (i := 3) dX1_init_3 rfl rfl ?_
  refine wp_iconst (v := 0) dX1_init_4 (by decide) ?_
  obtain ⟨fin', hr, hv⟩ := hv
  refine wp_callI (vs := [.ref a1, .int x2, .int x3, .int (0 : Int32)]) (st := []) (fin' := fin') dX1_init_5 k1_3 rfl (Nat.le_of_ble_eq_true rfl) (Nat.le_of_ble_eq_true rfl) hr (wp_mono hv ?_)
  intro r h1 hv e1
  obtain ⟨rfl, hv⟩ := hv e1
  change wp _ _ _ _ _ [] _ _ _
  obtain ⟨e, hv⟩ := hv
  exact wp_return dX1_init_8 rfl e hv
theorem vX2_init_0 {G : Gp} {d : Nat} {h : AH} {fin : Nat × Nat} {Q : Option Value → AH → Prop} {a0 : Nat} {a1 : Nat} {x2 : Int32} {x3 : Int32} (hv : (∃ fin' : Nat × Nat, cR h fin' fin ∧ wp G d mX3_init 0 [(0, .ref a0), (1, .ref a1), (2, .int x2), (3, .int x3)] [] h fin' (fun r h1 => h1.2 = fin' → (r = none ∧ (h1.2 = fin ∧ Q none h1))))) : wp G (d + 1) mX2_init 0 [(0, .ref a0), (1, .ref a1), (2, .int x2), (3, .int x3)] [] h fin Q := by
  refine wp_aload_n (i := 0) dX2_init_0 rfl rfl ?_
  refine wp_aload_n (i := 1) dX2_init_1 rfl rfl ?_
  refine wp_iload_n (i := 2) dX2_init_2 rfl rfl ?_
  refine wp_iload_n (i := 3) dX2_init_3 rfl rfl ?_
  obtain ⟨fin', hr, hv⟩ := hv
  refine wp_callI (vs := [.ref a1, .int x2, .int x3]) (st := []) (fin' := fin') dX2_init_4 k2_1 rfl (Nat.le_of_ble_eq_true rfl) (Nat.le_of_ble_eq_true rfl) hr (wp_mono hv ?_)
  intro r h1 hv e1
  obtain ⟨rfl, hv⟩ := hv e1
  change wp _ _ _ _ _ [] _ _ _
  obtain ⟨e, hv⟩ := hv
  exact wp_return dX2_init_7 rfl e hv
theorem vX3_init_0 {G : Gp} {d : Nat} {h : AH} {fin : Nat × Nat} {Q : Option Value → AH → Prop} {a0 : Nat} {a1 : Nat} {x2 : Int32} {x3 : Int32} (hv : (∃ fin' : Nat × Nat, cR h fin' fin ∧ wp G d mX5_init 0 [(0, .ref a0), (1, .ref a1), (2, .int x2), (3, .int x3)] [] h fin' (fun r h1 => h1.2 = fin' → (r = none ∧ NW h1 (.inl (0, 80, .inl (fun _ => 0))) 80 fin (fun b3 h2 => FS [2, 3, 4, 6] h2 a0 9 (.ref b3) (fun h4 => (h4.2 = fin ∧ Q none h4))))))) : wp G (d + 1) mX3_init 0 [(0, .ref a0), (1, .ref a1), (2, .int x2), (3, .int x3)] [] h fin Q := by
  refine wp_aload_n (i := 0) dX3_init_0 rfl rfl ?_
  refine wp_aload_n (i := 1) dX3_init_1 rfl rfl ?_
  refine wp_iload_n (i := 2) dX3_init_2 rfl rfl ?_
  refine wp_iload_n (i := 3) dX3_init_3 rfl rfl ?_
  obtain ⟨fin', hr, hv⟩ := hv
  refine wp_callI (vs := [.ref a1, .int x2, .int x3]) (st := []) (fin' := fin') dX3_init_4 k3_3 rfl (Nat.le_of_ble_eq_true rfl) (Nat.le_of_ble_eq_true rfl) hr (wp_mono hv ?_)
  intro r h1 hv e1
  obtain ⟨rfl, hv⟩ := hv e1
  change wp _ _ _ _ _ [] _ _ _
  refine wp_aload_n (i := 0) dX3_init_7 rfl rfl ?_
  refine wp_bipush (v := 80) dX3_init_8 (by decide) ?_
  obtain ⟨f1, f2, hv⟩ := hv
  refine wp_newI (N := 80) dX3_init_10 aI (by decide) (by decide) (by decide) f1 f2 ?_
  generalize hnew h1 (.inl (0, 80, .inl (fun _ => 0))) 80 = h2 at hv ⊢
  generalize h1.2.1 = b3 at hv ⊢
  obtain ⟨ci, fs, c, s, q, hv⟩ := hv
  refine wp_putFR dX3_init_12 rfl c (w3_9 _ s) (Or.inr ⟨_, rfl⟩) q ?_
  generalize hset h2 a0 (.inr (ci, fs.set 9 (.ref b3))) = h4 at hv ⊢
  obtain ⟨e, hv⟩ := hv
  exact wp_return dX3_init_15 rfl e hv
theorem vX4_init_0 {G : Gp} {d : Nat} {h : AH} {fin : Nat × Nat} {Q : Option Value → AH → Prop} {a0 : Nat} {a1 : Nat} {x2 : Int32} {x3 : Int32} (hv : (∃ fin' : Nat × Nat, cR h fin' fin ∧ wp G d mX3_init 0 [(0, .ref a0), (1, .ref a1), (2, .int x2), (3, .int x3)] [] h fin' (fun r h1 => h1.2 = fin' → (r = none ∧ (h1.2 = fin ∧ Q none h1))))) : wp G (d + 1) mX4_init 0 [(0, .ref a0), (1, .ref a1), (2, .int x2), (3, .int x3)] [] h fin Q := by
  refine wp_aload_n (i := 0) dX4_init_0 rfl rfl ?_
  refine wp_aload_n (i := 1) dX4_init_1 rfl rfl ?_
  refine wp_iload_n (i := 2) dX4_init_2 rfl rfl ?_
  refine wp_iload_n (i := 3) dX4_init_3 rfl rfl ?_
  obtain ⟨fin', hr, hv⟩ := hv
  refine wp_callI (vs := [.ref a1, .int x2, .int x3]) (st := []) (fin' := fin') dX4_init_4 k4_3 rfl (Nat.le_of_ble_eq_true rfl) (Nat.le_of_ble_eq_true rfl) hr (wp_mono hv ?_)
  intro r h1 hv e1
  obtain ⟨rfl, hv⟩ := hv e1
  change wp _ _ _ _ _ [] _ _ _
  obtain ⟨e, hv⟩ := hv
  exact wp_return dX4_init_7 rfl e hv
theorem vX5_init_0 {G : Gp} {d : Nat} {h : AH} {fin : Nat × Nat} {Q : Option Value → AH → Prop} {a0 : Nat} {a1 : Nat} {x2 : Int32} {x3 : Int32} (hv : NW h (.inl (0, 24, .inl (fun _ => 0))) 24 fin (fun b2 h1 => FS [1, 2, 3, 4, 5, 6, 7, 10] h1 a0 4 (.ref b2) (fun h3 => FS [1, 2, 3, 4, 5, 6, 7, 10] h3 a0 0 (.ref a1) (fun h4 => FS [1, 2, 3, 4, 5, 6, 7, 10] h4 a0 1 (.int x2) (fun h5 => FS [1, 2, 3, 4, 5, 6, 7, 10] h5 a0 2 (.int x3) (fun h6 => FR [8] h6 a1 4 (fun r7 => AR h6 r7 x3 (fun r8 => FS [1, 2, 3, 4, 5, 6, 7, 10] h6 a0 3 (.ref r8) (fun h9 => (h9.2 = fin ∧ Q none h9)))))))))) : wp G d mX5_init 0 [(0, .ref a0), (1, .ref a1), (2, .int x2), (3, .int x3)] [] h fin Q := by
  refine wp_aload_n (i := 0) dX5_init_0 rfl rfl ?_
  refine wp_objInit dX5_init_1 ob5_3 oi1 oi2 (Nat.le_of_ble_eq_true rfl) ?_
  refine wp_aload_n (i := 0) dX5_init_4 rfl rfl ?_
  refine wp_bipush (v := 24) dX5_init_5 (by decide) ?_
  obtain ⟨f1, f2, hv⟩ := hv
  refine wp_newI (N := 24) dX5_init_7 aI (by decide) (by decide) (by decide) f1 f2 ?_
  generalize hnew h (.inl (0, 24, .inl (fun _ => 0))) 24 = h1 at hv ⊢
  generalize h.2.1 = b2 at hv ⊢
  obtain ⟨ci, fs, c, s, q, hv⟩ := hv
  refine wp_putFR dX5_init_9 rfl c (w5_9 _ s) (Or.inr ⟨_, rfl⟩) q ?_
  generalize hset h1 a0 (.inr (ci, fs.set 4 (.ref b2))) = h3 at hv ⊢
  refine wp_aload_n (i := 0) dX5_init_12 rfl rfl ?_
  refine wp_aload_n (i := 1) dX5_init_13 rfl rfl ?_
  obtain ⟨ci, fs, c, s, q, hv⟩ := hv
  refine wp_putFR dX5_init_14 rfl c (w5_15 _ s) (Or.inl ⟨_, rfl⟩) q ?_
  generalize hset h3 a0 (.inr (ci, fs.set 0 (.ref a1))) = h4 at hv ⊢
  refine wp_aload_n (i := 0) dX5_init_17 rfl rfl ?_
  refine wp_iload_n (i := 2) dX5_init_18 rfl rfl ?_
  obtain ⟨ci, fs, c, s, q, hv⟩ := hv
  refine wp_putFI dX5_init_19 rfl c (w5_19 _ s) q ?_
  generalize hset h4 a0 (.inr (ci, fs.set 1 (.int x2))) = h5 at hv ⊢
  refine wp_aload_n (i := 0) dX5_init_22 rfl rfl ?_
  refine wp_iload_n (i := 3) dX5_init_23 rfl rfl ?_
  obtain ⟨ci, fs, c, s, q, hv⟩ := hv
  refine wp_putFI dX5_init_24 rfl c (w5_23 _ s) q ?_
  generalize hset h5 a0 (.inr (ci, fs.set 2 (.int x3))) = h6 at hv ⊢
  refine wp_aload_n (i := 0) dX5_init_27 rfl rfl ?_
  refine wp_aload_n (i := 1) dX5_init_28 rfl rfl ?_
  obtain ⟨_, _, r7, c, s, q, hv⟩ := hv
  refine wp_getfield dX5_init_29 c (f5_26 _ s) q ?_
  refine wp_iload_n (i := 3) dX5_init_32 rfl rfl ?_
  obtain ⟨_, _, _, r8, c, t, q, z, hv⟩ := hv
  refine wp_aaloadR dX5_init_33 c t q z ?_
  obtain ⟨ci, fs, c, s, q, hv⟩ := hv
  refine wp_putFR dX5_init_34 rfl c (w5_32 _ s) (Or.inr ⟨_, rfl⟩) q ?_
  generalize hset h6 a0 (.inr (ci, fs.set 3 (.ref r8))) = h9 at hv ⊢
  obtain ⟨e, hv⟩ := hv
  exact wp_return dX5_init_37 rfl e hv
theorem vX6_init_0 {G : Gp} {d : Nat} {h : AH} {fin : Nat × Nat} {Q : Option Value → AH → Prop} {a0 : Nat} {a1 : Nat} {x2 : Int32} {x3 : Int32} (hv : (∃ fin' : Nat × Nat, cR h fin' fin ∧ wp G d mX4_init 0 [(0, .ref a0), (1, .ref a1), (2, .int x2), (3, .int x3)] [] h fin' (fun r h1 => h1.2 = fin' → (r = none ∧ NW h1 (.inl (0, 81, .inl (fun _ => 0))) 81 fin (fun b3 h2 => FS [6] h2 a0 11 (.ref b3) (fun h4 => (h4.2 = fin ∧ Q none h4))))))) : wp G (d + 1) mX6_init 0 [(0, .ref a0), (1, .ref a1), (2, .int x2), (3, .int x3)] [] h fin Q := by
  refine wp_aload_n (i := 0) dX6_init_0 rfl rfl ?_
  refine wp_aload_n (i := 1) dX6_init_1 rfl rfl ?_
  refine wp_iload_n (i := 2) dX6_init_2 rfl rfl ?_
  refine wp_iload_n (i := 3) dX6_init_3 rfl rfl ?_
  obtain ⟨fin', hr, hv⟩ := hv
  refine wp_callI (vs := [.ref a1, .int x2, .int x3]) (st := []) (fin' := fin') dX6_init_4 k6_3 rfl (Nat.le_of_ble_eq_true rfl) (Nat.le_of_ble_eq_true rfl) hr (wp_mono hv ?_)
  intro r h1 hv e1
  obtain ⟨rfl, hv⟩ := hv e1
  change wp _ _ _ _ _ [] _ _ _
  refine wp_aload_n (i := 0) dX6_init_7 rfl rfl ?_
  refine wp_bipush (v := 81) dX6_init_8 (by decide) ?_
  obtain ⟨f1, f2, hv⟩ := hv
  refine wp_newI (N := 81) dX6_init_10 aI (by decide) (by decide) (by decide) f1 f2 ?_
  generalize hnew h1 (.inl (0, 81, .inl (fun _ => 0))) 81 = h2 at hv ⊢
  generalize h1.2.1 = b3 at hv ⊢
  obtain ⟨ci, fs, c, s, q, hv⟩ := hv
  refine wp_putFR dX6_init_12 rfl c (w6_9 _ s) (Or.inr ⟨_, rfl⟩) q ?_
  generalize hset h2 a0 (.inr (ci, fs.set 11 (.ref b3))) = h4 at hv ⊢
  obtain ⟨e, hv⟩ := hv
  exact wp_return dX6_init_15 rfl e hv
theorem vX7_init_0 {G : Gp} {d : Nat} {h : AH} {fin : Nat × Nat} {Q : Option Value → AH → Prop} {a0 : Nat} {a1 : Nat} {x2 : Int32} {x3 : Int32} {x4 : Int32} (hv : (∃ fin' : Nat × Nat, cR h fin' fin ∧ wp G d mX5_init 0 [(0, .ref a0), (1, .ref a1), (2, .int x2), (3, .int x3)] [] h fin' (fun r h1 => h1.2 = fin' → (r = none ∧ ((h1.2.1 ≤ fin.1 ∧ h1.2.2 ≤ fin.2) ∧ (¬ (if x4 < (0 : Int32) then (0 : Int32) else x4) < 0 ∧ ((if x4 < (0 : Int32) then (0 : Int32) else x4)).toNatClampNeg ≤ 60000 ∧ NW h1 (.inl (0, ((if x4 < (0 : Int32) then (0 : Int32) else x4)).toNatClampNeg, .inl (fun _ => 0))) ((if x4 < (0 : Int32) then (0 : Int32) else x4)).toNatClampNeg fin (fun b3 h2 => FS [1, 7] h2 a0 9 (.ref b3) (fun h4 => (h4.2 = fin ∧ Q none h4))))))))) : wp G (d + 1) mX7_init 0 [(0, .ref a0), (1, .ref a1), (2, .int x2), (3, .int x3), (4, .int x4)] [] h fin Q := by
  refine wp_aload_n (i := 0) dX7_init_0 rfl rfl ?_
  refine wp_aload_n (i := 1) dX7_init_1 rfl rfl ?_
  refine wp_iload_n (i := 2) dX7_init_2 rfl rfl ?_
  refine wp_iload_n (i := 3) dX7_init_3 rfl rfl ?_
  obtain ⟨fin', hr, hv⟩ := hv
  refine wp_callI (vs := [.ref a1, .int x2, .int x3]) (st := []) (fin' := fin') dX7_init_4 k7_3 rfl (Nat.le_of_ble_eq_true rfl) (Nat.le_of_ble_eq_true rfl) hr (wp_mono hv ?_)
  intro r h1 hv e1
  obtain ⟨rfl, hv⟩ := hv e1
  change wp _ _ _ _ _ [] _ _ _
  refine wp_aload_n (i := 0) dX7_init_7 rfl rfl ?_
  refine wp_iload dX7_init_8 rfl ?_
  refine wp_iconst (v := 0) dX7_init_10 (by decide) ?_
  obtain ⟨hle, hv⟩ := hv
  refine wp_mmax dX7_init_11 ma7_9 mmax1 mth2 mmax3 (Nat.le_of_ble_eq_true rfl) hle ?_
  obtain ⟨z0, z1, f1, f2, hv⟩ := hv
  refine wp_newI dX7_init_14 aI z0 rfl z1 f1 f2 ?_
  generalize hnew h1 (.inl (0, ((if x4 < (0 : Int32) then (0 : Int32) else x4)).toNatClampNeg, .inl (fun _ => 0))) ((if x4 < (0 : Int32) then (0 : Int32) else x4)).toNatClampNeg = h2 at hv ⊢
  generalize h1.2.1 = b3 at hv ⊢
  obtain ⟨ci, fs, c, s, q, hv⟩ := hv
  refine wp_putFR dX7_init_16 rfl c (w7_15 _ s) (Or.inr ⟨_, rfl⟩) q ?_
  generalize hset h2 a0 (.inr (ci, fs.set 9 (.ref b3))) = h4 at hv ⊢
  obtain ⟨e, hv⟩ := hv
  exact wp_return dX7_init_19 rfl e hv
theorem vX8_init_0 {G : Gp} {d : Nat} {h : AH} {fin : Nat × Nat} {Q : Option Value → AH → Prop} {a0 : Nat} (hv : NW h (.inl (0, 4, .inl (fun _ => 0))) 4 fin (fun b2 h1 => FS [8] h1 a0 0 (.ref b2) (fun h3 => NW h3 (.inl (0, 4, .inl (fun _ => 0))) 4 fin (fun b5 h4 => FS [8] h4 a0 1 (.ref b5) (fun h6 => NMI h6 4 80 fin (fun b8 h7 => FS [8] h7 a0 4 (.ref b8) (fun h9 => NW h9 (.inl (0, 80, .inl (fun _ => 0))) 80 fin (fun b11 h10 => FS [8] h10 a0 5 (.ref b11) (fun h12 => NW h12 (.inl (0, 4, .inl (fun _ => 0))) 4 fin (fun b14 h13 => FS [8] h13 a0 7 (.ref b14) (fun h15 => NW h15 (.inl (0, 4, .inl (fun _ => 0))) 4 fin (fun b17 h16 => FS [8] h16 a0 8 (.ref b17) (fun h18 => NW h18 (.inl (0, 4, .inl (fun _ => 0))) 4 fin (fun b20 h19 => FS [8] h19 a0 9 (.ref b20) (fun h21 => FR [8] h21 a0 1 (fun r22 => (∃ fin' : Nat × Nat, cR h21 fin' fin ∧ wp G d mJ7_fill_53178 0 [(0, .ref r22), (1, .int (-1 : Int32))] [] h21 fin' (fun r h23 => h23.2 = fin' → (r = none ∧ (h23.2 = fin ∧ Q none h23)))))))))))))))))))) : wp G (d + 1) mX8_init 0 [(0, .ref a0)] [] h fin Q := by
  refine wp_aload_n (i := 0) dX8_init_0 rfl rfl ?_
  refine wp_objInit dX8_init_1 ob8_3 oi1 oi2 (Nat.le_of_ble_eq_true rfl) ?_
  refine wp_aload_n (i := 0) dX8_init_4 rfl rfl ?_
  refine wp_iconst (v := 4) dX8_init_5 (by decide) ?_
  obtain ⟨f1, f2, hv⟩ := hv
  refine wp_newI (N := 4) dX8_init_6 aI (by decide) (by decide) (by decide) f1 f2 ?_
  generalize hnew h (.inl (0, 4, .inl (fun _ => 0))) 4 = h1 at hv ⊢
  generalize h.2.1 = b2 at hv ⊢
  obtain ⟨ci, fs, c, s, q, hv⟩ := hv
  refine wp_putFR dX8_init_8 rfl c (w8_9 _ s) (Or.inr ⟨_, rfl⟩) q ?_
  generalize hset h1 a0 (.inr (ci, fs.set 0 (.ref b2))) = h3 at hv ⊢
  refine wp_aload_n (i := 0) dX8_init_11 rfl rfl ?_
  refine wp_iconst (v := 4) dX8_init_12 (by decide) ?_
  obtain ⟨f1, f2, hv⟩ := hv
  refine wp_newI (N := 4) dX8_init_13 aI (by decide) (by decide) (by decide) f1 f2 ?_
  generalize hnew h3 (.inl (0, 4, .inl (fun _ => 0))) 4 = h4 at hv ⊢
  generalize h3.2.1 = b5 at hv ⊢
  obtain ⟨ci, fs, c, s, q, hv⟩ := hv
  refine wp_putFR dX8_init_15 rfl c (w8_15 _ s) (Or.inr ⟨_, rfl⟩) q ?_
  generalize hset h4 a0 (.inr (ci, fs.set 1 (.ref b5))) = h6 at hv ⊢
  refine wp_aload_n (i := 0) dX8_init_18 rfl rfl ?_
  refine wp_iconst (v := 4) dX8_init_19 (by decide) ?_
  refine wp_bipush (v := 80) dX8_init_20 (by decide) ?_
  obtain ⟨f1, f2, hv⟩ := hv
  refine wp_multiI (N := 4) (K := 80) dX8_init_22 ml8_18 (by decide) (by decide) (by decide) (by decide) (by decide) (by decide) f1 f2 ?_
  generalize hmulI h6 4 80 = h7 at hv ⊢
  generalize h6.2.1 = b8 at hv ⊢
  obtain ⟨ci, fs, c, s, q, hv⟩ := hv
  refine wp_putFR dX8_init_26 rfl c (w8_20 _ s) (Or.inr ⟨_, rfl⟩) q ?_
  generalize hset h7 a0 (.inr (ci, fs.set 4 (.ref b8))) = h9 at hv ⊢
  refine wp_aload_n (i := 0) dX8_init_29 rfl rfl ?_
  refine wp_bipush (v := 80) dX8_init_30 (by decide) ?_
  obtain ⟨f1, f2, hv⟩ := hv
  refine wp_newI (N := 80) dX8_init_32 aI (by decide) (by decide) (by decide) f1 f2 ?_
  generalize hnew h9 (.inl (0, 80, .inl (fun _ => 0))) 80 = h10 at hv ⊢
  generalize h9.2.1 = b11 at hv ⊢
  obtain ⟨ci, fs, c, s, q, hv⟩ := hv
  refine wp_putFR dX8_init_34 rfl c (w8_23 _ s) (Or.inr ⟨_, rfl⟩) q ?_
  generalize hset h10 a0 (.inr (ci, fs.set 5 (.ref b11))) = h12 at hv ⊢
  refine wp_aload_n (i := 0) dX8_init_37 rfl rfl ?_
  refine wp_iconst (v := 4) dX8_init_38 (by decide) ?_
  obtain ⟨f1, f2, hv⟩ := hv
  refine wp_newI (N := 4) dX8_init_39 aI (by decide) (by decide) (by decide) f1 f2 ?_
  generalize hnew h12 (.inl (0, 4, .inl (fun _ => 0))) 4 = h13 at hv ⊢
  generalize h12.2.1 = b14 at hv ⊢
  obtain ⟨ci, fs, c, s, q, hv⟩ := hv
  refine wp_putFR dX8_init_41 rfl c (w8_26 _ s) (Or.inr ⟨_, rfl⟩) q ?_
  generalize hset h13 a0 (.inr (ci, fs.set 7 (.ref b14))) = h15 at hv ⊢
  refine wp_aload_n (i := 0) dX8_init_44 rfl rfl ?_
  refine wp_iconst (v := 4) dX8_init_45 (by decide) ?_
  obtain ⟨f1, f2, hv⟩ := hv
  refine wp_newI (N := 4) dX8_init_46 aI (by decide) (by decide) (by decide) f1 f2 ?_
  generalize hnew h15 (.inl (0, 4, .inl (fun _ => 0))) 4 = h16 at hv ⊢
  generalize h15.2.1 = b17 at hv ⊢
  obtain ⟨ci, fs, c, s, q, hv⟩ := hv
  refine wp_putFR dX8_init_48 rfl c (w8_29 _ s) (Or.inr ⟨_, rfl⟩) q ?_
  generalize hset h16 a0 (.inr (ci, fs.set 8 (.ref b17))) = h18 at hv ⊢
  refine wp_aload_n (i := 0) dX8_init_51 rfl rfl ?_
  refine wp_iconst (v := 4) dX8_init_52 (by decide) ?_
  obtain ⟨f1, f2, hv⟩ := hv
  refine wp_newI (N := 4) dX8_init_53 aI (by decide) (by decide) (by decide) f1 f2 ?_
  generalize hnew h18 (.inl (0, 4, .inl (fun _ => 0))) 4 = h19 at hv ⊢
  generalize h18.2.1 = b20 at hv ⊢
  obtain ⟨ci, fs, c, s, q, hv⟩ := hv
  refine wp_putFR dX8_init_55 rfl c (w8_32 _ s) (Or.inr ⟨_, rfl⟩) q ?_
  generalize hset h19 a0 (.inr (ci, fs.set 9 (.ref b20))) = h21 at hv ⊢
  refine wp_aload_n (i := 0) dX8_init_58 rfl rfl ?_
  obtain ⟨_, _, r22, c, s, q, hv⟩ := hv
  refine wp_getfield dX8_init_59 c (f8_15 _ s) q ?_
  refine wp_iconst (v := -1) dX8_init_62 (by decide) ?_
  obtain ⟨fin', hr, hv⟩ := hv
  refine wp_callS (vs := [.ref r22, .int (-1 : Int32)]) (st := []) (fin' := fin') dX8_init_63 k8_35 rfl (Nat.le_of_ble_eq_true rfl) (Nat.le_of_ble_eq_true rfl) hr (wp_mono hv ?_)
  intro r h23 hv e1
  obtain ⟨rfl, hv⟩ := hv e1
  change wp _ _ _ _ _ [] _ _ _
  obtain ⟨e, hv⟩ := hv
  exact wp_return dX8_init_66 rfl e hv
theorem vX9_init_0 {G : Gp} {d : Nat} {h : AH} {fin : Nat × Nat} {Q : Option Value → AH → Prop} {a0 : Nat} (hv : FS [9] h a0 3 (.int (-1 : Int32)) (fun h1 => NW h1 (.inl (0, 12, .inl (fun _ => 0))) 12 fin (fun b3 h2 => FS [9] h2 a0 4 (.ref b3) (fun h4 => NW h4 (.inl (0, 12, .inl (fun _ => 0))) 12 fin (fun b6 h5 => FS [9] h5 a0 5 (.ref b6) (fun h7 => NW h7 (.inl (0, 60, .inl (fun _ => 0))) 60 fin (fun b9 h8 => FS [9] h8 a0 6 (.ref b9) (fun h10 => NW h10 (.inl (0, 8, .inl (fun _ => 0))) 8 fin (fun b12 h11 => FS [9] h11 a0 7 (.ref b12) (fun h13 => NW h13 (.inl (0, 9, .inl (fun _ => 0))) 9 fin (fun b15 h14 => FS [9] h14 a0 8 (.ref b15) (fun h16 => NW h16 (.inl (0, 10, .inl (fun _ => 0))) 10 fin (fun b18 h17 => FS [9] h17 a0 9 (.ref b18) (fun h19 => NMI h19 10 10 fin (fun b21 h20 => FS [9] h20 a0 10 (.ref b21) (fun h22 => (h22.2 = fin ∧ Q none h22))))))))))))))))) : wp G d mX9_init 0 [(0, .ref a0)] [] h fin Q := by
  refine wp_aload_n (i := 0) dX9_init_0 rfl rfl ?_
  refine wp_objInit dX9_init_1 ob9_3 oi1 oi2 (Nat.le_of_ble_eq_true rfl) ?_
  refine wp_aload_n (i := 0) dX9_init_4 rfl rfl ?_
  refine wp_iconst (v := -1) dX9_init_5 (by decide) ?_
  obtain ⟨ci, fs, c, s, q, hv⟩ := hv
  refine wp_putI dX9_init_6 c (w9_9 _ s) q ?_
  generalize hset h a0 (.inr (ci, fs.set 3 (.int (-1 : Int32)))) = h1 at hv ⊢
  refine wp_aload_n (i := 0) dX9_init_9 rfl rfl ?_
  refine wp_bipush (v := 12) dX9_init_10 (by decide) ?_
  obtain ⟨f1, f2, hv⟩ := hv
  refine wp_newI (N := 12) dX9_init_12 aI (by decide) (by decide) (by decide) f1 f2 ?_
  generalize hnew h1 (.inl (0, 12, .inl (fun _ => 0))) 12 = h2 at hv ⊢
  generalize h1.2.1 = b3 at hv ⊢
  obtain ⟨ci, fs, c, s, q, hv⟩ := hv
  refine wp_putFR dX9_init_14 rfl c (w9_15 _ s) (Or.inr ⟨_, rfl⟩) q ?_
  generalize hset h2 a0 (.inr (ci, fs.set 4 (.ref b3))) = h4 at hv ⊢
  refine wp_aload_n (i := 0) dX9_init_17 rfl rfl ?_
  refine wp_bipush (v := 12) dX9_init_18 (by decide) ?_
  obtain ⟨f1, f2, hv⟩ := hv
  refine wp_newI (N := 12) dX9_init_20 aI (by decide) (by decide) (by decide) f1 f2 ?_
  generalize hnew h4 (.inl (0, 12, .inl (fun _ => 0))) 12 = h5 at hv ⊢
  generalize h4.2.1 = b6 at hv ⊢
  obtain ⟨ci, fs, c, s, q, hv⟩ := hv
  refine wp_putFR dX9_init_22 rfl c (w9_19 _ s) (Or.inr ⟨_, rfl⟩) q ?_
  generalize hset h5 a0 (.inr (ci, fs.set 5 (.ref b6))) = h7 at hv ⊢
  refine wp_aload_n (i := 0) dX9_init_25 rfl rfl ?_
  refine wp_bipush (v := 60) dX9_init_26 (by decide) ?_
  obtain ⟨f1, f2, hv⟩ := hv
  refine wp_newI (N := 60) dX9_init_28 aI (by decide) (by decide) (by decide) f1 f2 ?_
  generalize hnew h7 (.inl (0, 60, .inl (fun _ => 0))) 60 = h8 at hv ⊢
  generalize h7.2.1 = b9 at hv ⊢
  obtain ⟨ci, fs, c, s, q, hv⟩ := hv
  refine wp_putFR dX9_init_30 rfl c (w9_22 _ s) (Or.inr ⟨_, rfl⟩) q ?_
  generalize hset h8 a0 (.inr (ci, fs.set 6 (.ref b9))) = h10 at hv ⊢
  refine wp_aload_n (i := 0) dX9_init_33 rfl rfl ?_
  refine wp_bipush (v := 8) dX9_init_34 (by decide) ?_
  obtain ⟨f1, f2, hv⟩ := hv
  refine wp_newI (N := 8) dX9_init_36 aI (by decide) (by decide) (by decide) f1 f2 ?_
  generalize hnew h10 (.inl (0, 8, .inl (fun _ => 0))) 8 = h11 at hv ⊢
  generalize h10.2.1 = b12 at hv ⊢
  obtain ⟨ci, fs, c, s, q, hv⟩ := hv
  refine wp_putFR dX9_init_38 rfl c (w9_25 _ s) (Or.inr ⟨_, rfl⟩) q ?_
  generalize hset h11 a0 (.inr (ci, fs.set 7 (.ref b12))) = h13 at hv ⊢
  refine wp_aload_n (i := 0) dX9_init_41 rfl rfl ?_
  refine wp_bipush (v := 9) dX9_init_42 (by decide) ?_
  obtain ⟨f1, f2, hv⟩ := hv
  refine wp_newI (N := 9) dX9_init_44 aI (by decide) (by decide) (by decide) f1 f2 ?_
  generalize hnew h13 (.inl (0, 9, .inl (fun _ => 0))) 9 = h14 at hv ⊢
  generalize h13.2.1 = b15 at hv ⊢
  obtain ⟨ci, fs, c, s, q, hv⟩ := hv
  refine wp_putFR dX9_init_46 rfl c (w9_28 _ s) (Or.inr ⟨_, rfl⟩) q ?_
  generalize hset h14 a0 (.inr (ci, fs.set 8 (.ref b15))) = h16 at hv ⊢
  refine wp_aload_n (i := 0) dX9_init_49 rfl rfl ?_
  refine wp_bipush (v := 10) dX9_init_50 (by decide) ?_
  obtain ⟨f1, f2, hv⟩ := hv
  refine wp_newI (N := 10) dX9_init_52 aI (by decide) (by decide) (by decide) f1 f2 ?_
  generalize hnew h16 (.inl (0, 10, .inl (fun _ => 0))) 10 = h17 at hv ⊢
  generalize h16.2.1 = b18 at hv ⊢
  obtain ⟨ci, fs, c, s, q, hv⟩ := hv
  refine wp_putFR dX9_init_54 rfl c (w9_31 _ s) (Or.inr ⟨_, rfl⟩) q ?_
  generalize hset h17 a0 (.inr (ci, fs.set 9 (.ref b18))) = h19 at hv ⊢
  refine wp_aload_n (i := 0) dX9_init_57 rfl rfl ?_
  refine wp_bipush (v := 10) dX9_init_58 (by decide) ?_
  refine wp_bipush (v := 10) dX9_init_60 (by decide) ?_
  obtain ⟨f1, f2, hv⟩ := hv
  refine wp_multiI (N := 10) (K := 10) dX9_init_62 ml9_34 (by decide) (by decide) (by decide) (by decide) (by decide) (by decide) f1 f2 ?_
  generalize hmulI h19 10 10 = h20 at hv ⊢
  generalize h19.2.1 = b21 at hv ⊢
  obtain ⟨ci, fs, c, s, q, hv⟩ := hv
  refine wp_putFR dX9_init_66 rfl c (w9_36 _ s) (Or.inr ⟨_, rfl⟩) q ?_
  generalize hset h20 a0 (.inr (ci, fs.set 10 (.ref b21))) = h22 at hv ⊢
  obtain ⟨e, hv⟩ := hv
  exact wp_return dX9_init_69 rfl e hv
theorem vX10_init_0 {G : Gp} {d : Nat} {h : AH} {fin : Nat × Nat} {Q : Option Value → AH → Prop} {a0 : Nat} {a1 : Nat} {x2 : Int32} {x3 : Int32} (hv : (∃ fin' : Nat × Nat, cR h fin' fin ∧ wp G d mX5_init 0 [(0, .ref a0), (1, .ref a1), (2, .int x2), (3, .int x3)] [] h fin' (fun r h1 => h1.2 = fin' → (r = none ∧ NW h1 (.inl (0, 80, .inl (fun _ => 0))) 80 fin (fun b3 h2 => FS [10] h2 a0 9 (.ref b3) (fun h4 => NW h4 (.inl (0, 80, .inl (fun _ => 0))) 80 fin (fun b6 h5 => FS [10] h5 a0 10 (.ref b6) (fun h7 => NW h7 (.inl (0, 80, .inl (fun _ => 0))) 80 fin (fun b9 h8 => FS [10] h8 a0 11 (.ref b9) (fun h10 => FS [10] h10 a0 12 (.int (-1 : Int32)) (fun h11 => (h11.2 = fin ∧ Q none h11)))))))))))) : wp G (d + 1) mX10_init 0 [(0, .ref a0), (1, .ref a1), (2, .int x2), (3, .int x3)] [] h fin Q := by
  refine wp_aload_n (i := 0) dX10_init_0 rfl rfl ?_
  refine wp_aload_n (i := 1) dX10_init_1 rfl rfl ?_
  refine wp_iload_n (i := 2) dX10_init_2 rfl rfl ?_
  refine wp_iload_n (i := 3) dX10_init_3 rfl rfl ?_
  obtain ⟨fin', hr, hv⟩ := hv
  refine wp_callI (vs := [.ref a1, .int x2, .int x3]) (st := []) (fin' := fin') dX10_init_4 k10_3 rfl (Nat.le_of_ble_eq_true rfl) (Nat.le_of_ble_eq_true rfl) hr (wp_mono hv ?_)
  intro r h1 hv e1
  obtain ⟨rfl, hv⟩ := hv e1
  change wp _ _ _ _ _ [] _ _ _
  refine wp_aload_n (i := 0) dX10_init_7 rfl rfl ?_
  refine wp_bipush (v := 80) dX10_init_8 (by decide) ?_
  obtain ⟨f1, f2, hv⟩ := hv
  refine wp_newI (N := 80) dX10_init_10 aI (by decide) (by decide) (by decide) f1 f2 ?_
  generalize hnew h1 (.inl (0, 80, .inl (fun _ => 0))) 80 = h2 at hv ⊢
  generalize h1.2.1 = b3 at hv ⊢
  obtain ⟨ci, fs, c, s, q, hv⟩ := hv
  refine wp_putFR dX10_init_12 rfl c (w10_9 _ s) (Or.inr ⟨_, rfl⟩) q ?_
  generalize hset h2 a0 (.inr (ci, fs.set 9 (.ref b3))) = h4 at hv ⊢
  refine wp_aload_n (i := 0) dX10_init_15 rfl rfl ?_
  refine wp_bipush (v := 80) dX10_init_16 (by decide) ?_
  obtain ⟨f1, f2, hv⟩ := hv
  refine wp_newI (N := 80) dX10_init_18 aI (by decide) (by decide) (by decide) f1 f2 ?_
  generalize hnew h4 (.inl (0, 80, .inl (fun _ => 0))) 80 = h5 at hv ⊢
  generalize h4.2.1 = b6 at hv ⊢
  obtain ⟨ci, fs, c, s, q, hv⟩ := hv
  refine wp_putFR dX10_init_20 rfl c (w10_15 _ s) (Or.inr ⟨_, rfl⟩) q ?_
  generalize hset h5 a0 (.inr (ci, fs.set 10 (.ref b6))) = h7 at hv ⊢
  refine wp_aload_n (i := 0) dX10_init_23 rfl rfl ?_
  refine wp_bipush (v := 80) dX10_init_24 (by decide) ?_
  obtain ⟨f1, f2, hv⟩ := hv
  refine wp_newI (N := 80) dX10_init_26 aI (by decide) (by decide) (by decide) f1 f2 ?_
  generalize hnew h7 (.inl (0, 80, .inl (fun _ => 0))) 80 = h8 at hv ⊢
  generalize h7.2.1 = b9 at hv ⊢
  obtain ⟨ci, fs, c, s, q, hv⟩ := hv
  refine wp_putFR dX10_init_28 rfl c (w10_18 _ s) (Or.inr ⟨_, rfl⟩) q ?_
  generalize hset h8 a0 (.inr (ci, fs.set 11 (.ref b9))) = h10 at hv ⊢
  refine wp_aload_n (i := 0) dX10_init_31 rfl rfl ?_
  refine wp_iconst (v := -1) dX10_init_32 (by decide) ?_
  obtain ⟨ci, fs, c, s, q, hv⟩ := hv
  refine wp_putI dX10_init_33 c (w10_21 _ s) q ?_
  generalize hset h10 a0 (.inr (ci, fs.set 12 (.int (-1 : Int32)))) = h11 at hv ⊢
  obtain ⟨e, hv⟩ := hv
  exact wp_return dX10_init_36 rfl e hv
theorem vX11_init_0 {G : Gp} {d : Nat} {h : AH} {fin : Nat × Nat} {Q : Option Value → AH → Prop} {a0 : Nat} (hv : NW h (.inr (8, [.null, .null, .int 0, .int 0, .null, .null, .int 0, .null, .null, .null])) 10 fin (fun b2 h1 => (∃ fin' : Nat × Nat, cR h1 fin' fin ∧ wp G d mX8_init 0 [(0, .ref b2)] [] h1 fin' (fun r h3 => h3.2 = fin' → (r = none ∧ FS [11] h3 a0 0 (.ref b2) (fun h4 => NW h4 (.inr (9, [.int 0, .int 0, .int 0, .int 0, .null, .null, .null, .null, .null, .null, .null])) 11 fin (fun b6 h5 => (∃ fin' : Nat × Nat, cR h5 fin' fin ∧ wp G d mX9_init 0 [(0, .ref b6)] [] h5 fin' (fun r h7 => h7.2 = fin' → (r = none ∧ FS [11] h7 a0 1 (.ref b6) (fun h8 => NW h8 (.inl (0, 60, .inl (fun _ => 0))) 60 fin (fun b10 h9 => FS [11] h9 a0 2 (.ref b10) (fun h11 => NW h11 (.inl (5, 10, .inr (.inr (.inr (.inr (fun _ => none)))))) 10 fin (fun b13 h12 => FS [11] h12 a0 4 (.ref b13) (fun h14 => NW h14 (.inl (6, 10, .inr (.inr (.inr (.inr (fun _ => none)))))) 10 fin (fun b16 h15 => FS [11] h15 a0 6 (.ref b16) (fun h17 => NMI h17 10 10 fin (fun b19 h18 => FS [11] h18 a0 10 (.ref b19) (fun h20 => NW h20 (.inl (0, 10, .inl (fun _ => 0))) 10 fin (fun b22 h21 => FS [11] h21 a0 11 (.ref b22) (fun h23 => NW h23 (.inl (0, 10, .inl (fun _ => 0))) 10 fin (fun b25 h24 => FS [11] h24 a0 12 (.ref b25) (fun h26 => NW h26 (.inl (6, 6, .inr (.inr (.inr (.inr (fun _ => none)))))) 6 fin (fun b28 h27 => FS [11] h27 a0 13 (.ref b28) (fun h29 => NW h29 (.inl (0, 6, .inl (fun _ => 0))) 6 fin (fun b31 h30 => FS [11] h30 a0 14 (.ref b31) (fun h32 => NW h32 (.inl (0, 6, .inl (fun _ => 0))) 6 fin (fun b34 h33 => FS [11] h33 a0 15 (.ref b34) (fun h35 => NMJ h35 6 60 fin (fun b37 h36 => FS [11] h36 a0 16 (.ref b37) (fun h38 => FR [11] h38 a0 14 (fun r39 => (∃ fin' : Nat × Nat, cR h38 fin' fin ∧ wp G d mJ7_fill_53178 0 [(0, .ref r39), (1, .int (-1 : Int32))] [] h38 fin' (fun r h40 => h40.2 = fin' → (r = none ∧ (h40.2 = fin ∧ Q none h40)))))))))))))))))))))))))))))))))))) : wp G (d + 1) mX11_init 0 [(0, .ref a0)] [] h fin Q := by
  refine wp_aload_n (i := 0) dX11_init_0 rfl rfl ?_
  refine wp_objInit dX11_init_1 ob11_1 oi1 oi2 (Nat.le_of_ble_eq_true rfl) ?_
  refine wp_aload_n (i := 0) dX11_init_4 rfl rfl ?_
  obtain ⟨f1, f2, hv⟩ := hv
  refine wp_new dX11_init_5 n11_7 f1 f2 ?_
  generalize hnew h (.inr (8, [.null, .null, .int 0, .int 0, .null, .null, .int 0, .null, .null, .null])) 10 = h1 at hv ⊢
  generalize h.2.1 = b2 at hv ⊢
  refine wp_dupR dX11_init_8 ?_
  obtain ⟨fin', hr, hv⟩ := hv
  refine wp_callI (vs := []) (st := [.ref b2, .ref a0]) (fin' := fin') dX11_init_9 k11_9 rfl (Nat.le_of_ble_eq_true rfl) (Nat.le_of_ble_eq_true rfl) hr (wp_mono hv ?_)
  intro r h3 hv e1
  obtain ⟨rfl, hv⟩ := hv e1
  change wp _ _ _ _ _ [.ref b2, .ref a0] _ _ _
  obtain ⟨ci, fs, c, s, q, hv⟩ := hv
  refine wp_putFR dX11_init_12 rfl c (w11_10 _ s) (Or.inl ⟨_, rfl⟩) q ?_
  generalize hset h3 a0 (.inr (ci, fs.set 0 (.ref b2))) = h4 at hv ⊢
  refine wp_aload_n (i := 0) dX11_init_15 rfl rfl ?_
  obtain ⟨f1, f2, hv⟩ := hv
  refine wp_new dX11_init_16 n11_16 f1 f2 ?_
  generalize hnew h4 (.inr (9, [.int 0, .int 0, .int 0, .int 0, .null, .null, .null, .null, .null, .null, .null])) 11 = h5 at hv ⊢
  generalize h4.2.1 = b6 at hv ⊢
  refine wp_dupR dX11_init_19 ?_
  obtain ⟨fin', hr, hv⟩ := hv
  refine wp_callIN (vs := []) (st := [.ref b6, .ref a0]) (fin' := fin') dX11_init_20 k11_18 rfl (Nat.le_of_ble_eq_true rfl) (Nat.le_of_ble_eq_true rfl) hr (wp_mono hv ?_)
  intro r h7 hv e1
  obtain ⟨rfl, hv⟩ := hv e1
  change wp _ _ _ _ _ [.ref b6, .ref a0] _ _ _
  obtain ⟨ci, fs, c, s, q, hv⟩ := hv
  refine wp_putFR dX11_init_23 rfl c (w11_19 _ s) (Or.inl ⟨_, rfl⟩) q ?_
  generalize hset h7 a0 (.inr (ci, fs.set 1 (.ref b6))) = h8 at hv ⊢
  refine wp_aload_n (i := 0) dX11_init_26 rfl rfl ?_
  refine wp_bipush (v := 60) dX11_init_27 (by decide) ?_
  obtain ⟨f1, f2, hv⟩ := hv
  refine wp_newI (N := 60) dX11_init_29 aI (by decide) (by decide) (by decide) f1 f2 ?_
  generalize hnew h8 (.inl (0, 60, .inl (fun _ => 0))) 60 = h9 at hv ⊢
  generalize h8.2.1 = b10 at hv ⊢
  obtain ⟨ci, fs, c, s, q, hv⟩ := hv
  refine wp_putFR dX11_init_31 rfl c (w11_23 _ s) (Or.inr ⟨_, rfl⟩) q ?_
  generalize hset h9 a0 (.inr (ci, fs.set 2 (.ref b10))) = h11 at hv ⊢
  refine wp_aload_n (i := 0) dX11_init_34 rfl rfl ?_
  refine wp_bipush (v := 10) dX11_init_35 (by decide) ?_
  obtain ⟨f1, f2, hv⟩ := hv
  refine wp_newA (t := 5) (N := 10) dX11_init_37 (fun _ => rfl) l11_27 (by decide +kernel) (by decide) (by decide) (by decide) f1 f2 ?_
  generalize hnew h11 (.inl (5, 10, .inr (.inr (.inr (.inr (fun _ => none)))))) 10 = h12 at hv ⊢
  generalize h11.2.1 = b13 at hv ⊢
  obtain ⟨ci, fs, c, s, q, hv⟩ := hv
  refine wp_putFR dX11_init_40 rfl c (w11_29 _ s) (Or.inr ⟨_, rfl⟩) q ?_
  generalize hset h12 a0 (.inr (ci, fs.set 4 (.ref b13))) = h14 at hv ⊢
  refine wp_aload_n (i := 0) dX11_init_43 rfl rfl ?_
  refine wp_bipush (v := 10) dX11_init_44 (by decide) ?_
  obtain ⟨f1, f2, hv⟩ := hv
  refine wp_newA (t := 6) (N := 10) dX11_init_46 (fun _ => rfl) l11_33 (by decide +kernel) (by decide) (by decide) (by decide) f1 f2 ?_
  generalize hnew h14 (.inl (6, 10, .inr (.inr (.inr (.inr (fun _ => none)))))) 10 = h15 at hv ⊢
  generalize h14.2.1 = b16 at hv ⊢
  obtain ⟨ci, fs, c, s, q, hv⟩ := hv
  refine wp_putFR dX11_init_49 rfl c (w11_35 _ s) (Or.inr ⟨_, rfl⟩) q ?_
  generalize hset h15 a0 (.inr (ci, fs.set 6 (.ref b16))) = h17 at hv ⊢
  refine wp_aload_n (i := 0) dX11_init_52 rfl rfl ?_
  refine wp_bipush (v := 10) dX11_init_53 (by decide) ?_
  refine wp_bipush (v := 10) dX11_init_55 (by decide) ?_
  obtain ⟨f1, f2, hv⟩ := hv
  refine wp_multiI (N := 10) (K := 10) dX11_init_57 ml11_39 (by decide) (by decide) (by decide) (by decide) (by decide) (by decide) f1 f2 ?_
  generalize hmulI h17 10 10 = h18 at hv ⊢
  generalize h17.2.1 = b19 at hv ⊢
  obtain ⟨ci, fs, c, s, q, hv⟩ := hv
  refine wp_putFR dX11_init_61 rfl c (w11_41 _ s) (Or.inr ⟨_, rfl⟩) q ?_
  generalize hset h18 a0 (.inr (ci, fs.set 10 (.ref b19))) = h20 at hv ⊢
  refine wp_aload_n (i := 0) dX11_init_64 rfl rfl ?_
  refine wp_bipush (v := 10) dX11_init_65 (by decide) ?_
  obtain ⟨f1, f2, hv⟩ := hv
  refine wp_newI (N := 10) dX11_init_67 aI (by decide) (by decide) (by decide) f1 f2 ?_
  generalize hnew h20 (.inl (0, 10, .inl (fun _ => 0))) 10 = h21 at hv ⊢
  generalize h20.2.1 = b22 at hv ⊢
  obtain ⟨ci, fs, c, s, q, hv⟩ := hv
  refine wp_putFR dX11_init_69 rfl c (w11_44 _ s) (Or.inr ⟨_, rfl⟩) q ?_
  generalize hset h21 a0 (.inr (ci, fs.set 11 (.ref b22))) = h23 at hv ⊢
  refine wp_aload_n (i := 0) dX11_init_72 rfl rfl ?_
  refine wp_bipush (v := 10) dX11_init_73 (by decide) ?_
  obtain ⟨f1, f2, hv⟩ := hv
  refine wp_newI (N := 10) dX11_init_75 aI (by decide) (by decide) (by decide) f1 f2 ?_
  generalize hnew h23 (.inl (0, 10, .inl (fun _ => 0))) 10 = h24 at hv ⊢
  generalize h23.2.1 = b25 at hv ⊢
  obtain ⟨ci, fs, c, s, q, hv⟩ := hv
  refine wp_putFR dX11_init_77 rfl c (w11_47 _ s) (Or.inr ⟨_, rfl⟩) q ?_
  generalize hset h24 a0 (.inr (ci, fs.set 12 (.ref b25))) = h26 at hv ⊢
  refine wp_aload_n (i := 0) dX11_init_80 rfl rfl ?_
  refine wp_bipush (v := 6) dX11_init_81 (by decide) ?_
  obtain ⟨f1, f2, hv⟩ := hv
  refine wp_newA (t := 6) (N := 6) dX11_init_83 (fun _ => rfl) l11_33 (by decide +kernel) (by decide) (by decide) (by decide) f1 f2 ?_
  generalize hnew h26 (.inl (6, 6, .inr (.inr (.inr (.inr (fun _ => none)))))) 6 = h27 at hv ⊢
  generalize h26.2.1 = b28 at hv ⊢
  obtain ⟨ci, fs, c, s, q, hv⟩ := hv
  refine wp_putFR dX11_init_86 rfl c (w11_50 _ s) (Or.inr ⟨_, rfl⟩) q ?_
  generalize hset h27 a0 (.inr (ci, fs.set 13 (.ref b28))) = h29 at hv ⊢
  refine wp_aload_n (i := 0) dX11_init_89 rfl rfl ?_
  refine wp_bipush (v := 6) dX11_init_90 (by decide) ?_
  obtain ⟨f1, f2, hv⟩ := hv
  refine wp_newI (N := 6) dX11_init_92 aI (by decide) (by decide) (by decide) f1 f2 ?_
  generalize hnew h29 (.inl (0, 6, .inl (fun _ => 0))) 6 = h30 at hv ⊢
  generalize h29.2.1 = b31 at hv ⊢
  obtain ⟨ci, fs, c, s, q, hv⟩ := hv
  refine wp_putFR dX11_init_94 rfl c (w11_53 _ s) (Or.inr ⟨_, rfl⟩) q ?_
  generalize hset h30 a0 (.inr (ci, fs.set 14 (.ref b31))) = h32 at hv ⊢
  refine wp_aload_n (i := 0) dX11_init_97 rfl rfl ?_
  refine wp_bipush (v := 6) dX11_init_98 (by decide) ?_
  obtain ⟨f1, f2, hv⟩ := hv
  refine wp_newI (N := 6) dX11_init_100 aI (by decide) (by decide) (by decide) f1 f2 ?_
  generalize hnew h32 (.inl (0, 6, .inl (fun _ => 0))) 6 = h33 at hv ⊢
  generalize h32.2.1 = b34 at hv ⊢
  obtain ⟨ci, fs, c, s, q, hv⟩ := hv
  refine wp_putFR dX11_init_102 rfl c (w11_56 _ s) (Or.inr ⟨_, rfl⟩) q ?_
  generalize hset h33 a0 (.inr (ci, fs.set 15 (.ref b34))) = h35 at hv ⊢
  refine wp_aload_n (i := 0) dX11_init_105 rfl rfl ?_
  refine wp_bipush (v := 6) dX11_init_106 (by decide) ?_
  refine wp_bipush (v := 60) dX11_init_108 (by decide) ?_
  obtain ⟨f1, f2, hv⟩ := hv
  refine wp_multiJ (N := 6) (K := 60) dX11_init_110 ml11_59 (by decide) (by decide) (by decide) (by decide) (by decide) (by decide) f1 f2 ?_
  generalize hmulJ h35 6 60 = h36 at hv ⊢
  generalize h35.2.1 = b37 at hv ⊢
  obtain ⟨ci, fs, c, s, q, hv⟩ := hv
  refine wp_putFR dX11_init_114 rfl c (w11_61 _ s) (Or.inr ⟨_, rfl⟩) q ?_
  generalize hset h36 a0 (.inr (ci, fs.set 16 (.ref b37))) = h38 at hv ⊢
  refine wp_aload_n (i := 0) dX11_init_117 rfl rfl ?_
  obtain ⟨_, _, r39, c, s, q, hv⟩ := hv
  refine wp_getfield dX11_init_118 c (f11_53 _ s) q ?_
  refine wp_iconst (v := -1) dX11_init_121 (by decide) ?_
  obtain ⟨fin', hr, hv⟩ := hv
  refine wp_callS (vs := [.ref r39, .int (-1 : Int32)]) (st := []) (fin' := fin') dX11_init_122 k11_64 rfl (Nat.le_of_ble_eq_true rfl) (Nat.le_of_ble_eq_true rfl) hr (wp_mono hv ?_)
  intro r h40 hv e1
  obtain ⟨rfl, hv⟩ := hv e1
  change wp _ _ _ _ _ [] _ _ _
  obtain ⟨e, hv⟩ := hv
  exact wp_return dX11_init_125 rfl e hv
theorem vX11_ask_0 {G : Gp} {d : Nat} {h : AH} {fin : Nat × Nat} {Q : Option Value → AH → Prop} {a0 : Nat} (hv : FI [11] h a0 5 (fun v1 => ((v1 < (10 : Int32) → NW h (.inr (0, [.int 0, .null, .null, .null, .int 0, .int 0, .int 0, .int 0, .int 0, .int 0, .int 0, .int 0, .int 0])) 13 fin (fun b3 h2 => (∃ fin' : Nat × Nat, cR h2 fin' fin ∧ wp G d mX0_init 0 [(0, .ref b3)] [] h2 fin' (fun r h4 => h4.2 = fin' → (r = none ∧ FR [11] h4 a0 2 (fun r5 => FI [11] h4 a0 3 (fun v6 => (∃ fs : List Value, h4.1 b3 = some (.inr (0, fs)) ∧ ∃ fin' : Nat × Nat, cR h4 fin' fin ∧ wp G d mX0_readFrom 0 [(0, .ref b3), (1, .ref r5), (2, .int v6)] [] h4 fin' (fun r h7 => h7.2 = fin' → (∃ v8, r = some (.int v8) ∧ FS [11] h7 a0 3 (.int (0 : Int32)) (fun h9 => ((v8 = (-1 : Int32) → FR [11] h9 a0 4 (fun r10 => FI [11] h9 a0 5 (fun v11 => SR h9 r10 v11 b3 (fun h12 => FI [11] h12 a0 5 (fun v13 => FS [11] h12 a0 5 (.int (v13 + (1 : Int32))) (fun h14 => FI [11] h14 a0 5 (fun v15 => (h14.2 = fin ∧ Q (some (.int (v15 - (1 : Int32)))) h14)))))))) ∧ (¬ v8 = (-1 : Int32) → (h9.2 = fin ∧ Q (some (.int ((-100 : Int32) - v8))) h9)))))))))))))) ∧ (¬ v1 < (10 : Int32) → (h.2 = fin ∧ Q (some (.int (-3 : Int32))) h))))) : wp G (d + 1) mX11_ask 0 [(0, .ref a0)] [] h fin Q := by
  refine wp_aload_n (i := 0) dX11_ask_0 rfl rfl ?_
  obtain ⟨_, _, v1, c, s, q, hv⟩ := hv
  refine wp_getfield dX11_ask_1 c (f11_133 _ s) q ?_
  refine wp_bipush (v := 10) dX11_ask_4 (by decide) ?_
  refine wp_icmp_lt 12 dX11_ask_6 (by decide) (fun q => ?_) (fun q => ?_)
  · replace hv := hv.1 q
    obtain ⟨f1, f2, hv⟩ := hv
    refine wp_new dX11_ask_12 n11_27 f1 f2 ?_
    generalize hnew h (.inr (0, [.int 0, .null, .null, .null, .int 0, .int 0, .int 0, .int 0, .int 0, .int 0, .int 0, .int 0, .int 0])) 13 = h2 at hv ⊢
    generalize h.2.1 = b3 at hv ⊢
    refine wp_dupR dX11_ask_15 ?_
    obtain ⟨fin', hr, hv⟩ := hv
    refine wp_callIN (vs := []) (st := [.ref b3]) (fin' := fin') dX11_ask_16 k11_136 rfl (Nat.le_of_ble_eq_true rfl) (Nat.le_of_ble_eq_true rfl) hr (wp_mono hv ?_)
    intro r h4 hv e1
    obtain ⟨rfl, hv⟩ := hv e1
    change wp _ _ _ _ _ [.ref b3] _ _ _
    refine wx_astore_n (ls' := [(0, .ref a0), (1, .ref b3)]) (i := 1) dX11_ask_19 rfl (by decide) rfl ?_
    refine wp_aload_n (i := 1) dX11_ask_20 rfl rfl ?_
    refine wp_aload_n (i := 0) dX11_ask_21 rfl rfl ?_
    obtain ⟨_, _, r5, c, s, q, hv⟩ := hv
    refine wp_getfield dX11_ask_22 c (f11_23 _ s) q ?_
    refine wp_aload_n (i := 0) dX11_ask_25 rfl rfl ?_
    obtain ⟨_, _, v6, c, s, q, hv⟩ := hv
    refine wp_getfield dX11_ask_26 c (f11_130 _ s) q ?_
    obtain ⟨fs, c, hv⟩ := hv
    obtain ⟨fin', hr, hv⟩ := hv
    refine wp_callV (vs := [.ref r5, .int v6]) (st := []) (fin' := fin') dX11_ask_29 c rfl k11_137_0 rfl (Nat.le_of_ble_eq_true rfl) (Nat.le_of_ble_eq_true rfl) hr (wp_mono hv ?_)
    intro r h7 hv e1
    obtain ⟨v8, rfl, hv⟩ := hv e1
    change wp _ _ _ _ _ [.int v8] _ _ _
    refine wx_istore_n (ls' := [(0, .ref a0), (1, .ref b3), (2, .int v8)]) (i := 2) dX11_ask_32 rfl (by decide) rfl ?_
    refine wp_aload_n (i := 0) dX11_ask_33 rfl rfl ?_
    refine wp_iconst (v := 0) dX11_ask_34 (by decide) ?_
    obtain ⟨ci, fs, c, s, q, hv⟩ := hv
    refine wp_putI dX11_ask_35 c (w11_130 _ s) q ?_
    generalize hset h7 a0 (.inr (ci, fs.set 3 (.int (0 : Int32)))) = h9 at hv ⊢
    refine wp_iload_n (i := 2) dX11_ask_38 rfl rfl ?_
    refine wp_iconst (v := -1) dX11_ask_39 (by decide) ?_
    refine wp_icmp_eq 48 dX11_ask_40 (by decide) (fun q => ?_) (fun q => ?_)
    · replace hv := hv.1 q
      refine wp_aload_n (i := 0) dX11_ask_48 rfl rfl ?_
      obtain ⟨_, _, r10, c, s, q, hv⟩ := hv
      refine wp_getfield dX11_ask_49 c (f11_29 _ s) q ?_
      refine wp_aload_n (i := 0) dX11_ask_52 rfl rfl ?_
      obtain ⟨_, _, v11, c, s, q, hv⟩ := hv
      refine wp_getfield dX11_ask_53 c (f11_133 _ s) q ?_
      refine wp_aload_n (i := 1) dX11_ask_56 rfl rfl ?_
      obtain ⟨t, n, f, _, _, c, c2, z, q, hv⟩ := hv
      refine wx_aastR dX11_ask_57 c c2 z q ?_
      generalize hset h9 r10 (.inl (t, n, .inr (.inr (.inr (.inr (va_up f (v11).toNatClampNeg (some b3))))))) = h12 at hv ⊢
      refine wp_aload_n (i := 0) dX11_ask_58 rfl rfl ?_
      refine wp_dupR dX11_ask_59 ?_
      obtain ⟨_, _, v13, c, s, q, hv⟩ := hv
      refine wp_getfield dX11_ask_60 c (f11_133 _ s) q ?_
      refine wp_iconst (v := 1) dX11_ask_63 (by decide) ?_
      refine wp_iadd dX11_ask_64 ?_
      obtain ⟨ci, fs, c, s, q, hv⟩ := hv
      refine wp_putI dX11_ask_65 c (w11_133 _ s) q ?_
      generalize hset h12 a0 (.inr (ci, fs.set 5 (.int (v13 + (1 : Int32))))) = h14 at hv ⊢
      refine wp_aload_n (i := 0) dX11_ask_68 rfl rfl ?_
      obtain ⟨_, _, v15, c, s, q, hv⟩ := hv
      refine wp_getfield dX11_ask_69 c (f11_133 _ s) q ?_
      refine wp_iconst (v := 1) dX11_ask_72 (by decide) ?_
      refine wp_isub dX11_ask_73 ?_
      obtain ⟨e, hv⟩ := hv
      exact wp_ireturn dX11_ask_74 rfl rfl e hv
    · replace hv := hv.2 q
      refine wp_bipush (v := -100) dX11_ask_43 (by decide) ?_
      refine wp_iload_n (i := 2) dX11_ask_45 rfl rfl ?_
      refine wp_isub dX11_ask_46 ?_
      obtain ⟨e, hv⟩ := hv
      exact wp_ireturn dX11_ask_47 rfl rfl e hv
  · replace hv := hv.2 q
    refine wp_bipush (v := -3) dX11_ask_9 (by decide) ?_
    obtain ⟨e, hv⟩ := hv
    exact wp_ireturn dX11_ask_11 rfl rfl e hv
theorem vX11_stone_0 {G : Gp} {d : Nat} {h : AH} {fin : Nat × Nat} {Q : Option Value → AH → Prop} {a0 : Nat} {x1 : Int32} {x2 : Int32} (hv : (∃ fin' : Nat × Nat, cR h fin' fin ∧ wp G d mX11_isWithin 0 [(0, .int x1), (1, .int (0 : Int32)), (2, .int (7 : Int32))] [] h fin' (fun r h1 => h1.2 = fin' → (∃ v2, r = some (.int v2) ∧ ((v2 = 0 → (h1.2 = fin ∧ Q (some (.int (-1 : Int32))) h1)) ∧ (¬ v2 = 0 → (∃ fin' : Nat × Nat, cR h1 fin' fin ∧ wp G d mX11_isField 0 [(0, .int x2)] [] h1 fin' (fun r h3 => h3.2 = fin' → (∃ v4, r = some (.int v4) ∧ ((v4 ≠ 0 → FI [11] h3 a0 7 (fun v5 => ((v5 < (10 : Int32) → FI [11] h3 a0 7 (fun v6 => (∃ fs : List Value, h3.1 a0 = some (.inr (11, fs)) ∧ ∃ fin' : Nat × Nat, cR h3 fin' fin ∧ wp G d mX11_newStone 0 [(0, .ref a0), (1, .int x1), (2, .int v6), (3, .int x2)] [] h3 fin' (fun r h7 => h7.2 = fin' → (∃ b8, r = some (.ref b8) ∧ wp G (d + 1) mX11_stone 45 [(0, .ref a0), (1, .int x1), (2, .int x2), (3, .ref b8), (4, .int (0 : Int32))] [] h7 fin Q))))) ∧ (¬ v5 < (10 : Int32) → (h3.2 = fin ∧ Q (some (.int (-3 : Int32))) h3))))) ∧ (v4 = 0 → (h3.2 = fin ∧ Q (some (.int (-1 : Int32))) h3)))))))))))) : wp G (d + 1) mX11_stone 0 [(0, .ref a0), (1, .int x1), (2, .int x2)] [] h fin Q := by
  refine wp_iload_n (i := 1) dX11_stone_0 rfl rfl ?_
  refine wp_iconst (v := 0) dX11_stone_1 (by decide) ?_
  refine wp_bipush (v := 7) dX11_stone_2 (by decide) ?_
  obtain ⟨fin', hr, hv⟩ := hv
  refine wp_callS (vs := [.int x1, .int (0 : Int32), .int (7 : Int32)]) (st := []) (fin' := fin') dX11_stone_4 k11_105 rfl (Nat.le_of_ble_eq_true rfl) (Nat.le_of_ble_eq_true rfl) hr (wp_mono hv ?_)
  intro r h1 hv e1
  obtain ⟨v2, rfl, hv⟩ := hv e1
  change wp _ _ _ _ _ [.int v2] _ _ _
  refine wp_if_eq 17 dX11_stone_7 (by decide) (fun q => ?_) (fun q => ?_)
  · replace hv := hv.1 q
    refine wp_iconst (v := -1) dX11_stone_17 (by decide) ?_
    obtain ⟨e, hv⟩ := hv
    exact wp_ireturn dX11_stone_18 rfl rfl e hv
  · replace hv := hv.2 q
    refine wp_iload_n (i := 2) dX11_stone_10 rfl rfl ?_
    obtain ⟨fin', hr, hv⟩ := hv
    refine wp_callS (vs := [.int x2]) (st := []) (fin' := fin') dX11_stone_11 k11_113 rfl (Nat.le_of_ble_eq_true rfl) (Nat.le_of_ble_eq_true rfl) hr (wp_mono hv ?_)
    intro r h3 hv e1
    obtain ⟨v4, rfl, hv⟩ := hv e1
    change wp _ _ _ _ _ [.int v4] _ _ _
    refine wp_if_ne 19 dX11_stone_14 (by decide) (fun q => ?_) (fun q => ?_)
    · replace hv := hv.1 q
      refine wp_aload_n (i := 0) dX11_stone_19 rfl rfl ?_
      obtain ⟨_, _, v5, c, s, q, hv⟩ := hv
      refine wp_getfield dX11_stone_20 c (f11_86 _ s) q ?_
      refine wp_bipush (v := 10) dX11_stone_23 (by decide) ?_
      refine wp_icmp_lt 31 dX11_stone_25 (by decide) (fun q => ?_) (fun q => ?_)
      · replace hv := hv.1 q
        refine wp_aload_n (i := 0) dX11_stone_31 rfl rfl ?_
        refine wp_iload_n (i := 1) dX11_stone_32 rfl rfl ?_
        refine wp_aload_n (i := 0) dX11_stone_33 rfl rfl ?_
        obtain ⟨_, _, v6, c, s, q, hv⟩ := hv
        refine wp_getfield dX11_stone_34 c (f11_86 _ s) q ?_
        refine wp_iload_n (i := 2) dX11_stone_37 rfl rfl ?_
        obtain ⟨fs, c, hv⟩ := hv
        obtain ⟨fin', hr, hv⟩ := hv
        refine wp_callV (vs := [.int x1, .int v6, .int x2]) (st := []) (fin' := fin') dX11_stone_38 c rfl k11_164_11 rfl (Nat.le_of_ble_eq_true rfl) (Nat.le_of_ble_eq_true rfl) hr (wp_mono hv ?_)
        intro r h7 hv e1
        obtain ⟨b8, rfl, hv⟩ := hv e1
        change wp _ _ _ _ _ [.ref b8] _ _ _
        refine wx_astore_n (ls' := [(0, .ref a0), (1, .int x1), (2, .int x2), (3, .ref b8)]) (i := 3) dX11_stone_41 rfl (by decide) rfl ?_
        refine wp_iconst (v := 0) dX11_stone_42 (by decide) ?_
        refine wx_istore (ls' := [(0, .ref a0), (1, .int x1), (2, .int x2), (3, .ref b8), (4, .int (0 : Int32))]) dX11_stone_43 (by decide) rfl ?_
        exact hv
      · replace hv := hv.2 q
        refine wp_bipush (v := -3) dX11_stone_28 (by decide) ?_
        obtain ⟨e, hv⟩ := hv
        exact wp_ireturn dX11_stone_30 rfl rfl e hv
    · replace hv := hv.2 q
      refine wp_iconst (v := -1) dX11_stone_17 (by decide) ?_
      obtain ⟨e, hv⟩ := hv
      exact wp_ireturn dX11_stone_18 rfl rfl e hv
theorem vX11_stone_45 {G : Gp} {d : Nat} {h : AH} {fin : Nat × Nat} {Q : Option Value → AH → Prop} {a0 : Nat} {x1 : Int32} {x2 : Int32} {a3 : Nat} {x4 : Int32} (hv : FR [11] h a0 0 (fun r1 => FI [8] h r1 2 (fun v2 => ((v2 ≤ x4 → FR [11] h a0 6 (fun r3 => FI [11] h a0 7 (fun v4 => SR h r3 v4 a3 (fun h5 => FI [11] h5 a0 7 (fun v6 => FS [11] h5 a0 7 (.int (v6 + (1 : Int32))) (fun h7 => FI [11] h7 a0 7 (fun v8 => (h7.2 = fin ∧ Q (some (.int (v8 - (1 : Int32)))) h7)))))))) ∧ (¬ v2 ≤ x4 → FR [11] h a0 0 (fun r9 => (∃ fs : List Value, h.1 r9 = some (.inr (8, fs)) ∧ ∃ fin' : Nat × Nat, cR h fin' fin ∧ wp G d mX8_isIn 0 [(0, .ref r9), (1, .int x4)] [] h fin' (fun r h10 => h10.2 = fin' → (∃ v11, r = some (.int v11) ∧ ((v11 = 0 → wp G (d + 1) mX11_stone 45 [(0, .ref a0), (1, .int x1), (2, .int x2), (3, .ref a3), (4, .int (x4 + 1))] [] h10 fin Q) ∧ (¬ v11 = 0 → (∃ (ci : Nat) (fs : List Value) (M' : AM), h10.1 a3 = some (.inr (ci, fs)) ∧ vt11_89 ci = some M' ∧ ∃ fin' : Nat × Nat, cR h10 fin' fin ∧ wp G d M' 0 [(0, .ref a3), (1, .int x4)] [] h10 fin' (fun r h12 => h12.2 = fin' → (r = none ∧ wp G (d + 1) mX11_stone 45 [(0, .ref a0), (1, .int x1), (2, .int x2), (3, .ref a3), (4, .int (x4 + 1))] [] h12 fin Q)))))))))))))) : wp G (d + 1) mX11_stone 45 [(0, .ref a0), (1, .int x1), (2, .int x2), (3, .ref a3), (4, .int x4)] [] h fin Q := by
  refine wp_iload dX11_stone_45 rfl ?_
  refine wp_aload_n (i := 0) dX11_stone_47 rfl rfl ?_
  obtain ⟨_, _, r1, c, s, q, hv⟩ := hv
  refine wp_getfield dX11_stone_48 c (f11_10 _ s) q ?_
  obtain ⟨_, _, v2, c, s, q, hv⟩ := hv
  refine wp_getfield dX11_stone_51 c (f11_78 _ s) q ?_
  refine wp_icmp_ge 81 dX11_stone_54 (by decide) (fun q => ?_) (fun q => ?_)
  · replace hv := hv.1 q
    refine wp_aload_n (i := 0) dX11_stone_81 rfl rfl ?_
    obtain ⟨_, _, r3, c, s, q, hv⟩ := hv
    refine wp_getfield dX11_stone_82 c (f11_35 _ s) q ?_
    refine wp_aload_n (i := 0) dX11_stone_85 rfl rfl ?_
    obtain ⟨_, _, v4, c, s, q, hv⟩ := hv
    refine wp_getfield dX11_stone_86 c (f11_86 _ s) q ?_
    refine wp_aload_n (i := 3) dX11_stone_89 rfl rfl ?_
    obtain ⟨t, n, f, _, _, c, c2, z, q, hv⟩ := hv
    refine wx_aastR dX11_stone_90 c c2 z q ?_
    generalize hset h r3 (.inl (t, n, .inr (.inr (.inr (.inr (va_up f (v4).toNatClampNeg (some a3))))))) = h5 at hv ⊢
    refine wp_aload_n (i := 0) dX11_stone_91 rfl rfl ?_
    refine wp_dupR dX11_stone_92 ?_
    obtain ⟨_, _, v6, c, s, q, hv⟩ := hv
    refine wp_getfield dX11_stone_93 c (f11_86 _ s) q ?_
    refine wp_iconst (v := 1) dX11_stone_96 (by decide) ?_
    refine wp_iadd dX11_stone_97 ?_
    obtain ⟨ci, fs, c, s, q, hv⟩ := hv
    refine wp_putI dX11_stone_98 c (w11_86 _ s) q ?_
    generalize hset h5 a0 (.inr (ci, fs.set 7 (.int (v6 + (1 : Int32))))) = h7 at hv ⊢
    refine wp_aload_n (i := 0) dX11_stone_101 rfl rfl ?_
    obtain ⟨_, _, v8, c, s, q, hv⟩ := hv
    refine wp_getfield dX11_stone_102 c (f11_86 _ s) q ?_
    refine wp_iconst (v := 1) dX11_stone_105 (by decide) ?_
    refine wp_isub dX11_stone_106 ?_
    obtain ⟨e, hv⟩ := hv
    exact wp_ireturn dX11_stone_107 rfl rfl e hv
  · replace hv := hv.2 q
    refine wp_aload_n (i := 0) dX11_stone_57 rfl rfl ?_
    obtain ⟨_, _, r9, c, s, q, hv⟩ := hv
    refine wp_getfield dX11_stone_58 c (f11_10 _ s) q ?_
    refine wp_iload dX11_stone_61 rfl ?_
    obtain ⟨fs, c, hv⟩ := hv
    obtain ⟨fin', hr, hv⟩ := hv
    refine wp_callV (vs := [.int x4]) (st := []) (fin' := fin') dX11_stone_63 c rfl k11_96_8 rfl (Nat.le_of_ble_eq_true rfl) (Nat.le_of_ble_eq_true rfl) hr (wp_mono hv ?_)
    intro r h10 hv e1
    obtain ⟨v11, rfl, hv⟩ := hv e1
    change wp _ _ _ _ _ [.int v11] _ _ _
    refine wp_if_eq 75 dX11_stone_66 (by decide) (fun q => ?_) (fun q => ?_)
    · replace hv := hv.1 q
      refine wx_iinc (v := 1) (ls' := [(0, .ref a0), (1, .int x1), (2, .int x2), (3, .ref a3), (4, .int (x4 + 1))]) dX11_stone_75 rfl (by decide) (by decide) rfl ?_
      refine wp_goto 45 dX11_stone_78 (by decide) ?_
      exact hv
    · replace hv := hv.2 q
      refine wp_aload_n (i := 3) dX11_stone_69 rfl rfl ?_
      refine wp_iload dX11_stone_70 rfl ?_
      obtain ⟨ci, fs, M', c, z, hv⟩ := hv
      obtain ⟨fin', hr, hv⟩ := hv
      refine wp_callX (vs := [.int x4]) (st := []) (fin' := fin') dX11_stone_72 c (kx11_89 z).1 rfl (kx11_89 z).2 (Nat.le_of_ble_eq_true rfl) hr (wp_mono hv ?_)
      intro r h12 hv e1
      obtain ⟨rfl, hv⟩ := hv e1
      change wp _ _ _ _ _ [] _ _ _
      refine wx_iinc (v := 1) (ls' := [(0, .ref a0), (1, .int x1), (2, .int x2), (3, .ref a3), (4, .int (x4 + 1))]) dX11_stone_75 rfl (by decide) (by decide) rfl ?_
      refine wp_goto 45 dX11_stone_78 (by decide) ?_
      exact hv
theorem vX11_newStone_0 {G : Gp} {d : Nat} {h : AH} {fin : Nat × Nat} {Q : Option Value → AH → Prop} {a0 : Nat} {x1 : Int32} {x2 : Int32} {x3 : Int32} (hv : ((x1 = (1 : Int32) → NW h (.inr (3, [.null, .int 0, .int 0, .null, .null, .int 0, .int 0, .int 0, .int 0, .null, .int 0])) 11 fin (fun b2 h1 => FR [11] h1 a0 0 (fun r3 => (∃ fin' : Nat × Nat, cR h1 fin' fin ∧ wp G d mX3_init 0 [(0, .ref b2), (1, .ref r3), (2, .int x2), (3, .int x3)] [] h1 fin' (fun r h4 => h4.2 = fin' → (r = none ∧ (h4.2 = fin ∧ Q (some (.ref b2)) h4))))))) ∧ (x1 = (2 : Int32) → NW h (.inr (4, [.null, .int 0, .int 0, .null, .null, .int 0, .int 0, .int 0, .int 0, .null, .int 0])) 11 fin (fun b6 h5 => FR [11] h5 a0 0 (fun r7 => (∃ fin' : Nat × Nat, cR h5 fin' fin ∧ wp G d mX4_init 0 [(0, .ref b6), (1, .ref r7), (2, .int x2), (3, .int x3)] [] h5 fin' (fun r h8 => h8.2 = fin' → (r = none ∧ (h8.2 = fin ∧ Q (some (.ref b6)) h8))))))) ∧ (x1 = (3 : Int32) → NW h (.inr (2, [.null, .int 0, .int 0, .null, .null, .int 0, .int 0, .int 0, .int 0, .null, .int 0])) 11 fin (fun b10 h9 => FR [11] h9 a0 0 (fun r11 => (∃ fin' : Nat × Nat, cR h9 fin' fin ∧ wp G d mX2_init 0 [(0, .ref b10), (1, .ref r11), (2, .int x2), (3, .int x3)] [] h9 fin' (fun r h12 => h12.2 = fin' → (r = none ∧ (h12.2 = fin ∧ Q (some (.ref b10)) h12))))))) ∧ (x1 = (4 : Int32) → NW h (.inr (7, [.null, .int 0, .int 0, .null, .null, .int 0, .int 0, .int 0, .int 0, .null, .int 0])) 11 fin (fun b14 h13 => FR [11] h13 a0 0 (fun r15 => (∃ fin' : Nat × Nat, cR h13 fin' fin ∧ wp G d mX7_init 0 [(0, .ref b14), (1, .ref r15), (2, .int x2), (3, .int x3), (4, .int (80 : Int32))] [] h13 fin' (fun r h16 => h16.2 = fin' → (r = none ∧ (h16.2 = fin ∧ Q (some (.ref b14)) h16))))))) ∧ (x1 = (5 : Int32) → NW h (.inr (10, [.null, .int 0, .int 0, .null, .null, .int 0, .int 0, .int 0, .int 0, .null, .null, .null, .int 0, .int 0])) 14 fin (fun b18 h17 => FR [11] h17 a0 0 (fun r19 => (∃ fin' : Nat × Nat, cR h17 fin' fin ∧ wp G d mX10_init 0 [(0, .ref b18), (1, .ref r19), (2, .int x2), (3, .int x3)] [] h17 fin' (fun r h20 => h20.2 = fin' → (r = none ∧ (h20.2 = fin ∧ Q (some (.ref b18)) h20))))))) ∧ (x1 = (6 : Int32) → NW h (.inr (1, [.null, .int 0, .int 0, .null, .null, .int 0, .int 0, .int 0, .int 0, .null, .int 0, .int 0])) 12 fin (fun b22 h21 => FR [11] h21 a0 0 (fun r23 => (∃ fin' : Nat × Nat, cR h21 fin' fin ∧ wp G d mX1_init 0 [(0, .ref b22), (1, .ref r23), (2, .int x2), (3, .int x3)] [] h21 fin' (fun r h24 => h24.2 = fin' → (r = none ∧ (h24.2 = fin ∧ Q (some (.ref b22)) h24))))))) ∧ (x1 = (7 : Int32) → NW h (.inr (6, [.null, .int 0, .int 0, .null, .null, .int 0, .int 0, .int 0, .int 0, .null, .int 0, .null])) 12 fin (fun b26 h25 => FR [11] h25 a0 0 (fun r27 => (∃ fin' : Nat × Nat, cR h25 fin' fin ∧ wp G d mX6_init 0 [(0, .ref b26), (1, .ref r27), (2, .int x2), (3, .int x3)] [] h25 fin' (fun r h28 => h28.2 = fin' → (r = none ∧ (h28.2 = fin ∧ Q (some (.ref b26)) h28))))))) ∧ ((¬ x1 = (1 : Int32) ∧ ¬ x1 = (2 : Int32) ∧ ¬ x1 = (3 : Int32) ∧ ¬ x1 = (4 : Int32) ∧ ¬ x1 = (5 : Int32) ∧ ¬ x1 = (6 : Int32) ∧ ¬ x1 = (7 : Int32)) → NW h (.inr (5, [.null, .int 0, .int 0, .null, .null, .int 0, .int 0, .int 0, .int 0])) 9 fin (fun b30 h29 => FR [11] h29 a0 0 (fun r31 => (∃ fin' : Nat × Nat, cR h29 fin' fin ∧ wp G d mX5_init 0 [(0, .ref b30), (1, .ref r31), (2, .int x2), (3, .int x3)] [] h29 fin' (fun r h32 => h32.2 = fin' → (r = none ∧ (h32.2 = fin ∧ Q (some (.ref b30)) h32))))))))) : wp G (d + 1) mX11_newStone 0 [(0, .ref a0), (1, .int x1), (2, .int x2), (3, .int x3)] [] h fin Q := by
  refine wp_iload_n (i := 1) dX11_newStone_0 rfl rfl ?_
  by_cases q0 : x1 = (1 : Int32)
  · refine wx_tableIn (1 : Int32) q0 44 dX11_newStone_1 (by decide) (by decide) (by decide +kernel) (by decide) ?_
    replace hv := hv.1 q0
    obtain ⟨f1, f2, hv⟩ := hv
    refine wp_new dX11_newStone_44 n11_168 f1 f2 ?_
    generalize hnew h (.inr (3, [.null, .int 0, .int 0, .null, .null, .int 0, .int 0, .int 0, .int 0, .null, .int 0])) 11 = h1 at hv ⊢
    generalize h.2.1 = b2 at hv ⊢
    refine wp_dupR dX11_newStone_47 ?_
    refine wp_aload_n (i := 0) dX11_newStone_48 rfl rfl ?_
    obtain ⟨_, _, r3, c, s, q, hv⟩ := hv
    refine wp_getfield dX11_newStone_49 c (f11_10 _ s) q ?_
    refine wp_iload_n (i := 2) dX11_newStone_52 rfl rfl ?_
    refine wp_iload_n (i := 3) dX11_newStone_53 rfl rfl ?_
    obtain ⟨fin', hr, hv⟩ := hv
    refine wp_callI (vs := [.ref r3, .int x2, .int x3]) (st := [.ref b2]) (fin' := fin') dX11_newStone_54 k11_170 rfl (Nat.le_of_ble_eq_true rfl) (Nat.le_of_ble_eq_true rfl) hr (wp_mono hv ?_)
    intro r h4 hv e1
    obtain ⟨rfl, hv⟩ := hv e1
    change wp _ _ _ _ _ [.ref b2] _ _ _
    obtain ⟨e, hv⟩ := hv
    exact wp_areturn dX11_newStone_57 rfl (Or.inl ⟨_, rfl⟩) e hv
  by_cases q1 : x1 = (2 : Int32)
  · refine wx_tableIn (2 : Int32) q1 58 dX11_newStone_1 (by decide) (by decide) (by decide +kernel) (by decide) ?_
    replace hv := hv.2.1 q1
    obtain ⟨f1, f2, hv⟩ := hv
    refine wp_new dX11_newStone_58 n11_173 f1 f2 ?_
    generalize hnew h (.inr (4, [.null, .int 0, .int 0, .null, .null, .int 0, .int 0, .int 0, .int 0, .null, .int 0])) 11 = h5 at hv ⊢
    generalize h.2.1 = b6 at hv ⊢
    refine wp_dupR dX11_newStone_61 ?_
    refine wp_aload_n (i := 0) dX11_newStone_62 rfl rfl ?_
    obtain ⟨_, _, r7, c, s, q, hv⟩ := hv
    refine wp_getfield dX11_newStone_63 c (f11_10 _ s) q ?_
    refine wp_iload_n (i := 2) dX11_newStone_66 rfl rfl ?_
    refine wp_iload_n (i := 3) dX11_newStone_67 rfl rfl ?_
    obtain ⟨fin', hr, hv⟩ := hv
    refine wp_callI (vs := [.ref r7, .int x2, .int x3]) (st := [.ref b6]) (fin' := fin') dX11_newStone_68 k11_175 rfl (Nat.le_of_ble_eq_true rfl) (Nat.le_of_ble_eq_true rfl) hr (wp_mono hv ?_)
    intro r h8 hv e1
    obtain ⟨rfl, hv⟩ := hv e1
    change wp _ _ _ _ _ [.ref b6] _ _ _
    obtain ⟨e, hv⟩ := hv
    exact wp_areturn dX11_newStone_71 rfl (Or.inl ⟨_, rfl⟩) e hv
  by_cases q2 : x1 = (3 : Int32)
  · refine wx_tableIn (3 : Int32) q2 72 dX11_newStone_1 (by decide) (by decide) (by decide +kernel) (by decide) ?_
    replace hv := hv.2.2.1 q2
    obtain ⟨f1, f2, hv⟩ := hv
    refine wp_new dX11_newStone_72 n11_176 f1 f2 ?_
    generalize hnew h (.inr (2, [.null, .int 0, .int 0, .null, .null, .int 0, .int 0, .int 0, .int 0, .null, .int 0])) 11 = h9 at hv ⊢
    generalize h.2.1 = b10 at hv ⊢
    refine wp_dupR dX11_newStone_75 ?_
    refine wp_aload_n (i := 0) dX11_newStone_76 rfl rfl ?_
    obtain ⟨_, _, r11, c, s, q, hv⟩ := hv
    refine wp_getfield dX11_newStone_77 c (f11_10 _ s) q ?_
    refine wp_iload_n (i := 2) dX11_newStone_80 rfl rfl ?_
    refine wp_iload_n (i := 3) dX11_newStone_81 rfl rfl ?_
    obtain ⟨fin', hr, hv⟩ := hv
    refine wp_callI (vs := [.ref r11, .int x2, .int x3]) (st := [.ref b10]) (fin' := fin') dX11_newStone_82 k11_178 rfl (Nat.le_of_ble_eq_true rfl) (Nat.le_of_ble_eq_true rfl) hr (wp_mono hv ?_)
    intro r h12 hv e1
    obtain ⟨rfl, hv⟩ := hv e1
    change wp _ _ _ _ _ [.ref b10] _ _ _
    obtain ⟨e, hv⟩ := hv
    exact wp_areturn dX11_newStone_85 rfl (Or.inl ⟨_, rfl⟩) e hv
  by_cases q3 : x1 = (4 : Int32)
  · refine wx_tableIn (4 : Int32) q3 86 dX11_newStone_1 (by decide) (by decide) (by decide +kernel) (by decide) ?_
    replace hv := hv.2.2.2.1 q3
    obtain ⟨f1, f2, hv⟩ := hv
    refine wp_new dX11_newStone_86 n11_179 f1 f2 ?_
    generalize hnew h (.inr (7, [.null, .int 0, .int 0, .null, .null, .int 0, .int 0, .int 0, .int 0, .null, .int 0])) 11 = h13 at hv ⊢
    generalize h.2.1 = b14 at hv ⊢
    refine wp_dupR dX11_newStone_89 ?_
    refine wp_aload_n (i := 0) dX11_newStone_90 rfl rfl ?_
    obtain ⟨_, _, r15, c, s, q, hv⟩ := hv
    refine wp_getfield dX11_newStone_91 c (f11_10 _ s) q ?_
    refine wp_iload_n (i := 2) dX11_newStone_94 rfl rfl ?_
    refine wp_iload_n (i := 3) dX11_newStone_95 rfl rfl ?_
    refine wp_bipush (v := 80) dX11_newStone_96 (by decide) ?_
    obtain ⟨fin', hr, hv⟩ := hv
    refine wp_callI (vs := [.ref r15, .int x2, .int x3, .int (80 : Int32)]) (st := [.ref b14]) (fin' := fin') dX11_newStone_98 k11_181 rfl (Nat.le_of_ble_eq_true rfl) (Nat.le_of_ble_eq_true rfl) hr (wp_mono hv ?_)
    intro r h16 hv e1
    obtain ⟨rfl, hv⟩ := hv e1
    change wp _ _ _ _ _ [.ref b14] _ _ _
    obtain ⟨e, hv⟩ := hv
    exact wp_areturn dX11_newStone_101 rfl (Or.inl ⟨_, rfl⟩) e hv
  by_cases q4 : x1 = (5 : Int32)
  · refine wx_tableIn (5 : Int32) q4 102 dX11_newStone_1 (by decide) (by decide) (by decide +kernel) (by decide) ?_
    replace hv := hv.2.2.2.2.1 q4
    obtain ⟨f1, f2, hv⟩ := hv
    refine wp_new dX11_newStone_102 n11_184 f1 f2 ?_
    generalize hnew h (.inr (10, [.null, .int 0, .int 0, .null, .null, .int 0, .int 0, .int 0, .int 0, .null, .null, .null, .int 0, .int 0])) 14 = h17 at hv ⊢
    generalize h.2.1 = b18 at hv ⊢
    refine wp_dupR dX11_newStone_105 ?_
    refine wp_aload_n (i := 0) dX11_newStone_106 rfl rfl ?_
    obtain ⟨_, _, r19, c, s, q, hv⟩ := hv
    refine wp_getfield dX11_newStone_107 c (f11_10 _ s) q ?_
    refine wp_iload_n (i := 2) dX11_newStone_110 rfl rfl ?_
    refine wp_iload_n (i := 3) dX11_newStone_111 rfl rfl ?_
    obtain ⟨fin', hr, hv⟩ := hv
    refine wp_callI (vs := [.ref r19, .int x2, .int x3]) (st := [.ref b18]) (fin' := fin') dX11_newStone_112 k11_186 rfl (Nat.le_of_ble_eq_true rfl) (Nat.le_of_ble_eq_true rfl) hr (wp_mono hv ?_)
    intro r h20 hv e1
    obtain ⟨rfl, hv⟩ := hv e1
    change wp _ _ _ _ _ [.ref b18] _ _ _
    obtain ⟨e, hv⟩ := hv
    exact wp_areturn dX11_newStone_115 rfl (Or.inl ⟨_, rfl⟩) e hv
  by_cases q5 : x1 = (6 : Int32)
  · refine wx_tableIn (6 : Int32) q5 116 dX11_newStone_1 (by decide) (by decide) (by decide +kernel) (by decide) ?_
    replace hv := hv.2.2.2.2.2.1 q5
    obtain ⟨f1, f2, hv⟩ := hv
    refine wp_new dX11_newStone_116 n11_187 f1 f2 ?_
    generalize hnew h (.inr (1, [.null, .int 0, .int 0, .null, .null, .int 0, .int 0, .int 0, .int 0, .null, .int 0, .int 0])) 12 = h21 at hv ⊢
    generalize h.2.1 = b22 at hv ⊢
    refine wp_dupR dX11_newStone_119 ?_
    refine wp_aload_n (i := 0) dX11_newStone_120 rfl rfl ?_
    obtain ⟨_, _, r23, c, s, q, hv⟩ := hv
    refine wp_getfield dX11_newStone_121 c (f11_10 _ s) q ?_
    refine wp_iload_n (i := 2) dX11_newStone_124 rfl rfl ?_
    refine wp_iload_n (i := 3) dX11_newStone_125 rfl rfl ?_
    obtain ⟨fin', hr, hv⟩ := hv
    refine wp_callI (vs := [.ref r23, .int x2, .int x3]) (st := [.ref b22]) (fin' := fin') dX11_newStone_126 k11_189 rfl (Nat.le_of_ble_eq_true rfl) (Nat.le_of_ble_eq_true rfl) hr (wp_mono hv ?_)
    intro r h24 hv e1
    obtain ⟨rfl, hv⟩ := hv e1
    change wp _ _ _ _ _ [.ref b22] _ _ _
    obtain ⟨e, hv⟩ := hv
    exact wp_areturn dX11_newStone_129 rfl (Or.inl ⟨_, rfl⟩) e hv
  by_cases q6 : x1 = (7 : Int32)
  · refine wx_tableIn (7 : Int32) q6 130 dX11_newStone_1 (by decide) (by decide) (by decide +kernel) (by decide) ?_
    replace hv := hv.2.2.2.2.2.2.1 q6
    obtain ⟨f1, f2, hv⟩ := hv
    refine wp_new dX11_newStone_130 n11_190 f1 f2 ?_
    generalize hnew h (.inr (6, [.null, .int 0, .int 0, .null, .null, .int 0, .int 0, .int 0, .int 0, .null, .int 0, .null])) 12 = h25 at hv ⊢
    generalize h.2.1 = b26 at hv ⊢
    refine wp_dupR dX11_newStone_133 ?_
    refine wp_aload_n (i := 0) dX11_newStone_134 rfl rfl ?_
    obtain ⟨_, _, r27, c, s, q, hv⟩ := hv
    refine wp_getfield dX11_newStone_135 c (f11_10 _ s) q ?_
    refine wp_iload_n (i := 2) dX11_newStone_138 rfl rfl ?_
    refine wp_iload_n (i := 3) dX11_newStone_139 rfl rfl ?_
    obtain ⟨fin', hr, hv⟩ := hv
    refine wp_callI (vs := [.ref r27, .int x2, .int x3]) (st := [.ref b26]) (fin' := fin') dX11_newStone_140 k11_192 rfl (Nat.le_of_ble_eq_true rfl) (Nat.le_of_ble_eq_true rfl) hr (wp_mono hv ?_)
    intro r h28 hv e1
    obtain ⟨rfl, hv⟩ := hv e1
    change wp _ _ _ _ _ [.ref b26] _ _ _
    obtain ⟨e, hv⟩ := hv
    exact wp_areturn dX11_newStone_143 rfl (Or.inl ⟨_, rfl⟩) e hv
  refine wp_tableOut 144 dX11_newStone_1 (by have n0 := lv_neT q0 (show ((1 : Int32)).toInt = 1 by decide); have n1 := lv_neT q1 (show ((2 : Int32)).toInt = 2 by decide); have n2 := lv_neT q2 (show ((3 : Int32)).toInt = 3 by decide); have n3 := lv_neT q3 (show ((4 : Int32)).toInt = 4 by decide); have n4 := lv_neT q4 (show ((5 : Int32)).toInt = 5 by decide); have n5 := lv_neT q5 (show ((6 : Int32)).toInt = 6 by decide); have n6 := lv_neT q6 (show ((7 : Int32)).toInt = 7 by decide); omega) (by decide) ?_
  replace hv := hv.2.2.2.2.2.2.2 ⟨q0, q1, q2, q3, q4, q5, q6⟩
  obtain ⟨f1, f2, hv⟩ := hv
  refine wp_new dX11_newStone_144 n11_33 f1 f2 ?_
  generalize hnew h (.inr (5, [.null, .int 0, .int 0, .null, .null, .int 0, .int 0, .int 0, .int 0])) 9 = h29 at hv ⊢
  generalize h.2.1 = b30 at hv ⊢
  refine wp_dupR dX11_newStone_147 ?_
  refine wp_aload_n (i := 0) dX11_newStone_148 rfl rfl ?_
  obtain ⟨_, _, r31, c, s, q, hv⟩ := hv
  refine wp_getfield dX11_newStone_149 c (f11_10 _ s) q ?_
  refine wp_iload_n (i := 2) dX11_newStone_152 rfl rfl ?_
  refine wp_iload_n (i := 3) dX11_newStone_153 rfl rfl ?_
  obtain ⟨fin', hr, hv⟩ := hv
  refine wp_callI (vs := [.ref r31, .int x2, .int x3]) (st := [.ref b30]) (fin' := fin') dX11_newStone_154 k11_193 rfl (Nat.le_of_ble_eq_true rfl) (Nat.le_of_ble_eq_true rfl) hr (wp_mono hv ?_)
  intro r h32 hv e1
  obtain ⟨rfl, hv⟩ := hv e1
  change wp _ _ _ _ _ [.ref b30] _ _ _
  obtain ⟨e, hv⟩ := hv
  exact wp_areturn dX11_newStone_157 rfl (Or.inl ⟨_, rfl⟩) e hv
theorem vX12_init_0 {G : Gp} {d : Nat} {h : AH} {fin : Nat × Nat} {Q : Option Value → AH → Prop} {a0 : Nat} (hv : NW h (.inl (0, 320, .inl (fun _ => 0))) 320 fin (fun b2 h1 => FS [12] h1 a0 0 (.ref b2) (fun h3 => NW h3 (.inl (2, 80, .inl (fun _ => 0))) 80 fin (fun b5 h4 => FS [12] h4 a0 1 (.ref b5) (fun h6 => NW h6 (.inl (2, 4, .inl (fun _ => 0))) 4 fin (fun b8 h7 => FS [12] h7 a0 3 (.ref b8) (fun h9 => NW h9 (.inl (0, 4, .inl (fun _ => 0))) 4 fin (fun b11 h10 => FS [12] h10 a0 4 (.ref b11) (fun h12 => NW h12 (.inl (0, 60, .inl (fun _ => 0))) 60 fin (fun b14 h13 => FS [12] h13 a0 5 (.ref b14) (fun h15 => NW h15 (.inl (0, 160, .inl (fun _ => 0))) 160 fin (fun b17 h16 => FS [12] h16 a0 7 (.ref b17) (fun h18 => NW h18 (.inl (0, 160, .inl (fun _ => 0))) 160 fin (fun b20 h19 => FS [12] h19 a0 8 (.ref b20) (fun h21 => NW h21 (.inl (0, 160, .inl (fun _ => 0))) 160 fin (fun b23 h22 => FS [12] h22 a0 9 (.ref b23) (fun h24 => NW h24 (.inl (0, 10, .inl (fun _ => 0))) 10 fin (fun b26 h25 => FS [12] h25 a0 10 (.ref b26) (fun h27 => NW h27 (.inl (0, 10, .inl (fun _ => 0))) 10 fin (fun b29 h28 => FS [12] h28 a0 11 (.ref b29) (fun h30 => NW h30 (.inl (0, 10, .inl (fun _ => 0))) 10 fin (fun b32 h31 => FS [12] h31 a0 12 (.ref b32) (fun h33 => NW h33 (.inl (0, 10, .inl (fun _ => 0))) 10 fin (fun b35 h34 => FS [12] h34 a0 13 (.ref b35) (fun h36 => NW h36 (.inl (0, 10, .inl (fun _ => 0))) 10 fin (fun b38 h37 => FS [12] h37 a0 15 (.ref b38) (fun h39 => NW h39 (.inl (0, 10, .inl (fun _ => 0))) 10 fin (fun b41 h40 => FS [12] h40 a0 16 (.ref b41) (fun h42 => NW h42 (.inl (0, 800, .inl (fun _ => 0))) 800 fin (fun b44 h43 => FS [12] h43 a0 17 (.ref b44) (fun h45 => NW h45 (.inl (0, 10, .inl (fun _ => 0))) 10 fin (fun b47 h46 => FS [12] h46 a0 18 (.ref b47) (fun h48 => NW h48 (.inl (0, 800, .inl (fun _ => 0))) 800 fin (fun b50 h49 => FS [12] h49 a0 19 (.ref b50) (fun h51 => NW h51 (.inl (0, 800, .inl (fun _ => 0))) 800 fin (fun b53 h52 => FS [12] h52 a0 20 (.ref b53) (fun h54 => NW h54 (.inl (0, 10, .inl (fun _ => 0))) 10 fin (fun b56 h55 => FS [12] h55 a0 21 (.ref b56) (fun h57 => NW h57 (.inl (0, 10, .inl (fun _ => 0))) 10 fin (fun b59 h58 => FS [12] h58 a0 22 (.ref b59) (fun h60 => NW h60 (.inl (0, 10, .inl (fun _ => 0))) 10 fin (fun b62 h61 => FS [12] h61 a0 23 (.ref b62) (fun h63 => NW h63 (.inl (0, 10, .inl (fun _ => 0))) 10 fin (fun b65 h64 => FS [12] h64 a0 24 (.ref b65) (fun h66 => NW h66 (.inl (0, 12, .inl (fun _ => 0))) 12 fin (fun b68 h67 => FS [12] h67 a0 34 (.ref b68) (fun h69 => NW h69 (.inl (0, 12, .inl (fun _ => 0))) 12 fin (fun b71 h70 => FS [12] h70 a0 35 (.ref b71) (fun h72 => NW h72 (.inl (0, 60, .inl (fun _ => 0))) 60 fin (fun b74 h73 => FS [12] h73 a0 37 (.ref b74) (fun h75 => NW h75 (.inl (0, 8, .inl (fun _ => 0))) 8 fin (fun b77 h76 => FS [12] h76 a0 39 (.ref b77) (fun h78 => NW h78 (.inl (0, 8, .inl (fun _ => 0))) 8 fin (fun b80 h79 => FS [12] h79 a0 40 (.ref b80) (fun h81 => NW h81 (.inl (0, 9, .inl (fun _ => 0))) 9 fin (fun b83 h82 => FS [12] h82 a0 41 (.ref b83) (fun h84 => NW h84 (.inl (0, 10, .inl (fun _ => 0))) 10 fin (fun b86 h85 => FS [12] h85 a0 42 (.ref b86) (fun h87 => FS [12] h87 a0 44 (.int (-1 : Int32)) (fun h88 => NW h88 (.inl (0, 100, .inl (fun _ => 0))) 100 fin (fun b90 h89 => FS [12] h89 a0 45 (.ref b90) (fun h91 => NW h91 (.inl (2, 4, .inl (fun _ => 0))) 4 fin (fun b93 h92 => FS [12] h92 a0 46 (.ref b93) (fun h94 => NW h94 (.inl (2, 320, .inl (fun _ => 0))) 320 fin (fun b96 h95 => FS [12] h95 a0 47 (.ref b96) (fun h97 => NW h97 (.inl (0, 4, .inl (fun _ => 0))) 4 fin (fun b99 h98 => FS [12] h98 a0 48 (.ref b99) (fun h100 => NW h100 (.inl (0, 24, .inl (fun _ => 0))) 24 fin (fun b102 h101 => FS [12] h101 a0 50 (.ref b102) (fun h103 => NW h103 (.inl (0, 6, .inl (fun _ => 0))) 6 fin (fun b105 h104 => FS [12] h104 a0 53 (.ref b105) (fun h106 => NW h106 (.inl (0, 6, .inl (fun _ => 0))) 6 fin (fun b108 h107 => FS [12] h107 a0 54 (.ref b108) (fun h109 => NW h109 (.inl (1, 360, .inr (.inl (fun _ => 0)))) 360 fin (fun b111 h110 => FS [12] h110 a0 55 (.ref b111) (fun h112 => NW h112 (.inl (1, 60, .inr (.inl (fun _ => 0)))) 60 fin (fun b114 h113 => FS [12] h113 a0 56 (.ref b114) (fun h115 => wp G d mX12_init 320 [(0, .ref a0), (1, .int (0 : Int32))] [] h115 fin Q)))))))))))))))))))))))))))))))))))))))))))))))))))))))))))))))))))))))))))))) : wp G d mX12_init 0 [(0, .ref a0)] [] h fin Q := by
  refine wp_aload_n (i := 0) dX12_init_0 rfl rfl ?_
  refine wp_objInit dX12_init_1 ob12_1 oi1 oi2 (Nat.le_of_ble_eq_true rfl) ?_
  refine wp_aload_n (i := 0) dX12_init_4 rfl rfl ?_
  refine wp_sipush (v := 320) dX12_init_5 (by decide) ?_
  obtain ⟨f1, f2, hv⟩ := hv
  refine wp_newI (N := 320) dX12_init_8 aI (by decide) (by decide) (by decide) f1 f2 ?_
  generalize hnew h (.inl (0, 320, .inl (fun _ => 0))) 320 = h1 at hv ⊢
  generalize h.2.1 = b2 at hv ⊢
  obtain ⟨ci, fs, c, s, q, hv⟩ := hv
  refine wp_putFR dX12_init_10 rfl c (w12_9 _ s) (Or.inr ⟨_, rfl⟩) q ?_
  generalize hset h1 a0 (.inr (ci, fs.set 0 (.ref b2))) = h3 at hv ⊢
  refine wp_aload_n (i := 0) dX12_init_13 rfl rfl ?_
  refine wp_bipush (v := 80) dX12_init_14 (by decide) ?_
  obtain ⟨f1, f2, hv⟩ := hv
  refine wp_newZ (N := 80) dX12_init_16 aZ (by decide) (by decide) (by decide) f1 f2 ?_
  generalize hnew h3 (.inl (2, 80, .inl (fun _ => 0))) 80 = h4 at hv ⊢
  generalize h3.2.1 = b5 at hv ⊢
  obtain ⟨ci, fs, c, s, q, hv⟩ := hv
  refine wp_putFR dX12_init_18 rfl c (w12_13 _ s) (Or.inr ⟨_, rfl⟩) q ?_
  generalize hset h4 a0 (.inr (ci, fs.set 1 (.ref b5))) = h6 at hv ⊢
  refine wp_aload_n (i := 0) dX12_init_21 rfl rfl ?_
  refine wp_iconst (v := 4) dX12_init_22 (by decide) ?_
  obtain ⟨f1, f2, hv⟩ := hv
  refine wp_newZ (N := 4) dX12_init_23 aZ (by decide) (by decide) (by decide) f1 f2 ?_
  generalize hnew h6 (.inl (2, 4, .inl (fun _ => 0))) 4 = h7 at hv ⊢
  generalize h6.2.1 = b8 at hv ⊢
  obtain ⟨ci, fs, c, s, q, hv⟩ := hv
  refine wp_putFR dX12_init_25 rfl c (w12_17 _ s) (Or.inr ⟨_, rfl⟩) q ?_
  generalize hset h7 a0 (.inr (ci, fs.set 3 (.ref b8))) = h9 at hv ⊢
  refine wp_aload_n (i := 0) dX12_init_28 rfl rfl ?_
  refine wp_iconst (v := 4) dX12_init_29 (by decide) ?_
  obtain ⟨f1, f2, hv⟩ := hv
  refine wp_newI (N := 4) dX12_init_30 aI (by decide) (by decide) (by decide) f1 f2 ?_
  generalize hnew h9 (.inl (0, 4, .inl (fun _ => 0))) 4 = h10 at hv ⊢
  generalize h9.2.1 = b11 at hv ⊢
  obtain ⟨ci, fs, c, s, q, hv⟩ := hv
  refine wp_putFR dX12_init_32 rfl c (w12_20 _ s) (Or.inr ⟨_, rfl⟩) q ?_
  generalize hset h10 a0 (.inr (ci, fs.set 4 (.ref b11))) = h12 at hv ⊢
  refine wp_aload_n (i := 0) dX12_init_35 rfl rfl ?_
  refine wp_bipush (v := 60) dX12_init_36 (by decide) ?_
  obtain ⟨f1, f2, hv⟩ := hv
  refine wp_newI (N := 60) dX12_init_38 aI (by decide) (by decide) (by decide) f1 f2 ?_
  generalize hnew h12 (.inl (0, 60, .inl (fun _ => 0))) 60 = h13 at hv ⊢
  generalize h12.2.1 = b14 at hv ⊢
  obtain ⟨ci, fs, c, s, q, hv⟩ := hv
  refine wp_putFR dX12_init_40 rfl c (w12_23 _ s) (Or.inr ⟨_, rfl⟩) q ?_
  generalize hset h13 a0 (.inr (ci, fs.set 5 (.ref b14))) = h15 at hv ⊢
  refine wp_aload_n (i := 0) dX12_init_43 rfl rfl ?_
  refine wp_sipush (v := 160) dX12_init_44 (by decide) ?_
  obtain ⟨f1, f2, hv⟩ := hv
  refine wp_newI (N := 160) dX12_init_47 aI (by decide) (by decide) (by decide) f1 f2 ?_
  generalize hnew h15 (.inl (0, 160, .inl (fun _ => 0))) 160 = h16 at hv ⊢
  generalize h15.2.1 = b17 at hv ⊢
  obtain ⟨ci, fs, c, s, q, hv⟩ := hv
  refine wp_putFR dX12_init_49 rfl c (w12_26 _ s) (Or.inr ⟨_, rfl⟩) q ?_
  generalize hset h16 a0 (.inr (ci, fs.set 7 (.ref b17))) = h18 at hv ⊢
  refine wp_aload_n (i := 0) dX12_init_52 rfl rfl ?_
  refine wp_sipush (v := 160) dX12_init_53 (by decide) ?_
  obtain ⟨f1, f2, hv⟩ := hv
  refine wp_newI (N := 160) dX12_init_56 aI (by decide) (by decide) (by decide) f1 f2 ?_
  generalize hnew h18 (.inl (0, 160, .inl (fun _ => 0))) 160 = h19 at hv ⊢
  generalize h18.2.1 = b20 at hv ⊢
  obtain ⟨ci, fs, c, s, q, hv⟩ := hv
  refine wp_putFR dX12_init_58 rfl c (w12_29 _ s) (Or.inr ⟨_, rfl⟩) q ?_
  generalize hset h19 a0 (.inr (ci, fs.set 8 (.ref b20))) = h21 at hv ⊢
  refine wp_aload_n (i := 0) dX12_init_61 rfl rfl ?_
  refine wp_sipush (v := 160) dX12_init_62 (by decide) ?_
  obtain ⟨f1, f2, hv⟩ := hv
  refine wp_newI (N := 160) dX12_init_65 aI (by decide) (by decide) (by decide) f1 f2 ?_
  generalize hnew h21 (.inl (0, 160, .inl (fun _ => 0))) 160 = h22 at hv ⊢
  generalize h21.2.1 = b23 at hv ⊢
  obtain ⟨ci, fs, c, s, q, hv⟩ := hv
  refine wp_putFR dX12_init_67 rfl c (w12_32 _ s) (Or.inr ⟨_, rfl⟩) q ?_
  generalize hset h22 a0 (.inr (ci, fs.set 9 (.ref b23))) = h24 at hv ⊢
  refine wp_aload_n (i := 0) dX12_init_70 rfl rfl ?_
  refine wp_bipush (v := 10) dX12_init_71 (by decide) ?_
  obtain ⟨f1, f2, hv⟩ := hv
  refine wp_newI (N := 10) dX12_init_73 aI (by decide) (by decide) (by decide) f1 f2 ?_
  generalize hnew h24 (.inl (0, 10, .inl (fun _ => 0))) 10 = h25 at hv ⊢
  generalize h24.2.1 = b26 at hv ⊢
  obtain ⟨ci, fs, c, s, q, hv⟩ := hv
  refine wp_putFR dX12_init_75 rfl c (w12_35 _ s) (Or.inr ⟨_, rfl⟩) q ?_
  generalize hset h25 a0 (.inr (ci, fs.set 10 (.ref b26))) = h27 at hv ⊢
  refine wp_aload_n (i := 0) dX12_init_78 rfl rfl ?_
  refine wp_bipush (v := 10) dX12_init_79 (by decide) ?_
  obtain ⟨f1, f2, hv⟩ := hv
  refine wp_newI (N := 10) dX12_init_81 aI (by decide) (by decide) (by decide) f1 f2 ?_
  generalize hnew h27 (.inl (0, 10, .inl (fun _ => 0))) 10 = h28 at hv ⊢
  generalize h27.2.1 = b29 at hv ⊢
  obtain ⟨ci, fs, c, s, q, hv⟩ := hv
  refine wp_putFR dX12_init_83 rfl c (w12_38 _ s) (Or.inr ⟨_, rfl⟩) q ?_
  generalize hset h28 a0 (.inr (ci, fs.set 11 (.ref b29))) = h30 at hv ⊢
  refine wp_aload_n (i := 0) dX12_init_86 rfl rfl ?_
  refine wp_bipush (v := 10) dX12_init_87 (by decide) ?_
  obtain ⟨f1, f2, hv⟩ := hv
  refine wp_newI (N := 10) dX12_init_89 aI (by decide) (by decide) (by decide) f1 f2 ?_
  generalize hnew h30 (.inl (0, 10, .inl (fun _ => 0))) 10 = h31 at hv ⊢
  generalize h30.2.1 = b32 at hv ⊢
  obtain ⟨ci, fs, c, s, q, hv⟩ := hv
  refine wp_putFR dX12_init_91 rfl c (w12_41 _ s) (Or.inr ⟨_, rfl⟩) q ?_
  generalize hset h31 a0 (.inr (ci, fs.set 12 (.ref b32))) = h33 at hv ⊢
  refine wp_aload_n (i := 0) dX12_init_94 rfl rfl ?_
  refine wp_bipush (v := 10) dX12_init_95 (by decide) ?_
  obtain ⟨f1, f2, hv⟩ := hv
  refine wp_newI (N := 10) dX12_init_97 aI (by decide) (by decide) (by decide) f1 f2 ?_
  generalize hnew h33 (.inl (0, 10, .inl (fun _ => 0))) 10 = h34 at hv ⊢
  generalize h33.2.1 = b35 at hv ⊢
  obtain ⟨ci, fs, c, s, q, hv⟩ := hv
  refine wp_putFR dX12_init_99 rfl c (w12_44 _ s) (Or.inr ⟨_, rfl⟩) q ?_
  generalize hset h34 a0 (.inr (ci, fs.set 13 (.ref b35))) = h36 at hv ⊢
  refine wp_aload_n (i := 0) dX12_init_102 rfl rfl ?_
  refine wp_bipush (v := 10) dX12_init_103 (by decide) ?_
  obtain ⟨f1, f2, hv⟩ := hv
  refine wp_newI (N := 10) dX12_init_105 aI (by decide) (by decide) (by decide) f1 f2 ?_
  generalize hnew h36 (.inl (0, 10, .inl (fun _ => 0))) 10 = h37 at hv ⊢
  generalize h36.2.1 = b38 at hv ⊢
  obtain ⟨ci, fs, c, s, q, hv⟩ := hv
  refine wp_putFR dX12_init_107 rfl c (w12_47 _ s) (Or.inr ⟨_, rfl⟩) q ?_
  generalize hset h37 a0 (.inr (ci, fs.set 15 (.ref b38))) = h39 at hv ⊢
  refine wp_aload_n (i := 0) dX12_init_110 rfl rfl ?_
  refine wp_bipush (v := 10) dX12_init_111 (by decide) ?_
  obtain ⟨f1, f2, hv⟩ := hv
  refine wp_newI (N := 10) dX12_init_113 aI (by decide) (by decide) (by decide) f1 f2 ?_
  generalize hnew h39 (.inl (0, 10, .inl (fun _ => 0))) 10 = h40 at hv ⊢
  generalize h39.2.1 = b41 at hv ⊢
  obtain ⟨ci, fs, c, s, q, hv⟩ := hv
  refine wp_putFR dX12_init_115 rfl c (w12_50 _ s) (Or.inr ⟨_, rfl⟩) q ?_
  generalize hset h40 a0 (.inr (ci, fs.set 16 (.ref b41))) = h42 at hv ⊢
  refine wp_aload_n (i := 0) dX12_init_118 rfl rfl ?_
  refine wp_sipush (v := 800) dX12_init_119 (by decide) ?_
  obtain ⟨f1, f2, hv⟩ := hv
  refine wp_newI (N := 800) dX12_init_122 aI (by decide) (by decide) (by decide) f1 f2 ?_
  generalize hnew h42 (.inl (0, 800, .inl (fun _ => 0))) 800 = h43 at hv ⊢
  generalize h42.2.1 = b44 at hv ⊢
  obtain ⟨ci, fs, c, s, q, hv⟩ := hv
  refine wp_putFR dX12_init_124 rfl c (w12_53 _ s) (Or.inr ⟨_, rfl⟩) q ?_
  generalize hset h43 a0 (.inr (ci, fs.set 17 (.ref b44))) = h45 at hv ⊢
  refine wp_aload_n (i := 0) dX12_init_127 rfl rfl ?_
  refine wp_bipush (v := 10) dX12_init_128 (by decide) ?_
  obtain ⟨f1, f2, hv⟩ := hv
  refine wp_newI (N := 10) dX12_init_130 aI (by decide) (by decide) (by decide) f1 f2 ?_
  generalize hnew h45 (.inl (0, 10, .inl (fun _ => 0))) 10 = h46 at hv ⊢
  generalize h45.2.1 = b47 at hv ⊢
  obtain ⟨ci, fs, c, s, q, hv⟩ := hv
  refine wp_putFR dX12_init_132 rfl c (w12_56 _ s) (Or.inr ⟨_, rfl⟩) q ?_
  generalize hset h46 a0 (.inr (ci, fs.set 18 (.ref b47))) = h48 at hv ⊢
  refine wp_aload_n (i := 0) dX12_init_135 rfl rfl ?_
  refine wp_sipush (v := 800) dX12_init_136 (by decide) ?_
  obtain ⟨f1, f2, hv⟩ := hv
  refine wp_newI (N := 800) dX12_init_139 aI (by decide) (by decide) (by decide) f1 f2 ?_
  generalize hnew h48 (.inl (0, 800, .inl (fun _ => 0))) 800 = h49 at hv ⊢
  generalize h48.2.1 = b50 at hv ⊢
  obtain ⟨ci, fs, c, s, q, hv⟩ := hv
  refine wp_putFR dX12_init_141 rfl c (w12_59 _ s) (Or.inr ⟨_, rfl⟩) q ?_
  generalize hset h49 a0 (.inr (ci, fs.set 19 (.ref b50))) = h51 at hv ⊢
  refine wp_aload_n (i := 0) dX12_init_144 rfl rfl ?_
  refine wp_sipush (v := 800) dX12_init_145 (by decide) ?_
  obtain ⟨f1, f2, hv⟩ := hv
  refine wp_newI (N := 800) dX12_init_148 aI (by decide) (by decide) (by decide) f1 f2 ?_
  generalize hnew h51 (.inl (0, 800, .inl (fun _ => 0))) 800 = h52 at hv ⊢
  generalize h51.2.1 = b53 at hv ⊢
  obtain ⟨ci, fs, c, s, q, hv⟩ := hv
  refine wp_putFR dX12_init_150 rfl c (w12_62 _ s) (Or.inr ⟨_, rfl⟩) q ?_
  generalize hset h52 a0 (.inr (ci, fs.set 20 (.ref b53))) = h54 at hv ⊢
  refine wp_aload_n (i := 0) dX12_init_153 rfl rfl ?_
  refine wp_bipush (v := 10) dX12_init_154 (by decide) ?_
  obtain ⟨f1, f2, hv⟩ := hv
  refine wp_newI (N := 10) dX12_init_156 aI (by decide) (by decide) (by decide) f1 f2 ?_
  generalize hnew h54 (.inl (0, 10, .inl (fun _ => 0))) 10 = h55 at hv ⊢
  generalize h54.2.1 = b56 at hv ⊢
  obtain ⟨ci, fs, c, s, q, hv⟩ := hv
  refine wp_putFR dX12_init_158 rfl c (w12_65 _ s) (Or.inr ⟨_, rfl⟩) q ?_
  generalize hset h55 a0 (.inr (ci, fs.set 21 (.ref b56))) = h57 at hv ⊢
  refine wp_aload_n (i := 0) dX12_init_161 rfl rfl ?_
  refine wp_bipush (v := 10) dX12_init_162 (by decide) ?_
  obtain ⟨f1, f2, hv⟩ := hv
  refine wp_newI (N := 10) dX12_init_164 aI (by decide) (by decide) (by decide) f1 f2 ?_
  generalize hnew h57 (.inl (0, 10, .inl (fun _ => 0))) 10 = h58 at hv ⊢
  generalize h57.2.1 = b59 at hv ⊢
  obtain ⟨ci, fs, c, s, q, hv⟩ := hv
  refine wp_putFR dX12_init_166 rfl c (w12_68 _ s) (Or.inr ⟨_, rfl⟩) q ?_
  generalize hset h58 a0 (.inr (ci, fs.set 22 (.ref b59))) = h60 at hv ⊢
  refine wp_aload_n (i := 0) dX12_init_169 rfl rfl ?_
  refine wp_bipush (v := 10) dX12_init_170 (by decide) ?_
  obtain ⟨f1, f2, hv⟩ := hv
  refine wp_newI (N := 10) dX12_init_172 aI (by decide) (by decide) (by decide) f1 f2 ?_
  generalize hnew h60 (.inl (0, 10, .inl (fun _ => 0))) 10 = h61 at hv ⊢
  generalize h60.2.1 = b62 at hv ⊢
  obtain ⟨ci, fs, c, s, q, hv⟩ := hv
  refine wp_putFR dX12_init_174 rfl c (w12_71 _ s) (Or.inr ⟨_, rfl⟩) q ?_
  generalize hset h61 a0 (.inr (ci, fs.set 23 (.ref b62))) = h63 at hv ⊢
  refine wp_aload_n (i := 0) dX12_init_177 rfl rfl ?_
  refine wp_bipush (v := 10) dX12_init_178 (by decide) ?_
  obtain ⟨f1, f2, hv⟩ := hv
  refine wp_newI (N := 10) dX12_init_180 aI (by decide) (by decide) (by decide) f1 f2 ?_
  generalize hnew h63 (.inl (0, 10, .inl (fun _ => 0))) 10 = h64 at hv ⊢
  generalize h63.2.1 = b65 at hv ⊢
  obtain ⟨ci, fs, c, s, q, hv⟩ := hv
  refine wp_putFR dX12_init_182 rfl c (w12_74 _ s) (Or.inr ⟨_, rfl⟩) q ?_
  generalize hset h64 a0 (.inr (ci, fs.set 24 (.ref b65))) = h66 at hv ⊢
  refine wp_aload_n (i := 0) dX12_init_185 rfl rfl ?_
  refine wp_bipush (v := 12) dX12_init_186 (by decide) ?_
  obtain ⟨f1, f2, hv⟩ := hv
  refine wp_newI (N := 12) dX12_init_188 aI (by decide) (by decide) (by decide) f1 f2 ?_
  generalize hnew h66 (.inl (0, 12, .inl (fun _ => 0))) 12 = h67 at hv ⊢
  generalize h66.2.1 = b68 at hv ⊢
  obtain ⟨ci, fs, c, s, q, hv⟩ := hv
  refine wp_putFR dX12_init_190 rfl c (w12_77 _ s) (Or.inr ⟨_, rfl⟩) q ?_
  generalize hset h67 a0 (.inr (ci, fs.set 34 (.ref b68))) = h69 at hv ⊢
  refine wp_aload_n (i := 0) dX12_init_193 rfl rfl ?_
  refine wp_bipush (v := 12) dX12_init_194 (by decide) ?_
  obtain ⟨f1, f2, hv⟩ := hv
  refine wp_newI (N := 12) dX12_init_196 aI (by decide) (by decide) (by decide) f1 f2 ?_
  generalize hnew h69 (.inl (0, 12, .inl (fun _ => 0))) 12 = h70 at hv ⊢
  generalize h69.2.1 = b71 at hv ⊢
  obtain ⟨ci, fs, c, s, q, hv⟩ := hv
  refine wp_putFR dX12_init_198 rfl c (w12_80 _ s) (Or.inr ⟨_, rfl⟩) q ?_
  generalize hset h70 a0 (.inr (ci, fs.set 35 (.ref b71))) = h72 at hv ⊢
  refine wp_aload_n (i := 0) dX12_init_201 rfl rfl ?_
  refine wp_bipush (v := 60) dX12_init_202 (by decide) ?_
  obtain ⟨f1, f2, hv⟩ := hv
  refine wp_newI (N := 60) dX12_init_204 aI (by decide) (by decide) (by decide) f1 f2 ?_
  generalize hnew h72 (.inl (0, 60, .inl (fun _ => 0))) 60 = h73 at hv ⊢
  generalize h72.2.1 = b74 at hv ⊢
  obtain ⟨ci, fs, c, s, q, hv⟩ := hv
  refine wp_putFR dX12_init_206 rfl c (w12_83 _ s) (Or.inr ⟨_, rfl⟩) q ?_
  generalize hset h73 a0 (.inr (ci, fs.set 37 (.ref b74))) = h75 at hv ⊢
  refine wp_aload_n (i := 0) dX12_init_209 rfl rfl ?_
  refine wp_bipush (v := 8) dX12_init_210 (by decide) ?_
  obtain ⟨f1, f2, hv⟩ := hv
  refine wp_newI (N := 8) dX12_init_212 aI (by decide) (by decide) (by decide) f1 f2 ?_
  generalize hnew h75 (.inl (0, 8, .inl (fun _ => 0))) 8 = h76 at hv ⊢
  generalize h75.2.1 = b77 at hv ⊢
  obtain ⟨ci, fs, c, s, q, hv⟩ := hv
  refine wp_putFR dX12_init_214 rfl c (w12_86 _ s) (Or.inr ⟨_, rfl⟩) q ?_
  generalize hset h76 a0 (.inr (ci, fs.set 39 (.ref b77))) = h78 at hv ⊢
  refine wp_aload_n (i := 0) dX12_init_217 rfl rfl ?_
  refine wp_bipush (v := 8) dX12_init_218 (by decide) ?_
  obtain ⟨f1, f2, hv⟩ := hv
  refine wp_newI (N := 8) dX12_init_220 aI (by decide) (by decide) (by decide) f1 f2 ?_
  generalize hnew h78 (.inl (0, 8, .inl (fun _ => 0))) 8 = h79 at hv ⊢
  generalize h78.2.1 = b80 at hv ⊢
  obtain ⟨ci, fs, c, s, q, hv⟩ := hv
  refine wp_putFR dX12_init_222 rfl c (w12_89 _ s) (Or.inr ⟨_, rfl⟩) q ?_
  generalize hset h79 a0 (.inr (ci, fs.set 40 (.ref b80))) = h81 at hv ⊢
  refine wp_aload_n (i := 0) dX12_init_225 rfl rfl ?_
  refine wp_bipush (v := 9) dX12_init_226 (by decide) ?_
  obtain ⟨f1, f2, hv⟩ := hv
  refine wp_newI (N := 9) dX12_init_228 aI (by decide) (by decide) (by decide) f1 f2 ?_
  generalize hnew h81 (.inl (0, 9, .inl (fun _ => 0))) 9 = h82 at hv ⊢
  generalize h81.2.1 = b83 at hv ⊢
  obtain ⟨ci, fs, c, s, q, hv⟩ := hv
  refine wp_putFR dX12_init_230 rfl c (w12_92 _ s) (Or.inr ⟨_, rfl⟩) q ?_
  generalize hset h82 a0 (.inr (ci, fs.set 41 (.ref b83))) = h84 at hv ⊢
  refine wp_aload_n (i := 0) dX12_init_233 rfl rfl ?_
  refine wp_bipush (v := 10) dX12_init_234 (by decide) ?_
  obtain ⟨f1, f2, hv⟩ := hv
  refine wp_newI (N := 10) dX12_init_236 aI (by decide) (by decide) (by decide) f1 f2 ?_
  generalize hnew h84 (.inl (0, 10, .inl (fun _ => 0))) 10 = h85 at hv ⊢
  generalize h84.2.1 = b86 at hv ⊢
  obtain ⟨ci, fs, c, s, q, hv⟩ := hv
  refine wp_putFR dX12_init_238 rfl c (w12_95 _ s) (Or.inr ⟨_, rfl⟩) q ?_
  generalize hset h85 a0 (.inr (ci, fs.set 42 (.ref b86))) = h87 at hv ⊢
  refine wp_aload_n (i := 0) dX12_init_241 rfl rfl ?_
  refine wp_iconst (v := -1) dX12_init_242 (by decide) ?_
  obtain ⟨ci, fs, c, s, q, hv⟩ := hv
  refine wp_putI dX12_init_243 c (w12_98 _ s) q ?_
  generalize hset h87 a0 (.inr (ci, fs.set 44 (.int (-1 : Int32)))) = h88 at hv ⊢
  refine wp_aload_n (i := 0) dX12_init_246 rfl rfl ?_
  refine wp_bipush (v := 100) dX12_init_247 (by decide) ?_
  obtain ⟨f1, f2, hv⟩ := hv
  refine wp_newI (N := 100) dX12_init_249 aI (by decide) (by decide) (by decide) f1 f2 ?_
  generalize hnew h88 (.inl (0, 100, .inl (fun _ => 0))) 100 = h89 at hv ⊢
  generalize h88.2.1 = b90 at hv ⊢
  obtain ⟨ci, fs, c, s, q, hv⟩ := hv
  refine wp_putFR dX12_init_251 rfl c (w12_102 _ s) (Or.inr ⟨_, rfl⟩) q ?_
  generalize hset h89 a0 (.inr (ci, fs.set 45 (.ref b90))) = h91 at hv ⊢
  refine wp_aload_n (i := 0) dX12_init_254 rfl rfl ?_
  refine wp_iconst (v := 4) dX12_init_255 (by decide) ?_
  obtain ⟨f1, f2, hv⟩ := hv
  refine wp_newZ (N := 4) dX12_init_256 aZ (by decide) (by decide) (by decide) f1 f2 ?_
  generalize hnew h91 (.inl (2, 4, .inl (fun _ => 0))) 4 = h92 at hv ⊢
  generalize h91.2.1 = b93 at hv ⊢
  obtain ⟨ci, fs, c, s, q, hv⟩ := hv
  refine wp_putFR dX12_init_258 rfl c (w12_105 _ s) (Or.inr ⟨_, rfl⟩) q ?_
  generalize hset h92 a0 (.inr (ci, fs.set 46 (.ref b93))) = h94 at hv ⊢
  refine wp_aload_n (i := 0) dX12_init_261 rfl rfl ?_
  refine wp_sipush (v := 320) dX12_init_262 (by decide) ?_
  obtain ⟨f1, f2, hv⟩ := hv
  refine wp_newZ (N := 320) dX12_init_265 aZ (by decide) (by decide) (by decide) f1 f2 ?_
  generalize hnew h94 (.inl (2, 320, .inl (fun _ => 0))) 320 = h95 at hv ⊢
  generalize h94.2.1 = b96 at hv ⊢
  obtain ⟨ci, fs, c, s, q, hv⟩ := hv
  refine wp_putFR dX12_init_267 rfl c (w12_108 _ s) (Or.inr ⟨_, rfl⟩) q ?_
  generalize hset h95 a0 (.inr (ci, fs.set 47 (.ref b96))) = h97 at hv ⊢
  refine wp_aload_n (i := 0) dX12_init_270 rfl rfl ?_
  refine wp_iconst (v := 4) dX12_init_271 (by decide) ?_
  obtain ⟨f1, f2, hv⟩ := hv
  refine wp_newI (N := 4) dX12_init_272 aI (by decide) (by decide) (by decide) f1 f2 ?_
  generalize hnew h97 (.inl (0, 4, .inl (fun _ => 0))) 4 = h98 at hv ⊢
  generalize h97.2.1 = b99 at hv ⊢
  obtain ⟨ci, fs, c, s, q, hv⟩ := hv
  refine wp_putFR dX12_init_274 rfl c (w12_111 _ s) (Or.inr ⟨_, rfl⟩) q ?_
  generalize hset h98 a0 (.inr (ci, fs.set 48 (.ref b99))) = h100 at hv ⊢
  refine wp_aload_n (i := 0) dX12_init_277 rfl rfl ?_
  refine wp_bipush (v := 24) dX12_init_278 (by decide) ?_
  obtain ⟨f1, f2, hv⟩ := hv
  refine wp_newI (N := 24) dX12_init_280 aI (by decide) (by decide) (by decide) f1 f2 ?_
  generalize hnew h100 (.inl (0, 24, .inl (fun _ => 0))) 24 = h101 at hv ⊢
  generalize h100.2.1 = b102 at hv ⊢
  obtain ⟨ci, fs, c, s, q, hv⟩ := hv
  refine wp_putFR dX12_init_282 rfl c (w12_114 _ s) (Or.inr ⟨_, rfl⟩) q ?_
  generalize hset h101 a0 (.inr (ci, fs.set 50 (.ref b102))) = h103 at hv ⊢
  refine wp_aload_n (i := 0) dX12_init_285 rfl rfl ?_
  refine wp_bipush (v := 6) dX12_init_286 (by decide) ?_
  obtain ⟨f1, f2, hv⟩ := hv
  refine wp_newI (N := 6) dX12_init_288 aI (by decide) (by decide) (by decide) f1 f2 ?_
  generalize hnew h103 (.inl (0, 6, .inl (fun _ => 0))) 6 = h104 at hv ⊢
  generalize h103.2.1 = b105 at hv ⊢
  obtain ⟨ci, fs, c, s, q, hv⟩ := hv
  refine wp_putFR dX12_init_290 rfl c (w12_117 _ s) (Or.inr ⟨_, rfl⟩) q ?_
  generalize hset h104 a0 (.inr (ci, fs.set 53 (.ref b105))) = h106 at hv ⊢
  refine wp_aload_n (i := 0) dX12_init_293 rfl rfl ?_
  refine wp_bipush (v := 6) dX12_init_294 (by decide) ?_
  obtain ⟨f1, f2, hv⟩ := hv
  refine wp_newI (N := 6) dX12_init_296 aI (by decide) (by decide) (by decide) f1 f2 ?_
  generalize hnew h106 (.inl (0, 6, .inl (fun _ => 0))) 6 = h107 at hv ⊢
  generalize h106.2.1 = b108 at hv ⊢
  obtain ⟨ci, fs, c, s, q, hv⟩ := hv
  refine wp_putFR dX12_init_298 rfl c (w12_120 _ s) (Or.inr ⟨_, rfl⟩) q ?_
  generalize hset h107 a0 (.inr (ci, fs.set 54 (.ref b108))) = h109 at hv ⊢
  refine wp_aload_n (i := 0) dX12_init_301 rfl rfl ?_
  refine wp_sipush (v := 360) dX12_init_302 (by decide) ?_
  obtain ⟨f1, f2, hv⟩ := hv
  refine wp_newJ (N := 360) dX12_init_305 aJ (by decide) (by decide) (by decide) f1 f2 ?_
  generalize hnew h109 (.inl (1, 360, .inr (.inl (fun _ => 0)))) 360 = h110 at hv ⊢
  generalize h109.2.1 = b111 at hv ⊢
  obtain ⟨ci, fs, c, s, q, hv⟩ := hv
  refine wp_putFR dX12_init_307 rfl c (w12_123 _ s) (Or.inr ⟨_, rfl⟩) q ?_
  generalize hset h110 a0 (.inr (ci, fs.set 55 (.ref b111))) = h112 at hv ⊢
  refine wp_aload_n (i := 0) dX12_init_310 rfl rfl ?_
  refine wp_bipush (v := 60) dX12_init_311 (by decide) ?_
  obtain ⟨f1, f2, hv⟩ := hv
  refine wp_newJ (N := 60) dX12_init_313 aJ (by decide) (by decide) (by decide) f1 f2 ?_
  generalize hnew h112 (.inl (1, 60, .inr (.inl (fun _ => 0)))) 60 = h113 at hv ⊢
  generalize h112.2.1 = b114 at hv ⊢
  obtain ⟨ci, fs, c, s, q, hv⟩ := hv
  refine wp_putFR dX12_init_315 rfl c (w12_127 _ s) (Or.inr ⟨_, rfl⟩) q ?_
  generalize hset h113 a0 (.inr (ci, fs.set 56 (.ref b114))) = h115 at hv ⊢
  refine wp_iconst (v := 0) dX12_init_318 (by decide) ?_
  refine wx_istore_n (ls' := [(0, .ref a0), (1, .int (0 : Int32))]) (i := 1) dX12_init_319 rfl (by decide) rfl ?_
  exact hv
theorem vX12_init_320 {G : Gp} {d : Nat} {h : AH} {fin : Nat × Nat} {Q : Option Value → AH → Prop} {a0 : Nat} {x1 : Int32} (hv : (((4 : Int32) ≤ x1 → wp G d mX12_init 340 [(0, .ref a0), (1, .int (0 : Int32))] [] h fin Q) ∧ (¬ (4 : Int32) ≤ x1 → FR [12] h a0 4 (fun r1 => SI h r1 x1 (-1 : Int32) (fun h2 => wp G d mX12_init 320 [(0, .ref a0), (1, .int (x1 + 1))] [] h2 fin Q))))) : wp G d mX12_init 320 [(0, .ref a0), (1, .int x1)] [] h fin Q := by
  refine wp_iload_n (i := 1) dX12_init_320 rfl rfl ?_
  refine wp_iconst (v := 4) dX12_init_321 (by decide) ?_
  refine wp_icmp_ge 338 dX12_init_322 (by decide) (fun q => ?_) (fun q => ?_)
  · replace hv := hv.1 q
    refine wp_iconst (v := 0) dX12_init_338 (by decide) ?_
    refine wx_istore_n (ls' := [(0, .ref a0), (1, .int (0 : Int32))]) (i := 1) dX12_init_339 rfl (by decide) rfl ?_
    exact hv
  · replace hv := hv.2 q
    refine wp_aload_n (i := 0) dX12_init_325 rfl rfl ?_
    obtain ⟨_, _, r1, c, s, q, hv⟩ := hv
    refine wp_getfield dX12_init_326 c (f12_20 _ s) q ?_
    refine wp_iload_n (i := 1) dX12_init_329 rfl rfl ?_
    refine wp_iconst (v := -1) dX12_init_330 (by decide) ?_
    obtain ⟨n, f, c, q, hv⟩ := hv
    refine wp_iastore dX12_init_331 c q ?_
    generalize hset h r1 (.inl (0, n, .inl (upd f (x1).toNatClampNeg (-1 : Int32)))) = h2 at hv ⊢
    refine wx_iinc (v := 1) (ls' := [(0, .ref a0), (1, .int (x1 + 1))]) dX12_init_332 rfl (by decide) (by decide) rfl ?_
    refine wp_goto 320 dX12_init_335 (by decide) ?_
    exact hv
theorem vX12_init_340 {G : Gp} {d : Nat} {h : AH} {fin : Nat × Nat} {Q : Option Value → AH → Prop} {a0 : Nat} {x1 : Int32} (hv : (((6 : Int32) ≤ x1 → (h.2 = fin ∧ Q none h)) ∧ (¬ (6 : Int32) ≤ x1 → FR [12] h a0 53 (fun r1 => SI h r1 x1 (-1 : Int32) (fun h2 => wp G d mX12_init 340 [(0, .ref a0), (1, .int (x1 + 1))] [] h2 fin Q))))) : wp G d mX12_init 340 [(0, .ref a0), (1, .int x1)] [] h fin Q := by
  refine wp_iload_n (i := 1) dX12_init_340 rfl rfl ?_
  refine wp_bipush (v := 6) dX12_init_341 (by decide) ?_
  refine wp_icmp_ge 359 dX12_init_343 (by decide) (fun q => ?_) (fun q => ?_)
  · replace hv := hv.1 q
    obtain ⟨e, hv⟩ := hv
    exact wp_return dX12_init_359 rfl e hv
  · replace hv := hv.2 q
    refine wp_aload_n (i := 0) dX12_init_346 rfl rfl ?_
    obtain ⟨_, _, r1, c, s, q, hv⟩ := hv
    refine wp_getfield dX12_init_347 c (f12_117 _ s) q ?_
    refine wp_iload_n (i := 1) dX12_init_350 rfl rfl ?_
    refine wp_iconst (v := -1) dX12_init_351 (by decide) ?_
    obtain ⟨n, f, c, q, hv⟩ := hv
    refine wp_iastore dX12_init_352 c q ?_
    generalize hset h r1 (.inl (0, n, .inl (upd f (x1).toNatClampNeg (-1 : Int32)))) = h2 at hv ⊢
    refine wx_iinc (v := 1) (ls' := [(0, .ref a0), (1, .int (x1 + 1))]) dX12_init_353 rfl (by decide) (by decide) rfl ?_
    refine wp_goto 340 dX12_init_356 (by decide) ?_
    exact hv
