/-! ===== what makes objects, raw: the class ===== -/
theorem vX8_init_0 {G : Gp} {d : Nat} {h : AH} {fin : Nat × Nat} {Q : Option Value → AH → Prop} {a0 : Nat} (hv : NW h (.inl (0, 4, .inl (fun _ => 0))) 4 fin (fun b2 h1 => FS [8] h1 a0 0 (.ref b2) (fun h3 => NW h3 (.inl (0, 4, .inl (fun _ => 0))) 4 fin (fun b5 h4 => FS [8] h4 a0 1 (.ref b5) (fun h6 => NMI h6 4 80 fin (fun b8 h7 => FS [8] h7 a0 4 (.ref b8) (fun h9 => NW h9 (.inl (0, 80, .inl (fun _ => 0))) 80 fin (fun b11 h10 => FS [8] h10 a0 5 (.ref b11) (fun h12 => NW h12 (.inl (0, 4, .inl (fun _ => 0))) 4 fin (fun b14 h13 => FS [8] h13 a0 7 (.ref b14) (fun h15 => NW h15 (.inl (0, 4, .inl (fun _ => 0))) 4 fin (fun b17 h16 => FS [8] h16 a0 8 (.ref b17) (fun h18 => NW h18 (.inl (0, 4, .inl (fun _ => 0))) 4 fin (fun b20 h19 => FS [8] h19 a0 9 (.ref b20) (fun h21 => FR [8] h21 a0 1 (fun r22 => (∃ fin' : Nat × Nat, cR h21 fin' fin ∧ wp G d mJ7_fill_53178 0 [(0, .ref r22), (1, .int (-1 : Int32))] [] h21 fin' (fun r h23 => h23.2 = fin' → (r = none ∧ (h23.2 = fin ∧ Q none h23)))))))))))))))))))) : wp G (d + 1) mX8_init 0 [(0, .ref a0)] [] h fin Q := by
  refine wp_aload_n (i := 0) dX8_init_0 rfl rfl ?_
  refine wp_objInit dX8_init_1 ob8_3 oi1 oi2 (Nat.le_of_ble_eq_true rfl) ?_
  refine wp_aload_n (i := 0) dX8_init_4 rfl rfl ?_
  refine wp_iconst (v := 4) dX8_init_5 (by decide) ?_
  obtain ⟨f1, f2, hv⟩ := hv
  refine wp_newI (N := 4) dX8_init_6 aI (by decide) (by decide) (by decide) f1 f2 ?_
  generalize hnew h (.inl (0, 4, .inl (fun _ => 0))) 4 = h1 at hv ⊢
  generalize h.2.1 = b2 at hv ⊢
  obtain ⟨ci, fs, c, s, q, hv⟩ := hv
  refine wp_putFR dX8_init_8 rfl c (w8_9 _ s) (Or.inr ⟨_, rfl⟩) q ?_
  generalize hset h1 a0 (.inr (ci, fs.set 0 (.ref b2))) = h3 at hv ⊢
  refine wp_aload_n (i := 0) dX8_init_11 rfl rfl ?_
  refine wp_iconst (v := 4) dX8_init_12 (by decide) ?_
  obtain ⟨f1, f2, hv⟩ := hv
  refine wp_newI (N := 4) dX8_init_13 aI (by decide) (by decide) (by decide) f1 f2 ?_
  generalize hnew h3 (.inl (0, 4, .inl (fun _ => 0))) 4 = h4 at hv ⊢
  generalize h3.2.1 = b5 at hv ⊢
  obtain ⟨ci, fs, c, s, q, hv⟩ := hv
  refine wp_putFR dX8_init_15 rfl c (w8_15 _ s) (Or.inr ⟨_, rfl⟩) q ?_
  generalize hset h4 a0 (.inr (ci, fs.set 1 (.ref b5))) = h6 at hv ⊢
  refine wp_aload_n (i := 0) dX8_init_18 rfl rfl ?_
  refine wp_iconst (v := 4) dX8_init_19 (by decide) ?_
  refine wp_bipush (v := 80) dX8_init_20 (by decide) ?_
  obtain ⟨f1, f2, hv⟩ := hv
  refine wp_multiI (N := 4) (K := 80) dX8_init_22 ml8_18 (by decide) (by decide) (by decide) (by decide) (by decide) (by decide) f1 f2 ?_
  generalize hmulI h6 4 80 = h7 at hv ⊢
  generalize h6.2.1 = b8 at hv ⊢
  obtain ⟨ci, fs, c, s, q, hv⟩ := hv
  refine wp_putFR dX8_init_26 rfl c (w8_20 _ s) (Or.inr ⟨_, rfl⟩) q ?_
  generalize hset h7 a0 (.inr (ci, fs.set 4 (.ref b8))) = h9 at hv ⊢
  refine wp_aload_n (i := 0) dX8_init_29 rfl rfl ?_
  refine wp_bipush (v := 80) dX8_init_30 (by decide) ?_
  obtain ⟨f1, f2, hv⟩ := hv
  refine wp_newI (N := 80) dX8_init_32 aI (by decide) (by decide) (by decide) f1 f2 ?_
  generalize hnew h9 (.inl (0, 80, .inl (fun _ => 0))) 80 = h10 at hv ⊢
  generalize h9.2.1 = b11 at hv ⊢
  obtain ⟨ci, fs, c, s, q, hv⟩ := hv
  refine wp_putFR dX8_init_34 rfl c (w8_23 _ s) (Or.inr ⟨_, rfl⟩) q ?_
  generalize hset h10 a0 (.inr (ci, fs.set 5 (.ref b11))) = h12 at hv ⊢
  refine wp_aload_n (i := 0) dX8_init_37 rfl rfl ?_
  refine wp_iconst (v := 4) dX8_init_38 (by decide) ?_
  obtain ⟨f1, f2, hv⟩ := hv
  refine wp_newI (N := 4) dX8_init_39 aI (by decide) (by decide) (by decide) f1 f2 ?_
  generalize hnew h12 (.inl (0, 4, .inl (fun _ => 0))) 4 = h13 at hv ⊢
  generalize h12.2.1 = b14 at hv ⊢
  obtain ⟨ci, fs, c, s, q, hv⟩ := hv
  refine wp_putFR dX8_init_41 rfl c (w8_26 _ s) (Or.inr ⟨_, rfl⟩) q ?_
  generalize hset h13 a0 (.inr (ci, fs.set 7 (.ref b14))) = h15 at hv ⊢
  refine wp_aload_n (i := 0) dX8_init_44 rfl rfl ?_
  refine wp_iconst (v := 4) dX8_init_45 (by decide) ?_
  obtain ⟨f1, f2, hv⟩ := hv
  refine wp_newI (N := 4) dX8_init_46 aI (by decide) (by decide) (by decide) f1 f2 ?_
  generalize hnew h15 (.inl (0, 4, .inl (fun _ => 0))) 4 = h16 at hv ⊢
  generalize h15.2.1 = b17 at hv ⊢
  obtain ⟨ci, fs, c, s, q, hv⟩ := hv
  refine wp_putFR dX8_init_48 rfl c (w8_29 _ s) (Or.inr ⟨_, rfl⟩) q ?_
  generalize hset h16 a0 (.inr (ci, fs.set 8 (.ref b17))) = h18 at hv ⊢
  refine wp_aload_n (i := 0) dX8_init_51 rfl rfl ?_
  refine wp_iconst (v := 4) dX8_init_52 (by decide) ?_
  obtain ⟨f1, f2, hv⟩ := hv
  refine wp_newI (N := 4) dX8_init_53 aI (by decide) (by decide) (by decide) f1 f2 ?_
  generalize hnew h18 (.inl (0, 4, .inl (fun _ => 0))) 4 = h19 at hv ⊢
  generalize h18.2.1 = b20 at hv ⊢
  obtain ⟨ci, fs, c, s, q, hv⟩ := hv
  refine wp_putFR dX8_init_55 rfl c (w8_32 _ s) (Or.inr ⟨_, rfl⟩) q ?_
  generalize hset h19 a0 (.inr (ci, fs.set 9 (.ref b20))) = h21 at hv ⊢
  refine wp_aload_n (i := 0) dX8_init_58 rfl rfl ?_
  obtain ⟨_, _, r22, c, s, q, hv⟩ := hv
  refine wp_getfield dX8_init_59 c (f8_15 _ s) q ?_
  refine wp_iconst (v := -1) dX8_init_62 (by decide) ?_
  obtain ⟨fin', hr, hv⟩ := hv
  refine wp_callS (vs := [.ref r22, .int (-1 : Int32)]) (st := []) (fin' := fin') dX8_init_63 k8_35 rfl (Nat.le_of_ble_eq_true rfl) (Nat.le_of_ble_eq_true rfl) hr (wp_mono hv ?_)
  intro r h23 hv e1
  replace hv := hv e1
  obtain ⟨rfl, hv⟩ := hv
  change wp _ _ _ _ _ [] _ _ _
  obtain ⟨e, hv⟩ := hv
  exact wp_return dX8_init_66 rfl e hv
theorem vX9_init_0 {G : Gp} {d : Nat} {h : AH} {fin : Nat × Nat} {Q : Option Value → AH → Prop} {a0 : Nat} (hv : FS [9] h a0 3 (.int (-1 : Int32)) (fun h1 => NW h1 (.inl (0, 12, .inl (fun _ => 0))) 12 fin (fun b3 h2 => FS [9] h2 a0 4 (.ref b3) (fun h4 => NW h4 (.inl (0, 12, .inl (fun _ => 0))) 12 fin (fun b6 h5 => FS [9] h5 a0 5 (.ref b6) (fun h7 => NW h7 (.inl (0, 60, .inl (fun _ => 0))) 60 fin (fun b9 h8 => FS [9] h8 a0 6 (.ref b9) (fun h10 => NW h10 (.inl (0, 8, .inl (fun _ => 0))) 8 fin (fun b12 h11 => FS [9] h11 a0 7 (.ref b12) (fun h13 => NW h13 (.inl (0, 9, .inl (fun _ => 0))) 9 fin (fun b15 h14 => FS [9] h14 a0 8 (.ref b15) (fun h16 => NW h16 (.inl (0, 10, .inl (fun _ => 0))) 10 fin (fun b18 h17 => FS [9] h17 a0 9 (.ref b18) (fun h19 => NMI h19 10 10 fin (fun b21 h20 => FS [9] h20 a0 10 (.ref b21) (fun h22 => (h22.2 = fin ∧ Q none h22))))))))))))))))) : wp G d mX9_init 0 [(0, .ref a0)] [] h fin Q := by
  refine wp_aload_n (i := 0) dX9_init_0 rfl rfl ?_
  refine wp_objInit dX9_init_1 ob9_3 oi1 oi2 (Nat.le_of_ble_eq_true rfl) ?_
  refine wp_aload_n (i := 0) dX9_init_4 rfl rfl ?_
  refine wp_iconst (v := -1) dX9_init_5 (by decide) ?_
  obtain ⟨ci, fs, c, s, q, hv⟩ := hv
  refine wp_putI dX9_init_6 c (w9_9 _ s) q ?_
  generalize hset h a0 (.inr (ci, fs.set 3 (.int (-1 : Int32)))) = h1 at hv ⊢
  refine wp_aload_n (i := 0) dX9_init_9 rfl rfl ?_
  refine wp_bipush (v := 12) dX9_init_10 (by decide) ?_
  obtain ⟨f1, f2, hv⟩ := hv
  refine wp_newI (N := 12) dX9_init_12 aI (by decide) (by decide) (by decide) f1 f2 ?_
  generalize hnew h1 (.inl (0, 12, .inl (fun _ => 0))) 12 = h2 at hv ⊢
  generalize h1.2.1 = b3 at hv ⊢
  obtain ⟨ci, fs, c, s, q, hv⟩ := hv
  refine wp_putFR dX9_init_14 rfl c (w9_15 _ s) (Or.inr ⟨_, rfl⟩) q ?_
  generalize hset h2 a0 (.inr (ci, fs.set 4 (.ref b3))) = h4 at hv ⊢
  refine wp_aload_n (i := 0) dX9_init_17 rfl rfl ?_
  refine wp_bipush (v := 12) dX9_init_18 (by decide) ?_
  obtain ⟨f1, f2, hv⟩ := hv
  refine wp_newI (N := 12) dX9_init_20 aI (by decide) (by decide) (by decide) f1 f2 ?_
  generalize hnew h4 (.inl (0, 12, .inl (fun _ => 0))) 12 = h5 at hv ⊢
  generalize h4.2.1 = b6 at hv ⊢
  obtain ⟨ci, fs, c, s, q, hv⟩ := hv
  refine wp_putFR dX9_init_22 rfl c (w9_19 _ s) (Or.inr ⟨_, rfl⟩) q ?_
  generalize hset h5 a0 (.inr (ci, fs.set 5 (.ref b6))) = h7 at hv ⊢
  refine wp_aload_n (i := 0) dX9_init_25 rfl rfl ?_
  refine wp_bipush (v := 60) dX9_init_26 (by decide) ?_
  obtain ⟨f1, f2, hv⟩ := hv
  refine wp_newI (N := 60) dX9_init_28 aI (by decide) (by decide) (by decide) f1 f2 ?_
  generalize hnew h7 (.inl (0, 60, .inl (fun _ => 0))) 60 = h8 at hv ⊢
  generalize h7.2.1 = b9 at hv ⊢
  obtain ⟨ci, fs, c, s, q, hv⟩ := hv
  refine wp_putFR dX9_init_30 rfl c (w9_22 _ s) (Or.inr ⟨_, rfl⟩) q ?_
  generalize hset h8 a0 (.inr (ci, fs.set 6 (.ref b9))) = h10 at hv ⊢
  refine wp_aload_n (i := 0) dX9_init_33 rfl rfl ?_
  refine wp_bipush (v := 8) dX9_init_34 (by decide) ?_
  obtain ⟨f1, f2, hv⟩ := hv
  refine wp_newI (N := 8) dX9_init_36 aI (by decide) (by decide) (by decide) f1 f2 ?_
  generalize hnew h10 (.inl (0, 8, .inl (fun _ => 0))) 8 = h11 at hv ⊢
  generalize h10.2.1 = b12 at hv ⊢
  obtain ⟨ci, fs, c, s, q, hv⟩ := hv
  refine wp_putFR dX9_init_38 rfl c (w9_25 _ s) (Or.inr ⟨_, rfl⟩) q ?_
  generalize hset h11 a0 (.inr (ci, fs.set 7 (.ref b12))) = h13 at hv ⊢
  refine wp_aload_n (i := 0) dX9_init_41 rfl rfl ?_
  refine wp_bipush (v := 9) dX9_init_42 (by decide) ?_
  obtain ⟨f1, f2, hv⟩ := hv
  refine wp_newI (N := 9) dX9_init_44 aI (by decide) (by decide) (by decide) f1 f2 ?_
  generalize hnew h13 (.inl (0, 9, .inl (fun _ => 0))) 9 = h14 at hv ⊢
  generalize h13.2.1 = b15 at hv ⊢
  obtain ⟨ci, fs, c, s, q, hv⟩ := hv
  refine wp_putFR dX9_init_46 rfl c (w9_28 _ s) (Or.inr ⟨_, rfl⟩) q ?_
  generalize hset h14 a0 (.inr (ci, fs.set 8 (.ref b15))) = h16 at hv ⊢
  refine wp_aload_n (i := 0) dX9_init_49 rfl rfl ?_
  refine wp_bipush (v := 10) dX9_init_50 (by decide) ?_
  obtain ⟨f1, f2, hv⟩ := hv
  refine wp_newI (N := 10) dX9_init_52 aI (by decide) (by decide) (by decide) f1 f2 ?_
  generalize hnew h16 (.inl (0, 10, .inl (fun _ => 0))) 10 = h17 at hv ⊢
  generalize h16.2.1 = b18 at hv ⊢
  obtain ⟨ci, fs, c, s, q, hv⟩ := hv
  refine wp_putFR dX9_init_54 rfl c (w9_31 _ s) (Or.inr ⟨_, rfl⟩) q ?_
  generalize hset h17 a0 (.inr (ci, fs.set 9 (.ref b18))) = h19 at hv ⊢
  refine wp_aload_n (i := 0) dX9_init_57 rfl rfl ?_
  refine wp_bipush (v := 10) dX9_init_58 (by decide) ?_
  refine wp_bipush (v := 10) dX9_init_60 (by decide) ?_
  obtain ⟨f1, f2, hv⟩ := hv
  refine wp_multiI (N := 10) (K := 10) dX9_init_62 ml9_34 (by decide) (by decide) (by decide) (by decide) (by decide) (by decide) f1 f2 ?_
  generalize hmulI h19 10 10 = h20 at hv ⊢
  generalize h19.2.1 = b21 at hv ⊢
  obtain ⟨ci, fs, c, s, q, hv⟩ := hv
  refine wp_putFR dX9_init_66 rfl c (w9_36 _ s) (Or.inr ⟨_, rfl⟩) q ?_
  generalize hset h20 a0 (.inr (ci, fs.set 10 (.ref b21))) = h22 at hv ⊢
  obtain ⟨e, hv⟩ := hv
  exact wp_return dX9_init_69 rfl e hv
theorem vX11_init_0 {G : Gp} {d : Nat} {h : AH} {fin : Nat × Nat} {Q : Option Value → AH → Prop} {a0 : Nat} (hv : NW h (.inr (8, [.null, .null, .int 0, .int 0, .null, .null, .int 0, .null, .null, .null])) 10 fin (fun b2 h1 => (∃ fin' : Nat × Nat, cR h1 fin' fin ∧ wp G d mX8_init 0 [(0, .ref b2)] [] h1 fin' (fun r h3 => h3.2 = fin' → (r = none ∧ FS [11] h3 a0 0 (.ref b2) (fun h4 => NW h4 (.inr (9, [.int 0, .int 0, .int 0, .int 0, .null, .null, .null, .null, .null, .null, .null])) 11 fin (fun b6 h5 => (∃ fin' : Nat × Nat, cR h5 fin' fin ∧ wp G d mX9_init 0 [(0, .ref b6)] [] h5 fin' (fun r h7 => h7.2 = fin' → (r = none ∧ FS [11] h7 a0 1 (.ref b6) (fun h8 => NW h8 (.inl (0, 60, .inl (fun _ => 0))) 60 fin (fun b10 h9 => FS [11] h9 a0 2 (.ref b10) (fun h11 => NW h11 (.inl (5, 10, .inr (.inr (.inr (.inr (fun _ => none)))))) 10 fin (fun b13 h12 => FS [11] h12 a0 4 (.ref b13) (fun h14 => NW h14 (.inr (0, [.int 0, .null, .null, .null, .int 0, .int 0, .int 0, .int 0, .int 0, .int 0, .int 0, .int 0, .int 0])) 13 fin (fun b16 h15 => (∃ fin' : Nat × Nat, cR h15 fin' fin ∧ wp G d mX0_init 0 [(0, .ref b16)] [] h15 fin' (fun r h17 => h17.2 = fin' → (r = none ∧ FS [11] h17 a0 17 (.ref b16) (fun h18 => NW h18 (.inl (6, 10, .inr (.inr (.inr (.inr (fun _ => none)))))) 10 fin (fun b20 h19 => FS [11] h19 a0 6 (.ref b20) (fun h21 => NMI h21 10 10 fin (fun b23 h22 => FS [11] h22 a0 10 (.ref b23) (fun h24 => NW h24 (.inl (0, 10, .inl (fun _ => 0))) 10 fin (fun b26 h25 => FS [11] h25 a0 11 (.ref b26) (fun h27 => NW h27 (.inl (0, 10, .inl (fun _ => 0))) 10 fin (fun b29 h28 => FS [11] h28 a0 12 (.ref b29) (fun h30 => NW h30 (.inl (6, 6, .inr (.inr (.inr (.inr (fun _ => none)))))) 6 fin (fun b32 h31 => FS [11] h31 a0 13 (.ref b32) (fun h33 => NW h33 (.inl (0, 6, .inl (fun _ => 0))) 6 fin (fun b35 h34 => FS [11] h34 a0 14 (.ref b35) (fun h36 => NW h36 (.inl (0, 6, .inl (fun _ => 0))) 6 fin (fun b38 h37 => FS [11] h37 a0 15 (.ref b38) (fun h39 => NMJ h39 6 60 fin (fun b41 h40 => FS [11] h40 a0 16 (.ref b41) (fun h42 => FR [11] h42 a0 14 (fun r43 => (∃ fin' : Nat × Nat, cR h42 fin' fin ∧ wp G d mJ7_fill_53178 0 [(0, .ref r43), (1, .int (-1 : Int32))] [] h42 fin' (fun r h44 => h44.2 = fin' → (r = none ∧ (h44.2 = fin ∧ Q none h44))))))))))))))))))))))))))))))))))))))))) : wp G (d + 1) mX11_init 0 [(0, .ref a0)] [] h fin Q := by
  refine wp_aload_n (i := 0) dX11_init_0 rfl rfl ?_
  refine wp_objInit dX11_init_1 ob11_1 oi1 oi2 (Nat.le_of_ble_eq_true rfl) ?_
  refine wp_aload_n (i := 0) dX11_init_4 rfl rfl ?_
  obtain ⟨f1, f2, hv⟩ := hv
  refine wp_new dX11_init_5 n11_7 f1 f2 ?_
  generalize hnew h (.inr (8, [.null, .null, .int 0, .int 0, .null, .null, .int 0, .null, .null, .null])) 10 = h1 at hv ⊢
  generalize h.2.1 = b2 at hv ⊢
  refine wp_dupR dX11_init_8 ?_
  obtain ⟨fin', hr, hv⟩ := hv
  refine wp_callI (vs := []) (st := [.ref b2, .ref a0]) (fin' := fin') dX11_init_9 k11_9 rfl (Nat.le_of_ble_eq_true rfl) (Nat.le_of_ble_eq_true rfl) hr (wp_mono hv ?_)
  intro r h3 hv e1
  replace hv := hv e1
  obtain ⟨rfl, hv⟩ := hv
  change wp _ _ _ _ _ [.ref b2, .ref a0] _ _ _
  obtain ⟨ci, fs, c, s, q, hv⟩ := hv
  refine wp_putFR dX11_init_12 rfl c (w11_10 _ s) (Or.inl ⟨_, rfl⟩) q ?_
  generalize hset h3 a0 (.inr (ci, fs.set 0 (.ref b2))) = h4 at hv ⊢
  refine wp_aload_n (i := 0) dX11_init_15 rfl rfl ?_
  obtain ⟨f1, f2, hv⟩ := hv
  refine wp_new dX11_init_16 n11_16 f1 f2 ?_
  generalize hnew h4 (.inr (9, [.int 0, .int 0, .int 0, .int 0, .null, .null, .null, .null, .null, .null, .null])) 11 = h5 at hv ⊢
  generalize h4.2.1 = b6 at hv ⊢
  refine wp_dupR dX11_init_19 ?_
  obtain ⟨fin', hr, hv⟩ := hv
  refine wp_callIN (vs := []) (st := [.ref b6, .ref a0]) (fin' := fin') dX11_init_20 k11_18 rfl (Nat.le_of_ble_eq_true rfl) (Nat.le_of_ble_eq_true rfl) hr (wp_mono hv ?_)
  intro r h7 hv e1
  replace hv := hv e1
  obtain ⟨rfl, hv⟩ := hv
  change wp _ _ _ _ _ [.ref b6, .ref a0] _ _ _
  obtain ⟨ci, fs, c, s, q, hv⟩ := hv
  refine wp_putFR dX11_init_23 rfl c (w11_19 _ s) (Or.inl ⟨_, rfl⟩) q ?_
  generalize hset h7 a0 (.inr (ci, fs.set 1 (.ref b6))) = h8 at hv ⊢
  refine wp_aload_n (i := 0) dX11_init_26 rfl rfl ?_
  refine wp_bipush (v := 60) dX11_init_27 (by decide) ?_
  obtain ⟨f1, f2, hv⟩ := hv
  refine wp_newI (N := 60) dX11_init_29 aI (by decide) (by decide) (by decide) f1 f2 ?_
  generalize hnew h8 (.inl (0, 60, .inl (fun _ => 0))) 60 = h9 at hv ⊢
  generalize h8.2.1 = b10 at hv ⊢
  obtain ⟨ci, fs, c, s, q, hv⟩ := hv
  refine wp_putFR dX11_init_31 rfl c (w11_23 _ s) (Or.inr ⟨_, rfl⟩) q ?_
  generalize hset h9 a0 (.inr (ci, fs.set 2 (.ref b10))) = h11 at hv ⊢
  refine wp_aload_n (i := 0) dX11_init_34 rfl rfl ?_
  refine wp_bipush (v := 10) dX11_init_35 (by decide) ?_
  obtain ⟨f1, f2, hv⟩ := hv
  refine wp_newA (t := 5) (N := 10) dX11_init_37 (fun _ => rfl) l11_27 (by decide +kernel) (by decide) (by decide) (by decide) f1 f2 ?_
  generalize hnew h11 (.inl (5, 10, .inr (.inr (.inr (.inr (fun _ => none)))))) 10 = h12 at hv ⊢
  generalize h11.2.1 = b13 at hv ⊢
  obtain ⟨ci, fs, c, s, q, hv⟩ := hv
  refine wp_putFR dX11_init_40 rfl c (w11_29 _ s) (Or.inr ⟨_, rfl⟩) q ?_
  generalize hset h12 a0 (.inr (ci, fs.set 4 (.ref b13))) = h14 at hv ⊢
  refine wp_aload_n (i := 0) dX11_init_43 rfl rfl ?_
  obtain ⟨f1, f2, hv⟩ := hv
  refine wp_new dX11_init_44 n11_27 f1 f2 ?_
  generalize hnew h14 (.inr (0, [.int 0, .null, .null, .null, .int 0, .int 0, .int 0, .int 0, .int 0, .int 0, .int 0, .int 0, .int 0])) 13 = h15 at hv ⊢
  generalize h14.2.1 = b16 at hv ⊢
  refine wp_dupR dX11_init_47 ?_
  obtain ⟨fin', hr, hv⟩ := hv
  refine wp_callIN (vs := []) (st := [.ref b16, .ref a0]) (fin' := fin') dX11_init_48 k11_33 rfl (Nat.le_of_ble_eq_true rfl) (Nat.le_of_ble_eq_true rfl) hr (wp_mono hv ?_)
  intro r h17 hv e1
  replace hv := hv e1
  obtain ⟨rfl, hv⟩ := hv
  change wp _ _ _ _ _ [.ref b16, .ref a0] _ _ _
  obtain ⟨ci, fs, c, s, q, hv⟩ := hv
  refine wp_putR dX11_init_51 c (w11_34 _ s) (Or.inl ⟨_, rfl⟩) q ?_
  generalize hset h17 a0 (.inr (ci, fs.set 17 (.ref b16))) = h18 at hv ⊢
  refine wp_aload_n (i := 0) dX11_init_54 rfl rfl ?_
  refine wp_bipush (v := 10) dX11_init_55 (by decide) ?_
  obtain ⟨f1, f2, hv⟩ := hv
  refine wp_newA (t := 6) (N := 10) dX11_init_57 (fun _ => rfl) l11_38 (by decide +kernel) (by decide) (by decide) (by decide) f1 f2 ?_
  generalize hnew h18 (.inl (6, 10, .inr (.inr (.inr (.inr (fun _ => none)))))) 10 = h19 at hv ⊢
  generalize h18.2.1 = b20 at hv ⊢
  obtain ⟨ci, fs, c, s, q, hv⟩ := hv
  refine wp_putFR dX11_init_60 rfl c (w11_40 _ s) (Or.inr ⟨_, rfl⟩) q ?_
  generalize hset h19 a0 (.inr (ci, fs.set 6 (.ref b20))) = h21 at hv ⊢
  refine wp_aload_n (i := 0) dX11_init_63 rfl rfl ?_
  refine wp_bipush (v := 10) dX11_init_64 (by decide) ?_
  refine wp_bipush (v := 10) dX11_init_66 (by decide) ?_
  obtain ⟨f1, f2, hv⟩ := hv
  refine wp_multiI (N := 10) (K := 10) dX11_init_68 ml11_44 (by decide) (by decide) (by decide) (by decide) (by decide) (by decide) f1 f2 ?_
  generalize hmulI h21 10 10 = h22 at hv ⊢
  generalize h21.2.1 = b23 at hv ⊢
  obtain ⟨ci, fs, c, s, q, hv⟩ := hv
  refine wp_putFR dX11_init_72 rfl c (w11_46 _ s) (Or.inr ⟨_, rfl⟩) q ?_
  generalize hset h22 a0 (.inr (ci, fs.set 10 (.ref b23))) = h24 at hv ⊢
  refine wp_aload_n (i := 0) dX11_init_75 rfl rfl ?_
  refine wp_bipush (v := 10) dX11_init_76 (by decide) ?_
  obtain ⟨f1, f2, hv⟩ := hv
  refine wp_newI (N := 10) dX11_init_78 aI (by decide) (by decide) (by decide) f1 f2 ?_
  generalize hnew h24 (.inl (0, 10, .inl (fun _ => 0))) 10 = h25 at hv ⊢
  generalize h24.2.1 = b26 at hv ⊢
  obtain ⟨ci, fs, c, s, q, hv⟩ := hv
  refine wp_putFR dX11_init_80 rfl c (w11_49 _ s) (Or.inr ⟨_, rfl⟩) q ?_
  generalize hset h25 a0 (.inr (ci, fs.set 11 (.ref b26))) = h27 at hv ⊢
  refine wp_aload_n (i := 0) dX11_init_83 rfl rfl ?_
  refine wp_bipush (v := 10) dX11_init_84 (by decide) ?_
  obtain ⟨f1, f2, hv⟩ := hv
  refine wp_newI (N := 10) dX11_init_86 aI (by decide) (by decide) (by decide) f1 f2 ?_
  generalize hnew h27 (.inl (0, 10, .inl (fun _ => 0))) 10 = h28 at hv ⊢
  generalize h27.2.1 = b29 at hv ⊢
  obtain ⟨ci, fs, c, s, q, hv⟩ := hv
  refine wp_putFR dX11_init_88 rfl c (w11_52 _ s) (Or.inr ⟨_, rfl⟩) q ?_
  generalize hset h28 a0 (.inr (ci, fs.set 12 (.ref b29))) = h30 at hv ⊢
  refine wp_aload_n (i := 0) dX11_init_91 rfl rfl ?_
  refine wp_bipush (v := 6) dX11_init_92 (by decide) ?_
  obtain ⟨f1, f2, hv⟩ := hv
  refine wp_newA (t := 6) (N := 6) dX11_init_94 (fun _ => rfl) l11_38 (by decide +kernel) (by decide) (by decide) (by decide) f1 f2 ?_
  generalize hnew h30 (.inl (6, 6, .inr (.inr (.inr (.inr (fun _ => none)))))) 6 = h31 at hv ⊢
  generalize h30.2.1 = b32 at hv ⊢
  obtain ⟨ci, fs, c, s, q, hv⟩ := hv
  refine wp_putFR dX11_init_97 rfl c (w11_55 _ s) (Or.inr ⟨_, rfl⟩) q ?_
  generalize hset h31 a0 (.inr (ci, fs.set 13 (.ref b32))) = h33 at hv ⊢
  refine wp_aload_n (i := 0) dX11_init_100 rfl rfl ?_
  refine wp_bipush (v := 6) dX11_init_101 (by decide) ?_
  obtain ⟨f1, f2, hv⟩ := hv
  refine wp_newI (N := 6) dX11_init_103 aI (by decide) (by decide) (by decide) f1 f2 ?_
  generalize hnew h33 (.inl (0, 6, .inl (fun _ => 0))) 6 = h34 at hv ⊢
  generalize h33.2.1 = b35 at hv ⊢
  obtain ⟨ci, fs, c, s, q, hv⟩ := hv
  refine wp_putFR dX11_init_105 rfl c (w11_58 _ s) (Or.inr ⟨_, rfl⟩) q ?_
  generalize hset h34 a0 (.inr (ci, fs.set 14 (.ref b35))) = h36 at hv ⊢
  refine wp_aload_n (i := 0) dX11_init_108 rfl rfl ?_
  refine wp_bipush (v := 6) dX11_init_109 (by decide) ?_
  obtain ⟨f1, f2, hv⟩ := hv
  refine wp_newI (N := 6) dX11_init_111 aI (by decide) (by decide) (by decide) f1 f2 ?_
  generalize hnew h36 (.inl (0, 6, .inl (fun _ => 0))) 6 = h37 at hv ⊢
  generalize h36.2.1 = b38 at hv ⊢
  obtain ⟨ci, fs, c, s, q, hv⟩ := hv
  refine wp_putFR dX11_init_113 rfl c (w11_61 _ s) (Or.inr ⟨_, rfl⟩) q ?_
  generalize hset h37 a0 (.inr (ci, fs.set 15 (.ref b38))) = h39 at hv ⊢
  refine wp_aload_n (i := 0) dX11_init_116 rfl rfl ?_
  refine wp_bipush (v := 6) dX11_init_117 (by decide) ?_
  refine wp_bipush (v := 60) dX11_init_119 (by decide) ?_
  obtain ⟨f1, f2, hv⟩ := hv
  refine wp_multiJ (N := 6) (K := 60) dX11_init_121 ml11_64 (by decide) (by decide) (by decide) (by decide) (by decide) (by decide) f1 f2 ?_
  generalize hmulJ h39 6 60 = h40 at hv ⊢
  generalize h39.2.1 = b41 at hv ⊢
  obtain ⟨ci, fs, c, s, q, hv⟩ := hv
  refine wp_putFR dX11_init_125 rfl c (w11_66 _ s) (Or.inr ⟨_, rfl⟩) q ?_
  generalize hset h40 a0 (.inr (ci, fs.set 16 (.ref b41))) = h42 at hv ⊢
  refine wp_aload_n (i := 0) dX11_init_128 rfl rfl ?_
  obtain ⟨_, _, r43, c, s, q, hv⟩ := hv
  refine wp_getfield dX11_init_129 c (f11_58 _ s) q ?_
  refine wp_iconst (v := -1) dX11_init_132 (by decide) ?_
  obtain ⟨fin', hr, hv⟩ := hv
  refine wp_callS (vs := [.ref r43, .int (-1 : Int32)]) (st := []) (fin' := fin') dX11_init_133 k11_69 rfl (Nat.le_of_ble_eq_true rfl) (Nat.le_of_ble_eq_true rfl) hr (wp_mono hv ?_)
  intro r h44 hv e1
  replace hv := hv e1
  obtain ⟨rfl, hv⟩ := hv
  change wp _ _ _ _ _ [] _ _ _
  obtain ⟨e, hv⟩ := hv
  exact wp_return dX11_init_136 rfl e hv
