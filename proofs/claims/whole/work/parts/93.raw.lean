/-! ===== what makes objects, raw: the reference, four by four ===== -/
theorem vX12_init_0 {G : Gp} {d : Nat} {h : AH} {fin : Nat × Nat} {Q : Option Value → AH → Prop} {a0 : Nat} (hv : NW h (.inl (0, 320, .inl (fun _ => 0))) 320 fin (fun b2 h1 => FS [12] h1 a0 0 (.ref b2) (fun h3 => NW h3 (.inl (2, 80, .inl (fun _ => 0))) 80 fin (fun b5 h4 => FS [12] h4 a0 1 (.ref b5) (fun h6 => NW h6 (.inl (2, 4, .inl (fun _ => 0))) 4 fin (fun b8 h7 => FS [12] h7 a0 3 (.ref b8) (fun h9 => NW h9 (.inl (0, 4, .inl (fun _ => 0))) 4 fin (fun b11 h10 => FS [12] h10 a0 4 (.ref b11) (fun h12 => wp G d mX12_init 35 [(0, .ref a0)] [] h12 fin Q))))))))) : wp G d mX12_init 0 [(0, .ref a0)] [] h fin Q := by
  refine wp_aload_n (i := 0) dX12_init_0 rfl rfl ?_
  refine wp_objInit dX12_init_1 ob12_1 oi1 oi2 (Nat.le_of_ble_eq_true rfl) ?_
  refine wp_aload_n (i := 0) dX12_init_4 rfl rfl ?_
  refine wp_sipush (v := 320) dX12_init_5 (by decide) ?_
  obtain ⟨f1, f2, hv⟩ := hv
  refine wp_newI (N := 320) dX12_init_8 aI (by decide) (by decide) (by decide) f1 f2 ?_
  generalize hnew h (.inl (0, 320, .inl (fun _ => 0))) 320 = h1 at hv ⊢
  generalize h.2.1 = b2 at hv ⊢
  obtain ⟨ci, fs, c, s, q, hv⟩ := hv
  refine wp_putFR dX12_init_10 rfl c (w12_9 _ s) (Or.inr ⟨_, rfl⟩) q ?_
  generalize hset h1 a0 (.inr (ci, fs.set 0 (.ref b2))) = h3 at hv ⊢
  refine wp_aload_n (i := 0) dX12_init_13 rfl rfl ?_
  refine wp_bipush (v := 80) dX12_init_14 (by decide) ?_
  obtain ⟨f1, f2, hv⟩ := hv
  refine wp_newZ (N := 80) dX12_init_16 aZ (by decide) (by decide) (by decide) f1 f2 ?_
  generalize hnew h3 (.inl (2, 80, .inl (fun _ => 0))) 80 = h4 at hv ⊢
  generalize h3.2.1 = b5 at hv ⊢
  obtain ⟨ci, fs, c, s, q, hv⟩ := hv
  refine wp_putFR dX12_init_18 rfl c (w12_13 _ s) (Or.inr ⟨_, rfl⟩) q ?_
  generalize hset h4 a0 (.inr (ci, fs.set 1 (.ref b5))) = h6 at hv ⊢
  refine wp_aload_n (i := 0) dX12_init_21 rfl rfl ?_
  refine wp_iconst (v := 4) dX12_init_22 (by decide) ?_
  obtain ⟨f1, f2, hv⟩ := hv
  refine wp_newZ (N := 4) dX12_init_23 aZ (by decide) (by decide) (by decide) f1 f2 ?_
  generalize hnew h6 (.inl (2, 4, .inl (fun _ => 0))) 4 = h7 at hv ⊢
  generalize h6.2.1 = b8 at hv ⊢
  obtain ⟨ci, fs, c, s, q, hv⟩ := hv
  refine wp_putFR dX12_init_25 rfl c (w12_17 _ s) (Or.inr ⟨_, rfl⟩) q ?_
  generalize hset h7 a0 (.inr (ci, fs.set 3 (.ref b8))) = h9 at hv ⊢
  refine wp_aload_n (i := 0) dX12_init_28 rfl rfl ?_
  refine wp_iconst (v := 4) dX12_init_29 (by decide) ?_
  obtain ⟨f1, f2, hv⟩ := hv
  refine wp_newI (N := 4) dX12_init_30 aI (by decide) (by decide) (by decide) f1 f2 ?_
  generalize hnew h9 (.inl (0, 4, .inl (fun _ => 0))) 4 = h10 at hv ⊢
  generalize h9.2.1 = b11 at hv ⊢
  obtain ⟨ci, fs, c, s, q, hv⟩ := hv
  refine wp_putFR dX12_init_32 rfl c (w12_20 _ s) (Or.inr ⟨_, rfl⟩) q ?_
  generalize hset h10 a0 (.inr (ci, fs.set 4 (.ref b11))) = h12 at hv ⊢
  exact hv
theorem vX12_init_35 {G : Gp} {d : Nat} {h12 : AH} {fin : Nat × Nat} {Q : Option Value → AH → Prop} {a0 : Nat} (hv : NW h12 (.inl (0, 60, .inl (fun _ => 0))) 60 fin (fun b14 h13 => FS [12] h13 a0 5 (.ref b14) (fun h15 => NW h15 (.inl (0, 160, .inl (fun _ => 0))) 160 fin (fun b17 h16 => FS [12] h16 a0 7 (.ref b17) (fun h18 => NW h18 (.inl (0, 160, .inl (fun _ => 0))) 160 fin (fun b20 h19 => FS [12] h19 a0 8 (.ref b20) (fun h21 => NW h21 (.inl (0, 160, .inl (fun _ => 0))) 160 fin (fun b23 h22 => FS [12] h22 a0 9 (.ref b23) (fun h24 => wp G d mX12_init 70 [(0, .ref a0)] [] h24 fin Q))))))))) : wp G d mX12_init 35 [(0, .ref a0)] [] h12 fin Q := by
  refine wp_aload_n (i := 0) dX12_init_35 rfl rfl ?_
  refine wp_bipush (v := 60) dX12_init_36 (by decide) ?_
  obtain ⟨f1, f2, hv⟩ := hv
  refine wp_newI (N := 60) dX12_init_38 aI (by decide) (by decide) (by decide) f1 f2 ?_
  generalize hnew h12 (.inl (0, 60, .inl (fun _ => 0))) 60 = h13 at hv ⊢
  generalize h12.2.1 = b14 at hv ⊢
  obtain ⟨ci, fs, c, s, q, hv⟩ := hv
  refine wp_putFR dX12_init_40 rfl c (w12_23 _ s) (Or.inr ⟨_, rfl⟩) q ?_
  generalize hset h13 a0 (.inr (ci, fs.set 5 (.ref b14))) = h15 at hv ⊢
  refine wp_aload_n (i := 0) dX12_init_43 rfl rfl ?_
  refine wp_sipush (v := 160) dX12_init_44 (by decide) ?_
  obtain ⟨f1, f2, hv⟩ := hv
  refine wp_newI (N := 160) dX12_init_47 aI (by decide) (by decide) (by decide) f1 f2 ?_
  generalize hnew h15 (.inl (0, 160, .inl (fun _ => 0))) 160 = h16 at hv ⊢
  generalize h15.2.1 = b17 at hv ⊢
  obtain ⟨ci, fs, c, s, q, hv⟩ := hv
  refine wp_putFR dX12_init_49 rfl c (w12_26 _ s) (Or.inr ⟨_, rfl⟩) q ?_
  generalize hset h16 a0 (.inr (ci, fs.set 7 (.ref b17))) = h18 at hv ⊢
  refine wp_aload_n (i := 0) dX12_init_52 rfl rfl ?_
  refine wp_sipush (v := 160) dX12_init_53 (by decide) ?_
  obtain ⟨f1, f2, hv⟩ := hv
  refine wp_newI (N := 160) dX12_init_56 aI (by decide) (by decide) (by decide) f1 f2 ?_
  generalize hnew h18 (.inl (0, 160, .inl (fun _ => 0))) 160 = h19 at hv ⊢
  generalize h18.2.1 = b20 at hv ⊢
  obtain ⟨ci, fs, c, s, q, hv⟩ := hv
  refine wp_putFR dX12_init_58 rfl c (w12_29 _ s) (Or.inr ⟨_, rfl⟩) q ?_
  generalize hset h19 a0 (.inr (ci, fs.set 8 (.ref b20))) = h21 at hv ⊢
  refine wp_aload_n (i := 0) dX12_init_61 rfl rfl ?_
  refine wp_sipush (v := 160) dX12_init_62 (by decide) ?_
  obtain ⟨f1, f2, hv⟩ := hv
  refine wp_newI (N := 160) dX12_init_65 aI (by decide) (by decide) (by decide) f1 f2 ?_
  generalize hnew h21 (.inl (0, 160, .inl (fun _ => 0))) 160 = h22 at hv ⊢
  generalize h21.2.1 = b23 at hv ⊢
  obtain ⟨ci, fs, c, s, q, hv⟩ := hv
  refine wp_putFR dX12_init_67 rfl c (w12_32 _ s) (Or.inr ⟨_, rfl⟩) q ?_
  generalize hset h22 a0 (.inr (ci, fs.set 9 (.ref b23))) = h24 at hv ⊢
  exact hv
theorem vX12_init_70 {G : Gp} {d : Nat} {h24 : AH} {fin : Nat × Nat} {Q : Option Value → AH → Prop} {a0 : Nat} (hv : NW h24 (.inl (0, 10, .inl (fun _ => 0))) 10 fin (fun b26 h25 => FS [12] h25 a0 10 (.ref b26) (fun h27 => NW h27 (.inl (0, 10, .inl (fun _ => 0))) 10 fin (fun b29 h28 => FS [12] h28 a0 11 (.ref b29) (fun h30 => NW h30 (.inl (0, 10, .inl (fun _ => 0))) 10 fin (fun b32 h31 => FS [12] h31 a0 12 (.ref b32) (fun h33 => NW h33 (.inl (0, 10, .inl (fun _ => 0))) 10 fin (fun b35 h34 => FS [12] h34 a0 13 (.ref b35) (fun h36 => wp G d mX12_init 102 [(0, .ref a0)] [] h36 fin Q))))))))) : wp G d mX12_init 70 [(0, .ref a0)] [] h24 fin Q := by
  refine wp_aload_n (i := 0) dX12_init_70 rfl rfl ?_
  refine wp_bipush (v := 10) dX12_init_71 (by decide) ?_
  obtain ⟨f1, f2, hv⟩ := hv
  refine wp_newI (N := 10) dX12_init_73 aI (by decide) (by decide) (by decide) f1 f2 ?_
  generalize hnew h24 (.inl (0, 10, .inl (fun _ => 0))) 10 = h25 at hv ⊢
  generalize h24.2.1 = b26 at hv ⊢
  obtain ⟨ci, fs, c, s, q, hv⟩ := hv
  refine wp_putFR dX12_init_75 rfl c (w12_35 _ s) (Or.inr ⟨_, rfl⟩) q ?_
  generalize hset h25 a0 (.inr (ci, fs.set 10 (.ref b26))) = h27 at hv ⊢
  refine wp_aload_n (i := 0) dX12_init_78 rfl rfl ?_
  refine wp_bipush (v := 10) dX12_init_79 (by decide) ?_
  obtain ⟨f1, f2, hv⟩ := hv
  refine wp_newI (N := 10) dX12_init_81 aI (by decide) (by decide) (by decide) f1 f2 ?_
  generalize hnew h27 (.inl (0, 10, .inl (fun _ => 0))) 10 = h28 at hv ⊢
  generalize h27.2.1 = b29 at hv ⊢
  obtain ⟨ci, fs, c, s, q, hv⟩ := hv
  refine wp_putFR dX12_init_83 rfl c (w12_38 _ s) (Or.inr ⟨_, rfl⟩) q ?_
  generalize hset h28 a0 (.inr (ci, fs.set 11 (.ref b29))) = h30 at hv ⊢
  refine wp_aload_n (i := 0) dX12_init_86 rfl rfl ?_
  refine wp_bipush (v := 10) dX12_init_87 (by decide) ?_
  obtain ⟨f1, f2, hv⟩ := hv
  refine wp_newI (N := 10) dX12_init_89 aI (by decide) (by decide) (by decide) f1 f2 ?_
  generalize hnew h30 (.inl (0, 10, .inl (fun _ => 0))) 10 = h31 at hv ⊢
  generalize h30.2.1 = b32 at hv ⊢
  obtain ⟨ci, fs, c, s, q, hv⟩ := hv
  refine wp_putFR dX12_init_91 rfl c (w12_41 _ s) (Or.inr ⟨_, rfl⟩) q ?_
  generalize hset h31 a0 (.inr (ci, fs.set 12 (.ref b32))) = h33 at hv ⊢
  refine wp_aload_n (i := 0) dX12_init_94 rfl rfl ?_
  refine wp_bipush (v := 10) dX12_init_95 (by decide) ?_
  obtain ⟨f1, f2, hv⟩ := hv
  refine wp_newI (N := 10) dX12_init_97 aI (by decide) (by decide) (by decide) f1 f2 ?_
  generalize hnew h33 (.inl (0, 10, .inl (fun _ => 0))) 10 = h34 at hv ⊢
  generalize h33.2.1 = b35 at hv ⊢
  obtain ⟨ci, fs, c, s, q, hv⟩ := hv
  refine wp_putFR dX12_init_99 rfl c (w12_44 _ s) (Or.inr ⟨_, rfl⟩) q ?_
  generalize hset h34 a0 (.inr (ci, fs.set 13 (.ref b35))) = h36 at hv ⊢
  exact hv
theorem vX12_init_102 {G : Gp} {d : Nat} {h36 : AH} {fin : Nat × Nat} {Q : Option Value → AH → Prop} {a0 : Nat} (hv : NW h36 (.inl (0, 10, .inl (fun _ => 0))) 10 fin (fun b38 h37 => FS [12] h37 a0 15 (.ref b38) (fun h39 => NW h39 (.inl (0, 10, .inl (fun _ => 0))) 10 fin (fun b41 h40 => FS [12] h40 a0 16 (.ref b41) (fun h42 => NW h42 (.inl (0, 800, .inl (fun _ => 0))) 800 fin (fun b44 h43 => FS [12] h43 a0 17 (.ref b44) (fun h45 => NW h45 (.inl (0, 10, .inl (fun _ => 0))) 10 fin (fun b47 h46 => FS [12] h46 a0 18 (.ref b47) (fun h48 => wp G d mX12_init 135 [(0, .ref a0)] [] h48 fin Q))))))))) : wp G d mX12_init 102 [(0, .ref a0)] [] h36 fin Q := by
  refine wp_aload_n (i := 0) dX12_init_102 rfl rfl ?_
  refine wp_bipush (v := 10) dX12_init_103 (by decide) ?_
  obtain ⟨f1, f2, hv⟩ := hv
  refine wp_newI (N := 10) dX12_init_105 aI (by decide) (by decide) (by decide) f1 f2 ?_
  generalize hnew h36 (.inl (0, 10, .inl (fun _ => 0))) 10 = h37 at hv ⊢
  generalize h36.2.1 = b38 at hv ⊢
  obtain ⟨ci, fs, c, s, q, hv⟩ := hv
  refine wp_putFR dX12_init_107 rfl c (w12_47 _ s) (Or.inr ⟨_, rfl⟩) q ?_
  generalize hset h37 a0 (.inr (ci, fs.set 15 (.ref b38))) = h39 at hv ⊢
  refine wp_aload_n (i := 0) dX12_init_110 rfl rfl ?_
  refine wp_bipush (v := 10) dX12_init_111 (by decide) ?_
  obtain ⟨f1, f2, hv⟩ := hv
  refine wp_newI (N := 10) dX12_init_113 aI (by decide) (by decide) (by decide) f1 f2 ?_
  generalize hnew h39 (.inl (0, 10, .inl (fun _ => 0))) 10 = h40 at hv ⊢
  generalize h39.2.1 = b41 at hv ⊢
  obtain ⟨ci, fs, c, s, q, hv⟩ := hv
  refine wp_putFR dX12_init_115 rfl c (w12_50 _ s) (Or.inr ⟨_, rfl⟩) q ?_
  generalize hset h40 a0 (.inr (ci, fs.set 16 (.ref b41))) = h42 at hv ⊢
  refine wp_aload_n (i := 0) dX12_init_118 rfl rfl ?_
  refine wp_sipush (v := 800) dX12_init_119 (by decide) ?_
  obtain ⟨f1, f2, hv⟩ := hv
  refine wp_newI (N := 800) dX12_init_122 aI (by decide) (by decide) (by decide) f1 f2 ?_
  generalize hnew h42 (.inl (0, 800, .inl (fun _ => 0))) 800 = h43 at hv ⊢
  generalize h42.2.1 = b44 at hv ⊢
  obtain ⟨ci, fs, c, s, q, hv⟩ := hv
  refine wp_putFR dX12_init_124 rfl c (w12_53 _ s) (Or.inr ⟨_, rfl⟩) q ?_
  generalize hset h43 a0 (.inr (ci, fs.set 17 (.ref b44))) = h45 at hv ⊢
  refine wp_aload_n (i := 0) dX12_init_127 rfl rfl ?_
  refine wp_bipush (v := 10) dX12_init_128 (by decide) ?_
  obtain ⟨f1, f2, hv⟩ := hv
  refine wp_newI (N := 10) dX12_init_130 aI (by decide) (by decide) (by decide) f1 f2 ?_
  generalize hnew h45 (.inl (0, 10, .inl (fun _ => 0))) 10 = h46 at hv ⊢
  generalize h45.2.1 = b47 at hv ⊢
  obtain ⟨ci, fs, c, s, q, hv⟩ := hv
  refine wp_putFR dX12_init_132 rfl c (w12_56 _ s) (Or.inr ⟨_, rfl⟩) q ?_
  generalize hset h46 a0 (.inr (ci, fs.set 18 (.ref b47))) = h48 at hv ⊢
  exact hv
theorem vX12_init_135 {G : Gp} {d : Nat} {h48 : AH} {fin : Nat × Nat} {Q : Option Value → AH → Prop} {a0 : Nat} (hv : NW h48 (.inl (0, 800, .inl (fun _ => 0))) 800 fin (fun b50 h49 => FS [12] h49 a0 19 (.ref b50) (fun h51 => NW h51 (.inl (0, 800, .inl (fun _ => 0))) 800 fin (fun b53 h52 => FS [12] h52 a0 20 (.ref b53) (fun h54 => NW h54 (.inl (0, 10, .inl (fun _ => 0))) 10 fin (fun b56 h55 => FS [12] h55 a0 21 (.ref b56) (fun h57 => NW h57 (.inl (0, 10, .inl (fun _ => 0))) 10 fin (fun b59 h58 => FS [12] h58 a0 22 (.ref b59) (fun h60 => wp G d mX12_init 169 [(0, .ref a0)] [] h60 fin Q))))))))) : wp G d mX12_init 135 [(0, .ref a0)] [] h48 fin Q := by
  refine wp_aload_n (i := 0) dX12_init_135 rfl rfl ?_
  refine wp_sipush (v := 800) dX12_init_136 (by decide) ?_
  obtain ⟨f1, f2, hv⟩ := hv
  refine wp_newI (N := 800) dX12_init_139 aI (by decide) (by decide) (by decide) f1 f2 ?_
  generalize hnew h48 (.inl (0, 800, .inl (fun _ => 0))) 800 = h49 at hv ⊢
  generalize h48.2.1 = b50 at hv ⊢
  obtain ⟨ci, fs, c, s, q, hv⟩ := hv
  refine wp_putFR dX12_init_141 rfl c (w12_59 _ s) (Or.inr ⟨_, rfl⟩) q ?_
  generalize hset h49 a0 (.inr (ci, fs.set 19 (.ref b50))) = h51 at hv ⊢
  refine wp_aload_n (i := 0) dX12_init_144 rfl rfl ?_
  refine wp_sipush (v := 800) dX12_init_145 (by decide) ?_
  obtain ⟨f1, f2, hv⟩ := hv
  refine wp_newI (N := 800) dX12_init_148 aI (by decide) (by decide) (by decide) f1 f2 ?_
  generalize hnew h51 (.inl (0, 800, .inl (fun _ => 0))) 800 = h52 at hv ⊢
  generalize h51.2.1 = b53 at hv ⊢
  obtain ⟨ci, fs, c, s, q, hv⟩ := hv
  refine wp_putFR dX12_init_150 rfl c (w12_62 _ s) (Or.inr ⟨_, rfl⟩) q ?_
  generalize hset h52 a0 (.inr (ci, fs.set 20 (.ref b53))) = h54 at hv ⊢
  refine wp_aload_n (i := 0) dX12_init_153 rfl rfl ?_
  refine wp_bipush (v := 10) dX12_init_154 (by decide) ?_
  obtain ⟨f1, f2, hv⟩ := hv
  refine wp_newI (N := 10) dX12_init_156 aI (by decide) (by decide) (by decide) f1 f2 ?_
  generalize hnew h54 (.inl (0, 10, .inl (fun _ => 0))) 10 = h55 at hv ⊢
  generalize h54.2.1 = b56 at hv ⊢
  obtain ⟨ci, fs, c, s, q, hv⟩ := hv
  refine wp_putFR dX12_init_158 rfl c (w12_65 _ s) (Or.inr ⟨_, rfl⟩) q ?_
  generalize hset h55 a0 (.inr (ci, fs.set 21 (.ref b56))) = h57 at hv ⊢
  refine wp_aload_n (i := 0) dX12_init_161 rfl rfl ?_
  refine wp_bipush (v := 10) dX12_init_162 (by decide) ?_
  obtain ⟨f1, f2, hv⟩ := hv
  refine wp_newI (N := 10) dX12_init_164 aI (by decide) (by decide) (by decide) f1 f2 ?_
  generalize hnew h57 (.inl (0, 10, .inl (fun _ => 0))) 10 = h58 at hv ⊢
  generalize h57.2.1 = b59 at hv ⊢
  obtain ⟨ci, fs, c, s, q, hv⟩ := hv
  refine wp_putFR dX12_init_166 rfl c (w12_68 _ s) (Or.inr ⟨_, rfl⟩) q ?_
  generalize hset h58 a0 (.inr (ci, fs.set 22 (.ref b59))) = h60 at hv ⊢
  exact hv
theorem vX12_init_169 {G : Gp} {d : Nat} {h60 : AH} {fin : Nat × Nat} {Q : Option Value → AH → Prop} {a0 : Nat} (hv : NW h60 (.inl (0, 10, .inl (fun _ => 0))) 10 fin (fun b62 h61 => FS [12] h61 a0 23 (.ref b62) (fun h63 => NW h63 (.inl (0, 10, .inl (fun _ => 0))) 10 fin (fun b65 h64 => FS [12] h64 a0 24 (.ref b65) (fun h66 => NW h66 (.inl (0, 12, .inl (fun _ => 0))) 12 fin (fun b68 h67 => FS [12] h67 a0 34 (.ref b68) (fun h69 => NW h69 (.inl (0, 12, .inl (fun _ => 0))) 12 fin (fun b71 h70 => FS [12] h70 a0 35 (.ref b71) (fun h72 => wp G d mX12_init 201 [(0, .ref a0)] [] h72 fin Q))))))))) : wp G d mX12_init 169 [(0, .ref a0)] [] h60 fin Q := by
  refine wp_aload_n (i := 0) dX12_init_169 rfl rfl ?_
  refine wp_bipush (v := 10) dX12_init_170 (by decide) ?_
  obtain ⟨f1, f2, hv⟩ := hv
  refine wp_newI (N := 10) dX12_init_172 aI (by decide) (by decide) (by decide) f1 f2 ?_
  generalize hnew h60 (.inl (0, 10, .inl (fun _ => 0))) 10 = h61 at hv ⊢
  generalize h60.2.1 = b62 at hv ⊢
  obtain ⟨ci, fs, c, s, q, hv⟩ := hv
  refine wp_putFR dX12_init_174 rfl c (w12_71 _ s) (Or.inr ⟨_, rfl⟩) q ?_
  generalize hset h61 a0 (.inr (ci, fs.set 23 (.ref b62))) = h63 at hv ⊢
  refine wp_aload_n (i := 0) dX12_init_177 rfl rfl ?_
  refine wp_bipush (v := 10) dX12_init_178 (by decide) ?_
  obtain ⟨f1, f2, hv⟩ := hv
  refine wp_newI (N := 10) dX12_init_180 aI (by decide) (by decide) (by decide) f1 f2 ?_
  generalize hnew h63 (.inl (0, 10, .inl (fun _ => 0))) 10 = h64 at hv ⊢
  generalize h63.2.1 = b65 at hv ⊢
  obtain ⟨ci, fs, c, s, q, hv⟩ := hv
  refine wp_putFR dX12_init_182 rfl c (w12_74 _ s) (Or.inr ⟨_, rfl⟩) q ?_
  generalize hset h64 a0 (.inr (ci, fs.set 24 (.ref b65))) = h66 at hv ⊢
  refine wp_aload_n (i := 0) dX12_init_185 rfl rfl ?_
  refine wp_bipush (v := 12) dX12_init_186 (by decide) ?_
  obtain ⟨f1, f2, hv⟩ := hv
  refine wp_newI (N := 12) dX12_init_188 aI (by decide) (by decide) (by decide) f1 f2 ?_
  generalize hnew h66 (.inl (0, 12, .inl (fun _ => 0))) 12 = h67 at hv ⊢
  generalize h66.2.1 = b68 at hv ⊢
  obtain ⟨ci, fs, c, s, q, hv⟩ := hv
  refine wp_putFR dX12_init_190 rfl c (w12_77 _ s) (Or.inr ⟨_, rfl⟩) q ?_
  generalize hset h67 a0 (.inr (ci, fs.set 34 (.ref b68))) = h69 at hv ⊢
  refine wp_aload_n (i := 0) dX12_init_193 rfl rfl ?_
  refine wp_bipush (v := 12) dX12_init_194 (by decide) ?_
  obtain ⟨f1, f2, hv⟩ := hv
  refine wp_newI (N := 12) dX12_init_196 aI (by decide) (by decide) (by decide) f1 f2 ?_
  generalize hnew h69 (.inl (0, 12, .inl (fun _ => 0))) 12 = h70 at hv ⊢
  generalize h69.2.1 = b71 at hv ⊢
  obtain ⟨ci, fs, c, s, q, hv⟩ := hv
  refine wp_putFR dX12_init_198 rfl c (w12_80 _ s) (Or.inr ⟨_, rfl⟩) q ?_
  generalize hset h70 a0 (.inr (ci, fs.set 35 (.ref b71))) = h72 at hv ⊢
  exact hv
theorem vX12_init_201 {G : Gp} {d : Nat} {h72 : AH} {fin : Nat × Nat} {Q : Option Value → AH → Prop} {a0 : Nat} (hv : NW h72 (.inl (0, 60, .inl (fun _ => 0))) 60 fin (fun b74 h73 => FS [12] h73 a0 37 (.ref b74) (fun h75 => NW h75 (.inl (0, 8, .inl (fun _ => 0))) 8 fin (fun b77 h76 => FS [12] h76 a0 39 (.ref b77) (fun h78 => NW h78 (.inl (0, 8, .inl (fun _ => 0))) 8 fin (fun b80 h79 => FS [12] h79 a0 40 (.ref b80) (fun h81 => NW h81 (.inl (0, 9, .inl (fun _ => 0))) 9 fin (fun b83 h82 => FS [12] h82 a0 41 (.ref b83) (fun h84 => wp G d mX12_init 233 [(0, .ref a0)] [] h84 fin Q))))))))) : wp G d mX12_init 201 [(0, .ref a0)] [] h72 fin Q := by
  refine wp_aload_n (i := 0) dX12_init_201 rfl rfl ?_
  refine wp_bipush (v := 60) dX12_init_202 (by decide) ?_
  obtain ⟨f1, f2, hv⟩ := hv
  refine wp_newI (N := 60) dX12_init_204 aI (by decide) (by decide) (by decide) f1 f2 ?_
  generalize hnew h72 (.inl (0, 60, .inl (fun _ => 0))) 60 = h73 at hv ⊢
  generalize h72.2.1 = b74 at hv ⊢
  obtain ⟨ci, fs, c, s, q, hv⟩ := hv
  refine wp_putFR dX12_init_206 rfl c (w12_83 _ s) (Or.inr ⟨_, rfl⟩) q ?_
  generalize hset h73 a0 (.inr (ci, fs.set 37 (.ref b74))) = h75 at hv ⊢
  refine wp_aload_n (i := 0) dX12_init_209 rfl rfl ?_
  refine wp_bipush (v := 8) dX12_init_210 (by decide) ?_
  obtain ⟨f1, f2, hv⟩ := hv
  refine wp_newI (N := 8) dX12_init_212 aI (by decide) (by decide) (by decide) f1 f2 ?_
  generalize hnew h75 (.inl (0, 8, .inl (fun _ => 0))) 8 = h76 at hv ⊢
  generalize h75.2.1 = b77 at hv ⊢
  obtain ⟨ci, fs, c, s, q, hv⟩ := hv
  refine wp_putFR dX12_init_214 rfl c (w12_86 _ s) (Or.inr ⟨_, rfl⟩) q ?_
  generalize hset h76 a0 (.inr (ci, fs.set 39 (.ref b77))) = h78 at hv ⊢
  refine wp_aload_n (i := 0) dX12_init_217 rfl rfl ?_
  refine wp_bipush (v := 8) dX12_init_218 (by decide) ?_
  obtain ⟨f1, f2, hv⟩ := hv
  refine wp_newI (N := 8) dX12_init_220 aI (by decide) (by decide) (by decide) f1 f2 ?_
  generalize hnew h78 (.inl (0, 8, .inl (fun _ => 0))) 8 = h79 at hv ⊢
  generalize h78.2.1 = b80 at hv ⊢
  obtain ⟨ci, fs, c, s, q, hv⟩ := hv
  refine wp_putFR dX12_init_222 rfl c (w12_89 _ s) (Or.inr ⟨_, rfl⟩) q ?_
  generalize hset h79 a0 (.inr (ci, fs.set 40 (.ref b80))) = h81 at hv ⊢
  refine wp_aload_n (i := 0) dX12_init_225 rfl rfl ?_
  refine wp_bipush (v := 9) dX12_init_226 (by decide) ?_
  obtain ⟨f1, f2, hv⟩ := hv
  refine wp_newI (N := 9) dX12_init_228 aI (by decide) (by decide) (by decide) f1 f2 ?_
  generalize hnew h81 (.inl (0, 9, .inl (fun _ => 0))) 9 = h82 at hv ⊢
  generalize h81.2.1 = b83 at hv ⊢
  obtain ⟨ci, fs, c, s, q, hv⟩ := hv
  refine wp_putFR dX12_init_230 rfl c (w12_92 _ s) (Or.inr ⟨_, rfl⟩) q ?_
  generalize hset h82 a0 (.inr (ci, fs.set 41 (.ref b83))) = h84 at hv ⊢
  exact hv
theorem vX12_init_233 {G : Gp} {d : Nat} {h84 : AH} {fin : Nat × Nat} {Q : Option Value → AH → Prop} {a0 : Nat} (hv : NW h84 (.inl (0, 10, .inl (fun _ => 0))) 10 fin (fun b86 h85 => FS [12] h85 a0 42 (.ref b86) (fun h87 => FS [12] h87 a0 44 (.int (-1 : Int32)) (fun h88 => NW h88 (.inl (0, 100, .inl (fun _ => 0))) 100 fin (fun b90 h89 => FS [12] h89 a0 45 (.ref b90) (fun h91 => NW h91 (.inl (2, 4, .inl (fun _ => 0))) 4 fin (fun b93 h92 => FS [12] h92 a0 46 (.ref b93) (fun h94 => wp G d mX12_init 261 [(0, .ref a0)] [] h94 fin Q)))))))) : wp G d mX12_init 233 [(0, .ref a0)] [] h84 fin Q := by
  refine wp_aload_n (i := 0) dX12_init_233 rfl rfl ?_
  refine wp_bipush (v := 10) dX12_init_234 (by decide) ?_
  obtain ⟨f1, f2, hv⟩ := hv
  refine wp_newI (N := 10) dX12_init_236 aI (by decide) (by decide) (by decide) f1 f2 ?_
  generalize hnew h84 (.inl (0, 10, .inl (fun _ => 0))) 10 = h85 at hv ⊢
  generalize h84.2.1 = b86 at hv ⊢
  obtain ⟨ci, fs, c, s, q, hv⟩ := hv
  refine wp_putFR dX12_init_238 rfl c (w12_95 _ s) (Or.inr ⟨_, rfl⟩) q ?_
  generalize hset h85 a0 (.inr (ci, fs.set 42 (.ref b86))) = h87 at hv ⊢
  refine wp_aload_n (i := 0) dX12_init_241 rfl rfl ?_
  refine wp_iconst (v := -1) dX12_init_242 (by decide) ?_
  obtain ⟨ci, fs, c, s, q, hv⟩ := hv
  refine wp_putI dX12_init_243 c (w12_98 _ s) q ?_
  generalize hset h87 a0 (.inr (ci, fs.set 44 (.int (-1 : Int32)))) = h88 at hv ⊢
  refine wp_aload_n (i := 0) dX12_init_246 rfl rfl ?_
  refine wp_bipush (v := 100) dX12_init_247 (by decide) ?_
  obtain ⟨f1, f2, hv⟩ := hv
  refine wp_newI (N := 100) dX12_init_249 aI (by decide) (by decide) (by decide) f1 f2 ?_
  generalize hnew h88 (.inl (0, 100, .inl (fun _ => 0))) 100 = h89 at hv ⊢
  generalize h88.2.1 = b90 at hv ⊢
  obtain ⟨ci, fs, c, s, q, hv⟩ := hv
  refine wp_putFR dX12_init_251 rfl c (w12_102 _ s) (Or.inr ⟨_, rfl⟩) q ?_
  generalize hset h89 a0 (.inr (ci, fs.set 45 (.ref b90))) = h91 at hv ⊢
  refine wp_aload_n (i := 0) dX12_init_254 rfl rfl ?_
  refine wp_iconst (v := 4) dX12_init_255 (by decide) ?_
  obtain ⟨f1, f2, hv⟩ := hv
  refine wp_newZ (N := 4) dX12_init_256 aZ (by decide) (by decide) (by decide) f1 f2 ?_
  generalize hnew h91 (.inl (2, 4, .inl (fun _ => 0))) 4 = h92 at hv ⊢
  generalize h91.2.1 = b93 at hv ⊢
  obtain ⟨ci, fs, c, s, q, hv⟩ := hv
  refine wp_putFR dX12_init_258 rfl c (w12_105 _ s) (Or.inr ⟨_, rfl⟩) q ?_
  generalize hset h92 a0 (.inr (ci, fs.set 46 (.ref b93))) = h94 at hv ⊢
  exact hv
theorem vX12_init_261 {G : Gp} {d : Nat} {h94 : AH} {fin : Nat × Nat} {Q : Option Value → AH → Prop} {a0 : Nat} (hv : NW h94 (.inl (2, 320, .inl (fun _ => 0))) 320 fin (fun b96 h95 => FS [12] h95 a0 47 (.ref b96) (fun h97 => NW h97 (.inl (0, 4, .inl (fun _ => 0))) 4 fin (fun b99 h98 => FS [12] h98 a0 48 (.ref b99) (fun h100 => NW h100 (.inl (0, 24, .inl (fun _ => 0))) 24 fin (fun b102 h101 => FS [12] h101 a0 50 (.ref b102) (fun h103 => NW h103 (.inl (0, 6, .inl (fun _ => 0))) 6 fin (fun b105 h104 => FS [12] h104 a0 53 (.ref b105) (fun h106 => wp G d mX12_init 293 [(0, .ref a0)] [] h106 fin Q))))))))) : wp G d mX12_init 261 [(0, .ref a0)] [] h94 fin Q := by
  refine wp_aload_n (i := 0) dX12_init_261 rfl rfl ?_
  refine wp_sipush (v := 320) dX12_init_262 (by decide) ?_
  obtain ⟨f1, f2, hv⟩ := hv
  refine wp_newZ (N := 320) dX12_init_265 aZ (by decide) (by decide) (by decide) f1 f2 ?_
  generalize hnew h94 (.inl (2, 320, .inl (fun _ => 0))) 320 = h95 at hv ⊢
  generalize h94.2.1 = b96 at hv ⊢
  obtain ⟨ci, fs, c, s, q, hv⟩ := hv
  refine wp_putFR dX12_init_267 rfl c (w12_108 _ s) (Or.inr ⟨_, rfl⟩) q ?_
  generalize hset h95 a0 (.inr (ci, fs.set 47 (.ref b96))) = h97 at hv ⊢
  refine wp_aload_n (i := 0) dX12_init_270 rfl rfl ?_
  refine wp_iconst (v := 4) dX12_init_271 (by decide) ?_
  obtain ⟨f1, f2, hv⟩ := hv
  refine wp_newI (N := 4) dX12_init_272 aI (by decide) (by decide) (by decide) f1 f2 ?_
  generalize hnew h97 (.inl (0, 4, .inl (fun _ => 0))) 4 = h98 at hv ⊢
  generalize h97.2.1 = b99 at hv ⊢
  obtain ⟨ci, fs, c, s, q, hv⟩ := hv
  refine wp_putFR dX12_init_274 rfl c (w12_111 _ s) (Or.inr ⟨_, rfl⟩) q ?_
  generalize hset h98 a0 (.inr (ci, fs.set 48 (.ref b99))) = h100 at hv ⊢
  refine wp_aload_n (i := 0) dX12_init_277 rfl rfl ?_
  refine wp_bipush (v := 24) dX12_init_278 (by decide) ?_
  obtain ⟨f1, f2, hv⟩ := hv
  refine wp_newI (N := 24) dX12_init_280 aI (by decide) (by decide) (by decide) f1 f2 ?_
  generalize hnew h100 (.inl (0, 24, .inl (fun _ => 0))) 24 = h101 at hv ⊢
  generalize h100.2.1 = b102 at hv ⊢
  obtain ⟨ci, fs, c, s, q, hv⟩ := hv
  refine wp_putFR dX12_init_282 rfl c (w12_114 _ s) (Or.inr ⟨_, rfl⟩) q ?_
  generalize hset h101 a0 (.inr (ci, fs.set 50 (.ref b102))) = h103 at hv ⊢
  refine wp_aload_n (i := 0) dX12_init_285 rfl rfl ?_
  refine wp_bipush (v := 6) dX12_init_286 (by decide) ?_
  obtain ⟨f1, f2, hv⟩ := hv
  refine wp_newI (N := 6) dX12_init_288 aI (by decide) (by decide) (by decide) f1 f2 ?_
  generalize hnew h103 (.inl (0, 6, .inl (fun _ => 0))) 6 = h104 at hv ⊢
  generalize h103.2.1 = b105 at hv ⊢
  obtain ⟨ci, fs, c, s, q, hv⟩ := hv
  refine wp_putFR dX12_init_290 rfl c (w12_117 _ s) (Or.inr ⟨_, rfl⟩) q ?_
  generalize hset h104 a0 (.inr (ci, fs.set 53 (.ref b105))) = h106 at hv ⊢
  exact hv
theorem vX12_init_293 {G : Gp} {d : Nat} {h106 : AH} {fin : Nat × Nat} {Q : Option Value → AH → Prop} {a0 : Nat} (hv : NW h106 (.inl (0, 6, .inl (fun _ => 0))) 6 fin (fun b108 h107 => FS [12] h107 a0 54 (.ref b108) (fun h109 => NW h109 (.inl (1, 360, .inr (.inl (fun _ => 0)))) 360 fin (fun b111 h110 => FS [12] h110 a0 55 (.ref b111) (fun h112 => NW h112 (.inl (1, 60, .inr (.inl (fun _ => 0)))) 60 fin (fun b114 h113 => FS [12] h113 a0 56 (.ref b114) (fun h115 => wp G d mX12_init 320 [(0, .ref a0), (1, .int (0 : Int32))] [] h115 fin Q))))))) : wp G d mX12_init 293 [(0, .ref a0)] [] h106 fin Q := by
  refine wp_aload_n (i := 0) dX12_init_293 rfl rfl ?_
  refine wp_bipush (v := 6) dX12_init_294 (by decide) ?_
  obtain ⟨f1, f2, hv⟩ := hv
  refine wp_newI (N := 6) dX12_init_296 aI (by decide) (by decide) (by decide) f1 f2 ?_
  generalize hnew h106 (.inl (0, 6, .inl (fun _ => 0))) 6 = h107 at hv ⊢
  generalize h106.2.1 = b108 at hv ⊢
  obtain ⟨ci, fs, c, s, q, hv⟩ := hv
  refine wp_putFR dX12_init_298 rfl c (w12_120 _ s) (Or.inr ⟨_, rfl⟩) q ?_
  generalize hset h107 a0 (.inr (ci, fs.set 54 (.ref b108))) = h109 at hv ⊢
  refine wp_aload_n (i := 0) dX12_init_301 rfl rfl ?_
  refine wp_sipush (v := 360) dX12_init_302 (by decide) ?_
  obtain ⟨f1, f2, hv⟩ := hv
  refine wp_newJ (N := 360) dX12_init_305 aJ (by decide) (by decide) (by decide) f1 f2 ?_
  generalize hnew h109 (.inl (1, 360, .inr (.inl (fun _ => 0)))) 360 = h110 at hv ⊢
  generalize h109.2.1 = b111 at hv ⊢
  obtain ⟨ci, fs, c, s, q, hv⟩ := hv
  refine wp_putFR dX12_init_307 rfl c (w12_123 _ s) (Or.inr ⟨_, rfl⟩) q ?_
  generalize hset h110 a0 (.inr (ci, fs.set 55 (.ref b111))) = h112 at hv ⊢
  refine wp_aload_n (i := 0) dX12_init_310 rfl rfl ?_
  refine wp_bipush (v := 60) dX12_init_311 (by decide) ?_
  obtain ⟨f1, f2, hv⟩ := hv
  refine wp_newJ (N := 60) dX12_init_313 aJ (by decide) (by decide) (by decide) f1 f2 ?_
  generalize hnew h112 (.inl (1, 60, .inr (.inl (fun _ => 0)))) 60 = h113 at hv ⊢
  generalize h112.2.1 = b114 at hv ⊢
  obtain ⟨ci, fs, c, s, q, hv⟩ := hv
  refine wp_putFR dX12_init_315 rfl c (w12_127 _ s) (Or.inr ⟨_, rfl⟩) q ?_
  generalize hset h113 a0 (.inr (ci, fs.set 56 (.ref b114))) = h115 at hv ⊢
  refine wp_iconst (v := 0) dX12_init_318 (by decide) ?_
  refine wx_istore_n (ls' := [(0, .ref a0), (1, .int (0 : Int32))]) (i := 1) dX12_init_319 rfl (by decide) rfl ?_
  exact hv
theorem vX12_init_340 {G : Gp} {d : Nat} {h : AH} {fin : Nat × Nat} {Q : Option Value → AH → Prop} {a0 : Nat} {x1 : Int32} (hv : (((6 : Int32) ≤ x1 → (h.2 = fin ∧ Q none h)) ∧ (¬ (6 : Int32) ≤ x1 → FR [12] h a0 53 (fun r1 => SI h r1 x1 (-1 : Int32) (fun h2 => wp G d mX12_init 340 [(0, .ref a0), (1, .int (x1 + 1))] [] h2 fin Q))))) : wp G d mX12_init 340 [(0, .ref a0), (1, .int x1)] [] h fin Q := by
  refine wp_iload_n (i := 1) dX12_init_340 rfl rfl ?_
  refine wp_bipush (v := 6) dX12_init_341 (by decide) ?_
  refine wp_icmp_ge 359 dX12_init_343 (by decide) (fun q => ?_) (fun q => ?_)
  · replace hv := hv.1 q
    obtain ⟨e, hv⟩ := hv
    exact wp_return dX12_init_359 rfl e hv
  · replace hv := hv.2 q
    refine wp_aload_n (i := 0) dX12_init_346 rfl rfl ?_
    obtain ⟨_, _, r1, c, s, q, hv⟩ := hv
    refine wp_getfield dX12_init_347 c (f12_117 _ s) q ?_
    refine wp_iload_n (i := 1) dX12_init_350 rfl rfl ?_
    refine wp_iconst (v := -1) dX12_init_351 (by decide) ?_
    obtain ⟨n, f, c, q, hv⟩ := hv
    refine wp_iastore dX12_init_352 c q ?_
    generalize hset h r1 (.inl (0, n, .inl (upd f (x1).toNatClampNeg (-1 : Int32)))) = h2 at hv ⊢
    refine wx_iinc (v := 1) (ls' := [(0, .ref a0), (1, .int (x1 + 1))]) dX12_init_353 rfl (by decide) (by decide) rfl ?_
    refine wp_goto 340 dX12_init_356 (by decide) ?_
    exact hv
theorem vX12_init_320 {G : Gp} {d : Nat} {h : AH} {fin : Nat × Nat} {Q : Option Value → AH → Prop} {a0 : Nat} {x1 : Int32} (hv : (((4 : Int32) ≤ x1 → wp G d mX12_init 340 [(0, .ref a0), (1, .int (0 : Int32))] [] h fin Q) ∧ (¬ (4 : Int32) ≤ x1 → FR [12] h a0 4 (fun r1 => SI h r1 x1 (-1 : Int32) (fun h2 => wp G d mX12_init 320 [(0, .ref a0), (1, .int (x1 + 1))] [] h2 fin Q))))) : wp G d mX12_init 320 [(0, .ref a0), (1, .int x1)] [] h fin Q := by
  refine wp_iload_n (i := 1) dX12_init_320 rfl rfl ?_
  refine wp_iconst (v := 4) dX12_init_321 (by decide) ?_
  refine wp_icmp_ge 338 dX12_init_322 (by decide) (fun q => ?_) (fun q => ?_)
  · replace hv := hv.1 q
    refine wp_iconst (v := 0) dX12_init_338 (by decide) ?_
    refine wx_istore_n (ls' := [(0, .ref a0), (1, .int (0 : Int32))]) (i := 1) dX12_init_339 rfl (by decide) rfl ?_
    exact hv
  · replace hv := hv.2 q
    refine wp_aload_n (i := 0) dX12_init_325 rfl rfl ?_
    obtain ⟨_, _, r1, c, s, q, hv⟩ := hv
    refine wp_getfield dX12_init_326 c (f12_20 _ s) q ?_
    refine wp_iload_n (i := 1) dX12_init_329 rfl rfl ?_
    refine wp_iconst (v := -1) dX12_init_330 (by decide) ?_
    obtain ⟨n, f, c, q, hv⟩ := hv
    refine wp_iastore dX12_init_331 c q ?_
    generalize hset h r1 (.inl (0, n, .inl (upd f (x1).toNatClampNeg (-1 : Int32)))) = h2 at hv ⊢
    refine wx_iinc (v := 1) (ls' := [(0, .ref a0), (1, .int (x1 + 1))]) dX12_init_332 rfl (by decide) (by decide) rfl ?_
    refine wp_goto 320 dX12_init_335 (by decide) ?_
    exact hv
