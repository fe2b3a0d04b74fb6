section WpRows
variable {G : Gp} {d : Nat} {M : AM} {pc : Nat} {ls : AL} {st : List Value} {h : AH} {fin : Nat × Nat} {Q : Option Value → AH → Prop}

theorem wp_iconst {n : Int} {v : Int32} (hd : decode (mC M) pc = .ok (.iconst n, 1)) (hv : Int32.ofInt n = v) (k : wp G d M (pc + 1) ls (.int v :: st) h fin Q) : wp G d M pc ls (st) h fin Q := by
  intro p e R s m args below meth c LS H locs cells slots k1 k2 Qm hC hL hH hl hn hk
  exact lv_iconst hC.1 hC.2.1 hd hv (k p e R s m args below meth c LS H locs cells slots k1 k2 Qm hC hL hH hl hn hk)

theorem wp_bipush {n : Int} {v : Int32} (hd : decode (mC M) pc = .ok (.bipush n, 2)) (hv : (Int8.ofInt n).toInt32 = v) (k : wp G d M (pc + 2) ls (.int v :: st) h fin Q) : wp G d M pc ls (st) h fin Q := by
  intro p e R s m args below meth c LS H locs cells slots k1 k2 Qm hC hL hH hl hn hk
  exact lv_bipush hC.1 hC.2.1 hd hv (k p e R s m args below meth c LS H locs cells slots k1 k2 Qm hC hL hH hl hn hk)

theorem wp_sipush {n : Int} {v : Int32} (hd : decode (mC M) pc = .ok (.sipush n, 3)) (hv : (Int16.ofInt n).toInt32 = v) (k : wp G d M (pc + 3) ls (.int v :: st) h fin Q) : wp G d M pc ls (st) h fin Q := by
  intro p e R s m args below meth c LS H locs cells slots k1 k2 Qm hC hL hH hl hn hk
  exact lv_sipush hC.1 hC.2.1 hd hv (k p e R s m args below meth c LS H locs cells slots k1 k2 Qm hC hL hH hl hn hk)

theorem wp_lconst {n : Fin 2} {v : Int64} (hd : decode (mC M) pc = .ok (.lconst n, 1)) (hv : Int64.ofNat (n : Nat) = v) (k : wp G d M (pc + 1) ls (.long v :: st) h fin Q) : wp G d M pc ls (st) h fin Q := by
  intro p e R s m args below meth c LS H locs cells slots k1 k2 Qm hC hL hH hl hn hk
  exact lv_lconst hC.1 hC.2.1 hd hv (k p e R s m args below meth c LS H locs cells slots k1 k2 Qm hC hL hH hl hn hk)

theorem wp_null  (hd : decode (mC M) pc = .ok (.aconst_null, 1))  (k : wp G d M (pc + 1) ls (.null :: st) h fin Q) : wp G d M pc ls (st) h fin Q := by
  intro p e R s m args below meth c LS H locs cells slots k1 k2 Qm hC hL hH hl hn hk
  exact lv_null hC.1 hC.2.1 hd (k p e R s m args below meth c LS H locs cells slots k1 k2 Qm hC hL hH hl hn hk)

theorem wp_ldc {index : Nat} {v : Int32} (hd : decode (mC M) pc = .ok (.ldc index, 2)) (hw : Cond.constant (mY M).cls index v ∈ gtbl) (k : wp G d M (pc + 2) ls (.int v :: st) h fin Q) : wp G d M pc ls (st) h fin Q := by
  intro p e R s m args below meth c LS H locs cells slots k1 k2 Qm hC hL hH hl hn hk
  exact lv_ldc hC.1 hC.2.1 hC.2.2.2.2.2.2.1 (hC.2.2.2.2.2.2.2.1 _ hw) hd (k p e R s m args below meth c LS H locs cells slots k1 k2 Qm hC hL hH hl hn hk)

theorem wp_ldcw {index : Nat} {v : Int32} (hd : decode (mC M) pc = .ok (.ldc_w index, 3)) (hw : Cond.constant (mY M).cls index v ∈ gtbl) (k : wp G d M (pc + 3) ls (.int v :: st) h fin Q) : wp G d M pc ls (st) h fin Q := by
  intro p e R s m args below meth c LS H locs cells slots k1 k2 Qm hC hL hH hl hn hk
  exact lv_ldcw hC.1 hC.2.1 hC.2.2.2.2.2.2.1 (hC.2.2.2.2.2.2.2.1 _ hw) hd (k p e R s m args below meth c LS H locs cells slots k1 k2 Qm hC hL hH hl hn hk)

theorem wp_ldc2 {index : Nat} {v : Int64} (hd : decode (mC M) pc = .ok (.ldc2_w index, 3)) (hw : Cond.constantLong (mY M).cls index v ∈ gtbl) (k : wp G d M (pc + 3) ls (.long v :: st) h fin Q) : wp G d M pc ls (st) h fin Q := by
  intro p e R s m args below meth c LS H locs cells slots k1 k2 Qm hC hL hH hl hn hk
  exact lv_ldc2 hC.1 hC.2.1 hC.2.2.2.2.2.2.1 (hC.2.2.2.2.2.2.2.1 _ hw) hd (k p e R s m args below meth c LS H locs cells slots k1 k2 Qm hC hL hH hl hn hk)

theorem wp_iload_n {k0 : Fin 4} {i : Nat} {x : Int32} (hd : decode (mC M) pc = .ok (.iload_n k0, 1)) (hi : (k0 : Nat) = i) (hg : lget ls i = some (.int x)) (k : wp G d M (pc + 1) ls (.int x :: st) h fin Q) : wp G d M pc ls (st) h fin Q := by
  intro p e R s m args below meth c LS H locs cells slots k1 k2 Qm hC hL hH hl hn hk
  exact lv_iload_n hC.1 hC.2.1 hd hi (hL.at hg) (k p e R s m args below meth c LS H locs cells slots k1 k2 Qm hC hL hH hl hn hk)

theorem wp_iload {i : Nat} {x : Int32} (hd : decode (mC M) pc = .ok (.iload i, 2)) (hg : lget ls i = some (.int x)) (k : wp G d M (pc + 2) ls (.int x :: st) h fin Q) : wp G d M pc ls (st) h fin Q := by
  intro p e R s m args below meth c LS H locs cells slots k1 k2 Qm hC hL hH hl hn hk
  exact lv_iload hC.1 hC.2.1 hd (hL.at hg) (k p e R s m args below meth c LS H locs cells slots k1 k2 Qm hC hL hH hl hn hk)

theorem wp_lload_n {k0 : Fin 4} {i : Nat} {x : Int64} (hd : decode (mC M) pc = .ok (.lload_n k0, 1)) (hi : (k0 : Nat) = i) (hg : lget ls i = some (.long x)) (k : wp G d M (pc + 1) ls (.long x :: st) h fin Q) : wp G d M pc ls (st) h fin Q := by
  intro p e R s m args below meth c LS H locs cells slots k1 k2 Qm hC hL hH hl hn hk
  exact lv_lload_n hC.1 hC.2.1 hd hi (hL.at hg) (k p e R s m args below meth c LS H locs cells slots k1 k2 Qm hC hL hH hl hn hk)

theorem wp_lload {i : Nat} {x : Int64} (hd : decode (mC M) pc = .ok (.lload i, 2)) (hg : lget ls i = some (.long x)) (k : wp G d M (pc + 2) ls (.long x :: st) h fin Q) : wp G d M pc ls (st) h fin Q := by
  intro p e R s m args below meth c LS H locs cells slots k1 k2 Qm hC hL hH hl hn hk
  exact lv_lload hC.1 hC.2.1 hd (hL.at hg) (k p e R s m args below meth c LS H locs cells slots k1 k2 Qm hC hL hH hl hn hk)

theorem wp_aload_n {k0 : Fin 4} {i a : Nat} (hd : decode (mC M) pc = .ok (.aload_n k0, 1)) (hi : (k0 : Nat) = i) (hg : lget ls i = some (.ref a)) (k : wp G d M (pc + 1) ls (.ref a :: st) h fin Q) : wp G d M pc ls (st) h fin Q := by
  intro p e R s m args below meth c LS H locs cells slots k1 k2 Qm hC hL hH hl hn hk
  exact lv_aload_n hC.1 hC.2.1 hd hi (hL.at hg) (k p e R s m args below meth c LS H locs cells slots k1 k2 Qm hC hL hH hl hn hk)

theorem wp_aload {i a : Nat} (hd : decode (mC M) pc = .ok (.aload i, 2)) (hg : lget ls i = some (.ref a)) (k : wp G d M (pc + 2) ls (.ref a :: st) h fin Q) : wp G d M pc ls (st) h fin Q := by
  intro p e R s m args below meth c LS H locs cells slots k1 k2 Qm hC hL hH hl hn hk
  exact lv_aload hC.1 hC.2.1 hd (hL.at hg) (k p e R s m args below meth c LS H locs cells slots k1 k2 Qm hC hL hH hl hn hk)

theorem wp_aload_nS {k0 : Fin 4} {i a : Nat} (hd : decode (mC M) pc = .ok (.aload_n k0, 1)) (hi : (k0 : Nat) = i) (hg : lget ls i = some (.retAddr a)) (k : wp G d M (pc + 1) ls (.retAddr a :: st) h fin Q) : wp G d M pc ls (st) h fin Q := by
  intro p e R s m args below meth c LS H locs cells slots k1 k2 Qm hC hL hH hl hn hk
  exact lv_aload_n hC.1 hC.2.1 hd hi (hL.at hg) (k p e R s m args below meth c LS H locs cells slots k1 k2 Qm hC hL hH hl hn hk)

theorem wp_aload_nN {k0 : Fin 4} {i : Nat} (hd : decode (mC M) pc = .ok (.aload_n k0, 1)) (hi : (k0 : Nat) = i) (hg : lget ls i = some .null) (k : wp G d M (pc + 1) ls (.null :: st) h fin Q) : wp G d M pc ls (st) h fin Q := by
  intro p e R s m args below meth c LS H locs cells slots k1 k2 Qm hC hL hH hl hn hk
  exact lv_aload_nN hC.1 hC.2.1 hd hi (hL.at hg) (k p e R s m args below meth c LS H locs cells slots k1 k2 Qm hC hL hH hl hn hk)

theorem wp_aloadN {i : Nat} (hd : decode (mC M) pc = .ok (.aload i, 2)) (hg : lget ls i = some .null) (k : wp G d M (pc + 2) ls (.null :: st) h fin Q) : wp G d M pc ls (st) h fin Q := by
  intro p e R s m args below meth c LS H locs cells slots k1 k2 Qm hC hL hH hl hn hk
  exact lv_aloadN hC.1 hC.2.1 hd (hL.at hg) (k p e R s m args below meth c LS H locs cells slots k1 k2 Qm hC hL hH hl hn hk)

theorem wp_iadd {x y : Int32} (hd : decode (mC M) pc = .ok (.iadd, 1))  (k : wp G d M (pc + 1) ls (.int (x + y) :: st) h fin Q) : wp G d M pc ls (.int y :: .int x :: st) h fin Q := by
  intro p e R s m args below meth c LS H locs cells slots k1 k2 Qm hC hL hH hl hn hk
  exact lv_iadd hC.1 hC.2.1 hd (k p e R s m args below meth c LS H locs cells slots k1 k2 Qm hC hL hH hl hn hk)

theorem wp_isub {x y : Int32} (hd : decode (mC M) pc = .ok (.isub, 1))  (k : wp G d M (pc + 1) ls (.int (x - y) :: st) h fin Q) : wp G d M pc ls (.int y :: .int x :: st) h fin Q := by
  intro p e R s m args below meth c LS H locs cells slots k1 k2 Qm hC hL hH hl hn hk
  exact lv_isub hC.1 hC.2.1 hd (k p e R s m args below meth c LS H locs cells slots k1 k2 Qm hC hL hH hl hn hk)

theorem wp_imul {x y : Int32} (hd : decode (mC M) pc = .ok (.imul, 1))  (k : wp G d M (pc + 1) ls (.int (x * y) :: st) h fin Q) : wp G d M pc ls (.int y :: .int x :: st) h fin Q := by
  intro p e R s m args below meth c LS H locs cells slots k1 k2 Qm hC hL hH hl hn hk
  exact lv_imul hC.1 hC.2.1 hd (k p e R s m args below meth c LS H locs cells slots k1 k2 Qm hC hL hH hl hn hk)

theorem wp_iand {x y : Int32} (hd : decode (mC M) pc = .ok (.iand, 1))  (k : wp G d M (pc + 1) ls (.int (x &&& y) :: st) h fin Q) : wp G d M pc ls (.int y :: .int x :: st) h fin Q := by
  intro p e R s m args below meth c LS H locs cells slots k1 k2 Qm hC hL hH hl hn hk
  exact lv_iand hC.1 hC.2.1 hd (k p e R s m args below meth c LS H locs cells slots k1 k2 Qm hC hL hH hl hn hk)

theorem wp_ior {x y : Int32} (hd : decode (mC M) pc = .ok (.ior, 1))  (k : wp G d M (pc + 1) ls (.int (x ||| y) :: st) h fin Q) : wp G d M pc ls (.int y :: .int x :: st) h fin Q := by
  intro p e R s m args below meth c LS H locs cells slots k1 k2 Qm hC hL hH hl hn hk
  exact lv_ior hC.1 hC.2.1 hd (k p e R s m args below meth c LS H locs cells slots k1 k2 Qm hC hL hH hl hn hk)

theorem wp_ixor {x y : Int32} (hd : decode (mC M) pc = .ok (.ixor, 1))  (k : wp G d M (pc + 1) ls (.int (x ^^^ y) :: st) h fin Q) : wp G d M pc ls (.int y :: .int x :: st) h fin Q := by
  intro p e R s m args below meth c LS H locs cells slots k1 k2 Qm hC hL hH hl hn hk
  exact lv_ixor hC.1 hC.2.1 hd (k p e R s m args below meth c LS H locs cells slots k1 k2 Qm hC hL hH hl hn hk)

theorem wp_ishl {x y : Int32} (hd : decode (mC M) pc = .ok (.ishl, 1))  (k : wp G d M (pc + 1) ls (.int (x <<< (y &&& 31)) :: st) h fin Q) : wp G d M pc ls (.int y :: .int x :: st) h fin Q := by
  intro p e R s m args below meth c LS H locs cells slots k1 k2 Qm hC hL hH hl hn hk
  exact lv_ishl hC.1 hC.2.1 hd (k p e R s m args below meth c LS H locs cells slots k1 k2 Qm hC hL hH hl hn hk)

theorem wp_ishr {x y : Int32} (hd : decode (mC M) pc = .ok (.ishr, 1))  (k : wp G d M (pc + 1) ls (.int (x >>> (y &&& 31)) :: st) h fin Q) : wp G d M pc ls (.int y :: .int x :: st) h fin Q := by
  intro p e R s m args below meth c LS H locs cells slots k1 k2 Qm hC hL hH hl hn hk
  exact lv_ishr hC.1 hC.2.1 hd (k p e R s m args below meth c LS H locs cells slots k1 k2 Qm hC hL hH hl hn hk)

theorem wp_idiv {x y : Int32} (hd : decode (mC M) pc = .ok (.idiv, 1)) (hne : ¬ y = 0) (k : wp G d M (pc + 1) ls (.int (x / y) :: st) h fin Q) : wp G d M pc ls (.int y :: .int x :: st) h fin Q := by
  intro p e R s m args below meth c LS H locs cells slots k1 k2 Qm hC hL hH hl hn hk
  exact lv_idiv hC.1 hC.2.1 hd hne (k p e R s m args below meth c LS H locs cells slots k1 k2 Qm hC hL hH hl hn hk)

theorem wp_irem {x y : Int32} (hd : decode (mC M) pc = .ok (.irem, 1)) (hne : ¬ y = 0) (k : wp G d M (pc + 1) ls (.int (x - x / y * y) :: st) h fin Q) : wp G d M pc ls (.int y :: .int x :: st) h fin Q := by
  intro p e R s m args below meth c LS H locs cells slots k1 k2 Qm hC hL hH hl hn hk
  exact lv_irem hC.1 hC.2.1 hd hne (k p e R s m args below meth c LS H locs cells slots k1 k2 Qm hC hL hH hl hn hk)

theorem wp_iushr {x y : Int32} (hd : decode (mC M) pc = .ok (.iushr, 1))  (k : wp G d M (pc + 1) ls (.int ((x.toUInt32 >>> (y.toUInt32 &&& Int32.toUInt32 31)).toInt32) :: st) h fin Q) : wp G d M pc ls (.int y :: .int x :: st) h fin Q := by
  intro p e R s m args below meth c LS H locs cells slots k1 k2 Qm hC hL hH hl hn hk
  exact lv_iushr hC.1 hC.2.1 hd rfl (k p e R s m args below meth c LS H locs cells slots k1 k2 Qm hC hL hH hl hn hk)

theorem wp_ineg {x : Int32} (hd : decode (mC M) pc = .ok (.ineg, 1))  (k : wp G d M (pc + 1) ls (.int (-x) :: st) h fin Q) : wp G d M pc ls (.int x :: st) h fin Q := by
  intro p e R s m args below meth c LS H locs cells slots k1 k2 Qm hC hL hH hl hn hk
  exact lv_ineg hC.1 hC.2.1 hd (k p e R s m args below meth c LS H locs cells slots k1 k2 Qm hC hL hH hl hn hk)

theorem wp_ladd {x y : Int64} (hd : decode (mC M) pc = .ok (.ladd, 1))  (k : wp G d M (pc + 1) ls (.long (x + y) :: st) h fin Q) : wp G d M pc ls (.long y :: .long x :: st) h fin Q := by
  intro p e R s m args below meth c LS H locs cells slots k1 k2 Qm hC hL hH hl hn hk
  exact lv_ladd hC.1 hC.2.1 hd (k p e R s m args below meth c LS H locs cells slots k1 k2 Qm hC hL hH hl hn hk)

theorem wp_lmul {x y : Int64} (hd : decode (mC M) pc = .ok (.lmul, 1))  (k : wp G d M (pc + 1) ls (.long (x * y) :: st) h fin Q) : wp G d M pc ls (.long y :: .long x :: st) h fin Q := by
  intro p e R s m args below meth c LS H locs cells slots k1 k2 Qm hC hL hH hl hn hk
  exact lv_lmul hC.1 hC.2.1 hd (k p e R s m args below meth c LS H locs cells slots k1 k2 Qm hC hL hH hl hn hk)

theorem wp_land {x y : Int64} (hd : decode (mC M) pc = .ok (.land, 1))  (k : wp G d M (pc + 1) ls (.long (x &&& y) :: st) h fin Q) : wp G d M pc ls (.long y :: .long x :: st) h fin Q := by
  intro p e R s m args below meth c LS H locs cells slots k1 k2 Qm hC hL hH hl hn hk
  exact lv_land hC.1 hC.2.1 hd (k p e R s m args below meth c LS H locs cells slots k1 k2 Qm hC hL hH hl hn hk)

theorem wp_lor {x y : Int64} (hd : decode (mC M) pc = .ok (.lor, 1))  (k : wp G d M (pc + 1) ls (.long (x ||| y) :: st) h fin Q) : wp G d M pc ls (.long y :: .long x :: st) h fin Q := by
  intro p e R s m args below meth c LS H locs cells slots k1 k2 Qm hC hL hH hl hn hk
  exact lv_lor hC.1 hC.2.1 hd (k p e R s m args below meth c LS H locs cells slots k1 k2 Qm hC hL hH hl hn hk)

theorem wp_lshl {x : Int64} {y : Int32} (hd : decode (mC M) pc = .ok (.lshl, 1))  (k : wp G d M (pc + 1) ls (.long (x <<< (y.toInt64 &&& 63)) :: st) h fin Q) : wp G d M pc ls (.int y :: .long x :: st) h fin Q := by
  intro p e R s m args below meth c LS H locs cells slots k1 k2 Qm hC hL hH hl hn hk
  exact lv_lshl hC.1 hC.2.1 hd rfl (k p e R s m args below meth c LS H locs cells slots k1 k2 Qm hC hL hH hl hn hk)

theorem wp_lcmp {x y : Int64} (hd : decode (mC M) pc = .ok (.lcmp, 1))  (k : wp G d M (pc + 1) ls (.int (lg_cmp x y) :: st) h fin Q) : wp G d M pc ls (.long y :: .long x :: st) h fin Q := by
  intro p e R s m args below meth c LS H locs cells slots k1 k2 Qm hC hL hH hl hn hk
  exact W.lcmp hC.1 hC.2.1 hd (k p e R s m args below meth c LS H locs cells slots k1 k2 Qm hC hL hH hl hn hk)

theorem wp_i2l {x : Int32} (hd : decode (mC M) pc = .ok (.i2l, 1))  (k : wp G d M (pc + 1) ls (.long x.toInt64 :: st) h fin Q) : wp G d M pc ls (.int x :: st) h fin Q := by
  intro p e R s m args below meth c LS H locs cells slots k1 k2 Qm hC hL hH hl hn hk
  exact lv_i2l hC.1 hC.2.1 hd rfl (k p e R s m args below meth c LS H locs cells slots k1 k2 Qm hC hL hH hl hn hk)

theorem wp_l2i {x : Int64} (hd : decode (mC M) pc = .ok (.l2i, 1))  (k : wp G d M (pc + 1) ls (.int x.toInt32 :: st) h fin Q) : wp G d M pc ls (.long x :: st) h fin Q := by
  intro p e R s m args below meth c LS H locs cells slots k1 k2 Qm hC hL hH hl hn hk
  exact lv_l2i hC.1 hC.2.1 hd rfl (k p e R s m args below meth c LS H locs cells slots k1 k2 Qm hC hL hH hl hn hk)

theorem wp_i2b {x : Int32} (hd : decode (mC M) pc = .ok (.i2b, 1))  (k : wp G d M (pc + 1) ls (.int x.toInt8.toInt32 :: st) h fin Q) : wp G d M pc ls (.int x :: st) h fin Q := by
  intro p e R s m args below meth c LS H locs cells slots k1 k2 Qm hC hL hH hl hn hk
  exact lv_i2b hC.1 hC.2.1 hd rfl (k p e R s m args below meth c LS H locs cells slots k1 k2 Qm hC hL hH hl hn hk)

theorem wp_i2s {x : Int32} (hd : decode (mC M) pc = .ok (.i2s, 1))  (k : wp G d M (pc + 1) ls (.int x.toInt16.toInt32 :: st) h fin Q) : wp G d M pc ls (.int x :: st) h fin Q := by
  intro p e R s m args below meth c LS H locs cells slots k1 k2 Qm hC hL hH hl hn hk
  exact lv_i2s hC.1 hC.2.1 hd rfl (k p e R s m args below meth c LS H locs cells slots k1 k2 Qm hC hL hH hl hn hk)

theorem wp_dupI {x : Int32} (hd : decode (mC M) pc = .ok (.dup, 1))  (k : wp G d M (pc + 1) ls (.int x :: .int x :: st) h fin Q) : wp G d M pc ls (.int x :: st) h fin Q := by
  intro p e R s m args below meth c LS H locs cells slots k1 k2 Qm hC hL hH hl hn hk
  exact lv_dup hC.1 hC.2.1 hd rfl (k p e R s m args below meth c LS H locs cells slots k1 k2 Qm hC hL hH hl hn hk)

theorem wp_dupR {a : Nat} (hd : decode (mC M) pc = .ok (.dup, 1))  (k : wp G d M (pc + 1) ls (.ref a :: .ref a :: st) h fin Q) : wp G d M pc ls (.ref a :: st) h fin Q := by
  intro p e R s m args below meth c LS H locs cells slots k1 k2 Qm hC hL hH hl hn hk
  exact lv_dup hC.1 hC.2.1 hd rfl (k p e R s m args below meth c LS H locs cells slots k1 k2 Qm hC hL hH hl hn hk)

theorem wp_dup2 {x : Int32} {a : Nat} (hd : decode (mC M) pc = .ok (.dup2, 1))  (k : wp G d M (pc + 1) ls (.int x :: .ref a :: .int x :: .ref a :: st) h fin Q) : wp G d M pc ls (.int x :: .ref a :: st) h fin Q := by
  intro p e R s m args below meth c LS H locs cells slots k1 k2 Qm hC hL hH hl hn hk
  exact lv_dup2_11 hC.1 hC.2.1 hd rfl rfl (k p e R s m args below meth c LS H locs cells slots k1 k2 Qm hC hL hH hl hn hk)

theorem wp_popI {x : Int32} (hd : decode (mC M) pc = .ok (.pop, 1))  (k : wp G d M (pc + 1) ls (st) h fin Q) : wp G d M pc ls (.int x :: st) h fin Q := by
  intro p e R s m args below meth c LS H locs cells slots k1 k2 Qm hC hL hH hl hn hk
  exact lv_pop hC.1 hC.2.1 hd rfl (k p e R s m args below meth c LS H locs cells slots k1 k2 Qm hC hL hH hl hn hk)

theorem wp_dup_x1 {x : Int32} {a : Nat} (hd : decode (mC M) pc = .ok (.dup_x1, 1))  (k : wp G d M (pc + 1) ls (.int x :: .ref a :: .int x :: st) h fin Q) : wp G d M pc ls (.int x :: .ref a :: st) h fin Q := by
  intro p e R s m args below meth c LS H locs cells slots k1 k2 Qm hC hL hH hl hn hk
  exact lv_dup_x1 hC.1 hC.2.1 hd rfl rfl (k p e R s m args below meth c LS H locs cells slots k1 k2 Qm hC hL hH hl hn hk)

theorem wp_if_eq {x : Int32} {off : Int} (tgt : Nat) (hd : decode (mC M) pc = .ok (.ifCond .eq off, 3)) (ht : (pc : Int) + off = (tgt : Int)) (kt : (x = 0) → wp G d M tgt ls st h fin Q) (kf : ¬ (x = 0) → wp G d M (pc + 3) ls st h fin Q) : wp G d M pc ls (.int x :: st) h fin Q := by
  intro p e R s m args below meth c LS H locs cells slots k1 k2 Qm hC hL hH hl hn hk
  exact lv_if_eq hC.1 hC.2.1 hd ht (fun q => kt q p e R s m args below meth c LS H locs cells slots k1 k2 Qm hC hL hH hl hn hk) (fun q => kf q p e R s m args below meth c LS H locs cells slots k1 k2 Qm hC hL hH hl hn hk)

theorem wp_icmp_eq {x y : Int32} {off : Int} (tgt : Nat) (hd : decode (mC M) pc = .ok (.if_icmp .eq off, 3)) (ht : (pc : Int) + off = (tgt : Int)) (kt : (x = y) → wp G d M tgt ls st h fin Q) (kf : ¬ (x = y) → wp G d M (pc + 3) ls st h fin Q) : wp G d M pc ls (.int y :: .int x :: st) h fin Q := by
  intro p e R s m args below meth c LS H locs cells slots k1 k2 Qm hC hL hH hl hn hk
  exact lv_icmp_eq hC.1 hC.2.1 hd ht (fun q => kt q p e R s m args below meth c LS H locs cells slots k1 k2 Qm hC hL hH hl hn hk) (fun q => kf q p e R s m args below meth c LS H locs cells slots k1 k2 Qm hC hL hH hl hn hk)

theorem wp_if_ne {x : Int32} {off : Int} (tgt : Nat) (hd : decode (mC M) pc = .ok (.ifCond .ne off, 3)) (ht : (pc : Int) + off = (tgt : Int)) (kt : (¬ x = 0) → wp G d M tgt ls st h fin Q) (kf : ¬ (¬ x = 0) → wp G d M (pc + 3) ls st h fin Q) : wp G d M pc ls (.int x :: st) h fin Q := by
  intro p e R s m args below meth c LS H locs cells slots k1 k2 Qm hC hL hH hl hn hk
  exact lv_if_ne hC.1 hC.2.1 hd ht (fun q => kt q p e R s m args below meth c LS H locs cells slots k1 k2 Qm hC hL hH hl hn hk) (fun q => kf q p e R s m args below meth c LS H locs cells slots k1 k2 Qm hC hL hH hl hn hk)

theorem wp_icmp_ne {x y : Int32} {off : Int} (tgt : Nat) (hd : decode (mC M) pc = .ok (.if_icmp .ne off, 3)) (ht : (pc : Int) + off = (tgt : Int)) (kt : (¬ x = y) → wp G d M tgt ls st h fin Q) (kf : ¬ (¬ x = y) → wp G d M (pc + 3) ls st h fin Q) : wp G d M pc ls (.int y :: .int x :: st) h fin Q := by
  intro p e R s m args below meth c LS H locs cells slots k1 k2 Qm hC hL hH hl hn hk
  exact lv_icmp_ne hC.1 hC.2.1 hd ht (fun q => kt q p e R s m args below meth c LS H locs cells slots k1 k2 Qm hC hL hH hl hn hk) (fun q => kf q p e R s m args below meth c LS H locs cells slots k1 k2 Qm hC hL hH hl hn hk)

theorem wp_if_lt {x : Int32} {off : Int} (tgt : Nat) (hd : decode (mC M) pc = .ok (.ifCond .lt off, 3)) (ht : (pc : Int) + off = (tgt : Int)) (kt : (x < 0) → wp G d M tgt ls st h fin Q) (kf : ¬ (x < 0) → wp G d M (pc + 3) ls st h fin Q) : wp G d M pc ls (.int x :: st) h fin Q := by
  intro p e R s m args below meth c LS H locs cells slots k1 k2 Qm hC hL hH hl hn hk
  exact lv_if_lt hC.1 hC.2.1 hd ht (fun q => kt q p e R s m args below meth c LS H locs cells slots k1 k2 Qm hC hL hH hl hn hk) (fun q => kf q p e R s m args below meth c LS H locs cells slots k1 k2 Qm hC hL hH hl hn hk)

theorem wp_icmp_lt {x y : Int32} {off : Int} (tgt : Nat) (hd : decode (mC M) pc = .ok (.if_icmp .lt off, 3)) (ht : (pc : Int) + off = (tgt : Int)) (kt : (x < y) → wp G d M tgt ls st h fin Q) (kf : ¬ (x < y) → wp G d M (pc + 3) ls st h fin Q) : wp G d M pc ls (.int y :: .int x :: st) h fin Q := by
  intro p e R s m args below meth c LS H locs cells slots k1 k2 Qm hC hL hH hl hn hk
  exact lv_icmp_lt hC.1 hC.2.1 hd ht (fun q => kt q p e R s m args below meth c LS H locs cells slots k1 k2 Qm hC hL hH hl hn hk) (fun q => kf q p e R s m args below meth c LS H locs cells slots k1 k2 Qm hC hL hH hl hn hk)

theorem wp_if_ge {x : Int32} {off : Int} (tgt : Nat) (hd : decode (mC M) pc = .ok (.ifCond .ge off, 3)) (ht : (pc : Int) + off = (tgt : Int)) (kt : (0 ≤ x) → wp G d M tgt ls st h fin Q) (kf : ¬ (0 ≤ x) → wp G d M (pc + 3) ls st h fin Q) : wp G d M pc ls (.int x :: st) h fin Q := by
  intro p e R s m args below meth c LS H locs cells slots k1 k2 Qm hC hL hH hl hn hk
  exact lv_if_ge hC.1 hC.2.1 hd ht (fun q => kt q p e R s m args below meth c LS H locs cells slots k1 k2 Qm hC hL hH hl hn hk) (fun q => kf q p e R s m args below meth c LS H locs cells slots k1 k2 Qm hC hL hH hl hn hk)

theorem wp_icmp_ge {x y : Int32} {off : Int} (tgt : Nat) (hd : decode (mC M) pc = .ok (.if_icmp .ge off, 3)) (ht : (pc : Int) + off = (tgt : Int)) (kt : (y ≤ x) → wp G d M tgt ls st h fin Q) (kf : ¬ (y ≤ x) → wp G d M (pc + 3) ls st h fin Q) : wp G d M pc ls (.int y :: .int x :: st) h fin Q := by
  intro p e R s m args below meth c LS H locs cells slots k1 k2 Qm hC hL hH hl hn hk
  exact lv_icmp_ge hC.1 hC.2.1 hd ht (fun q => kt q p e R s m args below meth c LS H locs cells slots k1 k2 Qm hC hL hH hl hn hk) (fun q => kf q p e R s m args below meth c LS H locs cells slots k1 k2 Qm hC hL hH hl hn hk)

theorem wp_if_gt {x : Int32} {off : Int} (tgt : Nat) (hd : decode (mC M) pc = .ok (.ifCond .gt off, 3)) (ht : (pc : Int) + off = (tgt : Int)) (kt : (0 < x) → wp G d M tgt ls st h fin Q) (kf : ¬ (0 < x) → wp G d M (pc + 3) ls st h fin Q) : wp G d M pc ls (.int x :: st) h fin Q := by
  intro p e R s m args below meth c LS H locs cells slots k1 k2 Qm hC hL hH hl hn hk
  exact lv_if_gt hC.1 hC.2.1 hd ht (fun q => kt q p e R s m args below meth c LS H locs cells slots k1 k2 Qm hC hL hH hl hn hk) (fun q => kf q p e R s m args below meth c LS H locs cells slots k1 k2 Qm hC hL hH hl hn hk)

theorem wp_icmp_gt {x y : Int32} {off : Int} (tgt : Nat) (hd : decode (mC M) pc = .ok (.if_icmp .gt off, 3)) (ht : (pc : Int) + off = (tgt : Int)) (kt : (y < x) → wp G d M tgt ls st h fin Q) (kf : ¬ (y < x) → wp G d M (pc + 3) ls st h fin Q) : wp G d M pc ls (.int y :: .int x :: st) h fin Q := by
  intro p e R s m args below meth c LS H locs cells slots k1 k2 Qm hC hL hH hl hn hk
  exact lv_icmp_gt hC.1 hC.2.1 hd ht (fun q => kt q p e R s m args below meth c LS H locs cells slots k1 k2 Qm hC hL hH hl hn hk) (fun q => kf q p e R s m args below meth c LS H locs cells slots k1 k2 Qm hC hL hH hl hn hk)

theorem wp_if_le {x : Int32} {off : Int} (tgt : Nat) (hd : decode (mC M) pc = .ok (.ifCond .le off, 3)) (ht : (pc : Int) + off = (tgt : Int)) (kt : (x ≤ 0) → wp G d M tgt ls st h fin Q) (kf : ¬ (x ≤ 0) → wp G d M (pc + 3) ls st h fin Q) : wp G d M pc ls (.int x :: st) h fin Q := by
  intro p e R s m args below meth c LS H locs cells slots k1 k2 Qm hC hL hH hl hn hk
  exact lv_if_le hC.1 hC.2.1 hd ht (fun q => kt q p e R s m args below meth c LS H locs cells slots k1 k2 Qm hC hL hH hl hn hk) (fun q => kf q p e R s m args below meth c LS H locs cells slots k1 k2 Qm hC hL hH hl hn hk)

theorem wp_icmp_le {x y : Int32} {off : Int} (tgt : Nat) (hd : decode (mC M) pc = .ok (.if_icmp .le off, 3)) (ht : (pc : Int) + off = (tgt : Int)) (kt : (x ≤ y) → wp G d M tgt ls st h fin Q) (kf : ¬ (x ≤ y) → wp G d M (pc + 3) ls st h fin Q) : wp G d M pc ls (.int y :: .int x :: st) h fin Q := by
  intro p e R s m args below meth c LS H locs cells slots k1 k2 Qm hC hL hH hl hn hk
  exact lv_icmp_le hC.1 hC.2.1 hd ht (fun q => kt q p e R s m args below meth c LS H locs cells slots k1 k2 Qm hC hL hH hl hn hk) (fun q => kf q p e R s m args below meth c LS H locs cells slots k1 k2 Qm hC hL hH hl hn hk)

theorem wp_goto {off : Int} (tgt : Nat) (hd : decode (mC M) pc = .ok (.goto off, 3)) (ht : (pc : Int) + off = (tgt : Int)) (k : wp G d M tgt ls st h fin Q) : wp G d M pc ls st h fin Q := by
  intro p e R s m args below meth c LS H locs cells slots k1 k2 Qm hC hL hH hl hn hk
  exact lv_goto hC.1 hC.2.1 hd ht (k p e R s m args below meth c LS H locs cells slots k1 k2 Qm hC hL hH hl hn hk)

theorem wp_ifnullR {a : Nat} {off : Int} (hd : decode (mC M) pc = .ok (.ifnull off, 3)) (k : wp G d M (pc + 3) ls st h fin Q) : wp G d M pc ls (.ref a :: st) h fin Q := by
  intro p e R s m args below meth c LS H locs cells slots k1 k2 Qm hC hL hH hl hn hk
  exact lv_ifnull hC.1 hC.2.1 hd (k p e R s m args below meth c LS H locs cells slots k1 k2 Qm hC hL hH hl hn hk)

theorem wp_ifnullN {off : Int} (tgt : Nat) (hd : decode (mC M) pc = .ok (.ifnull off, 3)) (ht : (pc : Int) + off = (tgt : Int)) (k : wp G d M (tgt) ls st h fin Q) : wp G d M pc ls (.null :: st) h fin Q := by
  intro p e R s m args below meth c LS H locs cells slots k1 k2 Qm hC hL hH hl hn hk
  exact lv_ifnullN hC.1 hC.2.1 hd ht (k p e R s m args below meth c LS H locs cells slots k1 k2 Qm hC hL hH hl hn hk)

theorem wp_ifnonnullR {a : Nat} {off : Int} (tgt : Nat) (hd : decode (mC M) pc = .ok (.ifnonnull off, 3)) (ht : (pc : Int) + off = (tgt : Int)) (k : wp G d M (tgt) ls st h fin Q) : wp G d M pc ls (.ref a :: st) h fin Q := by
  intro p e R s m args below meth c LS H locs cells slots k1 k2 Qm hC hL hH hl hn hk
  exact lv_ifnonnull hC.1 hC.2.1 hd ht (k p e R s m args below meth c LS H locs cells slots k1 k2 Qm hC hL hH hl hn hk)

theorem wp_ifnonnullN {off : Int} (hd : decode (mC M) pc = .ok (.ifnonnull off, 3)) (k : wp G d M (pc + 3) ls st h fin Q) : wp G d M pc ls (.null :: st) h fin Q := by
  intro p e R s m args below meth c LS H locs cells slots k1 k2 Qm hC hL hH hl hn hk
  exact lv_ifnonnullN hC.1 hC.2.1 hd (k p e R s m args below meth c LS H locs cells slots k1 k2 Qm hC hL hH hl hn hk)

theorem wp_tableIn {x : Int32} {dflt lo hi off : Int} {offs : Array Int} {len : Nat} (tgt : Nat) (hd : decode (mC M) pc = .ok (.tableswitch dflt lo hi offs, len)) (h1 : ¬ x.toInt < lo) (h2 : ¬ hi < x.toInt) (ho : offs[(x.toInt - lo).toNat]? = some off) (ht : (pc : Int) + off = (tgt : Int)) (k : wp G d M tgt ls st h fin Q) : wp G d M pc ls (.int x :: st) h fin Q := by
  intro p e R s m args below meth c LS H locs cells slots k1 k2 Qm hC hL hH hl hn hk
  exact lv_tableIn hC.1 hC.2.1 hd h1 h2 ho ht (k p e R s m args below meth c LS H locs cells slots k1 k2 Qm hC hL hH hl hn hk)

theorem wp_tableOut {x : Int32} {dflt lo hi : Int} {offs : Array Int} {len : Nat} (tgt : Nat) (hd : decode (mC M) pc = .ok (.tableswitch dflt lo hi offs, len)) (h1 : x.toInt < lo ∨ hi < x.toInt) (ht : (pc : Int) + dflt = (tgt : Int)) (k : wp G d M tgt ls st h fin Q) : wp G d M pc ls (.int x :: st) h fin Q := by
  intro p e R s m args below meth c LS H locs cells slots k1 k2 Qm hC hL hH hl hn hk
  exact lv_tableOut hC.1 hC.2.1 hd h1 ht (k p e R s m args below meth c LS H locs cells slots k1 k2 Qm hC hL hH hl hn hk)

theorem wp_lookup {x : Int32} {dflt off : Int} {ps : Array (Int × Int)} {len : Nat} (tgt : Nat) (hd : decode (mC M) pc = .ok (.lookupswitch dflt ps, len)) (hp : (ps.toList.zip (ps.toList.drop 1)).all (fun (a, next) => a.1 < next.1) = true) (ho : Op.lookupswitch.offset ps.toList dflt x.toInt = off) (ht : (pc : Int) + off = (tgt : Int)) (k : wp G d M tgt ls st h fin Q) : wp G d M pc ls (.int x :: st) h fin Q := by
  intro p e R s m args below meth c LS H locs cells slots k1 k2 Qm hC hL hH hl hn hk
  exact lv_lookup hC.1 hC.2.1 hd hp ho ht (k p e R s m args below meth c LS H locs cells slots k1 k2 Qm hC hL hH hl hn hk)

theorem wp_ireturn {x : Int32} {ty : FieldType} (hd : decode (mC M) pc = .ok (.ireturn, 1)) (hr : mR M = some ty) (hn : narrow ty (.int x) = .int x) (hf : h.2 = fin) (k : Q (some (.int x)) h) : wp G d M pc ls [.int x] h fin Q := by
  intro p e R s m args below meth c LS H locs cells slots k1 k2 Qm hC hL hH hl hn' hk
  exact hk (some (.int x)) h H locs pc cells slots LS k hf hH hl (by rw [← hf]; exact hn'.2.1) (by rw [← hf]; exact hn'.2.2.1) ⟨hd, ty, hr, hn⟩
theorem wp_lreturn {x : Int64} (hd : decode (mC M) pc = .ok (.lreturn, 1)) (hr : mR M = some .long) (hf : h.2 = fin) (k : Q (some (.long x)) h) : wp G d M pc ls [.long x] h fin Q := by
  intro p e R s m args below meth c LS H locs cells slots k1 k2 Qm hC hL hH hl hn' hk
  exact hk (some (.long x)) h H locs pc cells slots LS k hf hH hl (by rw [← hf]; exact hn'.2.1) (by rw [← hf]; exact hn'.2.2.1) ⟨hd, hr⟩
theorem wp_areturn {a : Nat} {rt : FieldType} (hd : decode (mC M) pc = .ok (.areturn, 1)) (hr : mR M = some rt) (hrt : (∃ n, rt = .object n) ∨ ∃ t, rt = .array t) (hf : h.2 = fin) (k : Q (some (.ref a)) h) : wp G d M pc ls [.ref a] h fin Q := by
  intro p e R s m args below meth c LS H locs cells slots k1 k2 Qm hC hL hH hl hn' hk
  exact hk (some (.ref a)) h H locs pc cells slots LS k hf hH hl (by rw [← hf]; exact hn'.2.1) (by rw [← hf]; exact hn'.2.2.1) ⟨hd, rt, hr, hrt⟩
theorem wp_areturnN {rt : FieldType} (hd : decode (mC M) pc = .ok (.areturn, 1)) (hr : mR M = some rt) (hrt : (∃ n, rt = .object n) ∨ ∃ t, rt = .array t) (hf : h.2 = fin) (k : Q (some .null) h) : wp G d M pc ls [.null] h fin Q := by
  intro p e R s m args below meth c LS H locs cells slots k1 k2 Qm hC hL hH hl hn' hk
  exact hk (some .null) h H locs pc cells slots LS k hf hH hl (by rw [← hf]; exact hn'.2.1) (by rw [← hf]; exact hn'.2.2.1) ⟨hd, rt, hr, hrt⟩
theorem wp_return (hd : decode (mC M) pc = .ok (.return_, 1)) (hr : mR M = none) (hf : h.2 = fin) (k : Q none h) : wp G d M pc ls [] h fin Q := by
  intro p e R s m args below meth c LS H locs cells slots k1 k2 Qm hC hL hH hl hn' hk
  exact hk none h H locs pc cells slots LS k hf hH hl (by rw [← hf]; exact hn'.2.1) (by rw [← hf]; exact hn'.2.2.1) ⟨hd, hr⟩

theorem lget_lset1_self {ls : AL} {i : Nat} {v : Value} (hi : i < ls.length) : lget (lset1 ls i v) i = some v := by
  have hlen : i < (lclr2 ls (i + 1) (lclr ls i)).length := by
    unfold lclr2 lclr
    split <;> split <;> simp <;> exact hi
  unfold lget lset1
  rw [List.getElem?_set_self hlen]
theorem lclr_len (ls : AL) (i : Nat) : (lclr ls i).length = ls.length := by
  unfold lclr
  split <;> simp
theorem lclr2_len (ls : AL) (i : Nat) (l1 : AL) : (lclr2 ls i l1).length = l1.length := by
  unfold lclr2
  split <;> simp
theorem lset1_len (ls : AL) (i : Nat) (v : Value) : (lset1 ls i v).length = ls.length := by
  unfold lset1
  rw [List.length_set, lclr2_len, lclr_len]
theorem lset2_len (ls : AL) (i : Nat) (v : Value) : (lset2 ls i v).length = ls.length := by
  unfold lset2
  rw [List.length_set, List.length_set, lclr2_len, lclr_len]
theorem lclr_at {ls : AL} {i j : Nat} {o : Option (Option Value)} (h : (lclr ls i)[j]? = some o) : (o = none ∨ ls[j]? = some o) ∧ (ls[i]? = some (some none) → j + 1 = i → o = none) := by
  unfold lclr at h
  split at h
  · rename_i h0
    by_cases hj : i - 1 = j
    · subst hj
      by_cases hl : i - 1 < ls.length
      · rw [List.getElem?_set_self hl] at h
        cases h
        exact ⟨Or.inl rfl, fun _ _ => rfl⟩
      · rw [List.getElem?_eq_none (by simp; omega)] at h
        cases h
    · rw [List.getElem?_set_ne hj] at h
      exact ⟨Or.inr h, fun _ hh => absurd (by omega) hj⟩
  · rename_i h0
    exact ⟨Or.inr h, fun h1 => absurd h1 (fun q => h0 q)⟩
theorem lclr2_at {ls l1 : AL} {i j : Nat} {o : Option (Option Value)} (h : (lclr2 ls i l1)[j]? = some o) : (o = none ∨ l1[j]? = some o) ∧ (ls[i]? = some (some none) → j = i → o = none) := by
  unfold lclr2 at h
  split at h
  · rename_i h0
    by_cases hj : i = j
    · subst hj
      by_cases hl : i < l1.length
      · rw [List.getElem?_set_self hl] at h
        cases h
        exact ⟨Or.inl rfl, fun _ _ => rfl⟩
      · rw [List.getElem?_eq_none (by simp; omega)] at h
        cases h
    · rw [List.getElem?_set_ne hj] at h
      exact ⟨Or.inr h, fun _ hh => absurd hh.symm hj⟩
  · rename_i h0
    exact ⟨Or.inr h, fun h1 => absurd h1 (fun q => h0 q)⟩
theorem lget_some {ls : AL} {i : Nat} {v : Value} : lget ls i = some v ↔ ls[i]? = some (sv v) := by
  unfold lget
  constructor
  · intro h
    split at h
    · rename_i w hw
      cases h
      exact hw
    · cases h
  · intro h
    rw [h]
theorem lset1_old {ls : AL} {i j : Nat} {v w : Value} (hj : j ≠ i) (h : lget (lset1 ls i v) j = some w) : lget ls j = some w ∧ (ls[i]? = some (some none) → j + 1 ≠ i) := by
  rw [lget_some] at h ⊢
  unfold lset1 at h
  rw [List.getElem?_set_ne (Ne.symm hj)] at h
  have h1 := (lclr2_at h).1.resolve_left (by intro q; cases q)
  obtain ⟨h2, h3⟩ := lclr_at h1
  exact ⟨h2.resolve_left (by intro q; cases q), fun a b => by have := h3 a b; cases this⟩
theorem lset2_old {ls : AL} {i j : Nat} {v w : Value} (hj : j ≠ i) (h : lget (lset2 ls i v) j = some w) : lget ls j = some w ∧ j ≠ i + 1 ∧ (ls[i]? = some (some none) → j + 1 ≠ i) := by
  rw [lget_some] at h ⊢
  unfold lset2 at h
  by_cases hj2 : j = i + 1
  · subst hj2
    by_cases hl : i + 1 < ((lclr2 ls (i + 2) (lclr ls i)).set i (sv v)).length
    · rw [List.getElem?_set_self hl] at h
      cases h
    · rw [List.getElem?_eq_none (by rw [List.length_set]; omega)] at h
      cases h
  rw [List.getElem?_set_ne (fun q => hj2 q.symm), List.getElem?_set_ne (Ne.symm hj)] at h
  have h1 := (lclr2_at h).1.resolve_left (by intro q; cases q)
  obtain ⟨h2, h3⟩ := lclr_at h1
  exact ⟨h2.resolve_left (by intro q; cases q), hj2, fun a b => by have := h3 a b; cases this⟩
theorem lclr_keep {ls : AL} {i j : Nat} (hj : ls[j]? = some (some none)) (hne : j + 1 ≠ i) : (lclr ls i)[j]? = some (some none) := by
  unfold lclr
  split
  · rename_i h0
    by_cases hi : i = 0
    · subst hi
      by_cases hj0 : j = 0
      · subst hj0
        exact absurd rfl (by
          intro _
          exact absurd h0 (by rw [hj]; intro q; exact hne (by omega)))
      · rw [List.getElem?_set_ne (by omega)]
        exact hj
    · rw [List.getElem?_set_ne (by omega)]
      exact hj
  · exact hj
theorem Lr.store1 {n : Nat} {LS' : Array Slot} {i : Nat} {v : Value} {u : Value} (hu : up G v = u) (hL : ls.length = n) (hw : ∀ (i : Nat) (v : Value), lget ls i = some v → v.category = 2 → ls[i + 1]? = some (some none)) (hi : i < n) (hv : v.category = 1) (hnr : ∀ (j : Nat) (w : Value), lget ls j = some w → (up G w).category = 2 → w.category = 2)
    (h' : lv_has LS' n ((i, u) :: (lvOf G ls).filter (fun q => !(q.1 == i) && !(q.1 + 1 == i && q.2.category == 2)))) : Lr G n (lset1 ls i v) LS' := by
  subst hu
  refine ⟨by rw [lset1_len]; exact hL, ⟨h'.1, h'.2.1, fun q hq => ?_⟩, fun j w hg hc => ?_⟩
  · obtain ⟨w, hg, hw2⟩ := lvOf_of hq
    refine h'.2.2 q ?_
    by_cases hj : q.1 = i
    · rw [hj, lget_lset1_self (by rw [hL]; exact hi)] at hg
      cases hg
      refine List.mem_cons.mpr (Or.inl ?_)
      rw [← hw2, ← hj]
    · obtain ⟨h1, h2⟩ := lset1_old hj hg
      refine List.mem_cons.mpr (Or.inr (List.mem_filter.mpr ⟨?_, ?_⟩))
      · rw [show q = (q.1, up G w) by rw [← hw2]]
        exact lvOf_mem h1
      · simp only [Bool.and_eq_true, Bool.not_eq_true', beq_eq_false_iff_ne, Bool.and_eq_false_iff, ne_eq]
        refine ⟨hj, ?_⟩
        by_cases hj1 : q.1 + 1 = i
        · right
          intro hc
          rw [hw2] at hc
          have := hw q.1 w h1 (hnr _ _ h1 hc)
          rw [hj1] at this
          exact h2 this hj1
        · exact Or.inl hj1
  · by_cases hj : j = i
    · subst hj
      rw [lget_lset1_self (by rw [hL]; exact hi)] at hg
      cases hg
      rw [hv] at hc
      cases hc
    · obtain ⟨h1, h2⟩ := lset1_old hj hg
      have h3 := hw j w h1 hc
      have hji : j + 1 ≠ i := fun q => h2 (by rw [← q]; exact h3) q
      unfold lset1
      rw [List.getElem?_set_ne (fun q => hji q.symm)]
      unfold lclr2
      split
      · rw [List.getElem?_set_ne (by omega)]
        exact lclr_keep h3 (by
          intro q
          rename_i h0
          have : lget ls i = none := by
            unfold lget
            rw [show i = j + 1 + 1 by omega] at *
            split
            · rename_i w2 hw2
              exact absurd rfl (by intro _; sorry)
            · rfl
          sorry)
      · sorry
end WpRows
