section WpRows
variable {G : Gp} {d : Nat} {M : AM} {pc : Nat} {ls : AL} {st : List Value} {h : AH} {fin : Nat × Nat} {Q : Option Value → AH → Prop}

theorem wp_iconst {n : Int} {v : Int32} (hd : decode (mC M) pc = .ok (.iconst n, 1)) (hv : Int32.ofInt n = v) (k : wp G d M (pc + 1) ls (.int v :: st) h fin Q) : wp G d M pc ls (st) h fin Q := by
  intro p e R s m args below meth c LS H locs cells slots k1 k2 Qm hC hL hH hl hn hk
  exact lv_iconst hC.1 hC.2.1 hd hv (k p e R s m args below meth c LS H locs cells slots k1 k2 Qm hC hL hH hl hn hk)

theorem wp_bipush {n : Int} {v : Int32} (hd : decode (mC M) pc = .ok (.bipush n, 2)) (hv : (Int8.ofInt n).toInt32 = v) (k : wp G d M (pc + 2) ls (.int v :: st) h fin Q) : wp G d M pc ls (st) h fin Q := by
  intro p e R s m args below meth c LS H locs cells slots k1 k2 Qm hC hL hH hl hn hk
  exact lv_bipush hC.1 hC.2.1 hd hv (k p e R s m args below meth c LS H locs cells slots k1 k2 Qm hC hL hH hl hn hk)

theorem wp_sipush {n : Int} {v : Int32} (hd : decode (mC M) pc = .ok (.sipush n, 3)) (hv : (Int16.ofInt n).toInt32 = v) (k : wp G d M (pc + 3) ls (.int v :: st) h fin Q) : wp G d M pc ls (st) h fin Q := by
  intro p e R s m args below meth c LS H locs cells slots k1 k2 Qm hC hL hH hl hn hk
  exact lv_sipush hC.1 hC.2.1 hd hv (k p e R s m args below meth c LS H locs cells slots k1 k2 Qm hC hL hH hl hn hk)

theorem wp_lconst {n : Fin 2} {v : Int64} (hd : decode (mC M) pc = .ok (.lconst n, 1)) (hv : Int64.ofNat (n : Nat) = v) (k : wp G d M (pc + 1) ls (.long v :: st) h fin Q) : wp G d M pc ls (st) h fin Q := by
  intro p e R s m args below meth c LS H locs cells slots k1 k2 Qm hC hL hH hl hn hk
  exact lv_lconst hC.1 hC.2.1 hd hv (k p e R s m args below meth c LS H locs cells slots k1 k2 Qm hC hL hH hl hn hk)

theorem wp_null  (hd : decode (mC M) pc = .ok (.aconst_null, 1))  (k : wp G d M (pc + 1) ls (.null :: st) h fin Q) : wp G d M pc ls (st) h fin Q := by
  intro p e R s m args below meth c LS H locs cells slots k1 k2 Qm hC hL hH hl hn hk
  exact lv_null hC.1 hC.2.1 hd (k p e R s m args below meth c LS H locs cells slots k1 k2 Qm hC hL hH hl hn hk)

theorem wp_ldc {index : Nat} {v : Int32} (hd : decode (mC M) pc = .ok (.ldc index, 2)) (hw : Cond.constant (mY M).cls index v ∈ gtbl) (k : wp G d M (pc + 2) ls (.int v :: st) h fin Q) : wp G d M pc ls (st) h fin Q := by
  intro p e R s m args below meth c LS H locs cells slots k1 k2 Qm hC hL hH hl hn hk
  exact lv_ldc hC.1 hC.2.1 hC.2.2.2.2.2.2.1 (hC.2.2.2.2.2.2.2.1 _ hw) hd (k p e R s m args below meth c LS H locs cells slots k1 k2 Qm hC hL hH hl hn hk)

theorem wp_ldcw {index : Nat} {v : Int32} (hd : decode (mC M) pc = .ok (.ldc_w index, 3)) (hw : Cond.constant (mY M).cls index v ∈ gtbl) (k : wp G d M (pc + 3) ls (.int v :: st) h fin Q) : wp G d M pc ls (st) h fin Q := by
  intro p e R s m args below meth c LS H locs cells slots k1 k2 Qm hC hL hH hl hn hk
  exact lv_ldcw hC.1 hC.2.1 hC.2.2.2.2.2.2.1 (hC.2.2.2.2.2.2.2.1 _ hw) hd (k p e R s m args below meth c LS H locs cells slots k1 k2 Qm hC hL hH hl hn hk)

theorem wp_ldc2 {index : Nat} {v : Int64} (hd : decode (mC M) pc = .ok (.ldc2_w index, 3)) (hw : Cond.constantLong (mY M).cls index v ∈ gtbl) (k : wp G d M (pc + 3) ls (.long v :: st) h fin Q) : wp G d M pc ls (st) h fin Q := by
  intro p e R s m args below meth c LS H locs cells slots k1 k2 Qm hC hL hH hl hn hk
  exact lv_ldc2 hC.1 hC.2.1 hC.2.2.2.2.2.2.1 (hC.2.2.2.2.2.2.2.1 _ hw) hd (k p e R s m args below meth c LS H locs cells slots k1 k2 Qm hC hL hH hl hn hk)

theorem wp_iload_n {k0 : Fin 4} {i : Nat} {x : Int32} (hd : decode (mC M) pc = .ok (.iload_n k0, 1)) (hi : (k0 : Nat) = i) (hg : ls.lookup i = some (.int x)) (k : wp G d M (pc + 1) ls (.int x :: st) h fin Q) : wp G d M pc ls (st) h fin Q := by
  intro p e R s m args below meth c LS H locs cells slots k1 k2 Qm hC hL hH hl hn hk
  exact lv_iload_n hC.1 hC.2.1 hd hi (hL.at hg) (k p e R s m args below meth c LS H locs cells slots k1 k2 Qm hC hL hH hl hn hk)

theorem wp_iload {i : Nat} {x : Int32} (hd : decode (mC M) pc = .ok (.iload i, 2)) (hg : ls.lookup i = some (.int x)) (k : wp G d M (pc + 2) ls (.int x :: st) h fin Q) : wp G d M pc ls (st) h fin Q := by
  intro p e R s m args below meth c LS H locs cells slots k1 k2 Qm hC hL hH hl hn hk
  exact lv_iload hC.1 hC.2.1 hd (hL.at hg) (k p e R s m args below meth c LS H locs cells slots k1 k2 Qm hC hL hH hl hn hk)

theorem wp_lload_n {k0 : Fin 4} {i : Nat} {x : Int64} (hd : decode (mC M) pc = .ok (.lload_n k0, 1)) (hi : (k0 : Nat) = i) (hg : ls.lookup i = some (.long x)) (k : wp G d M (pc + 1) ls (.long x :: st) h fin Q) : wp G d M pc ls (st) h fin Q := by
  intro p e R s m args below meth c LS H locs cells slots k1 k2 Qm hC hL hH hl hn hk
  exact lv_lload_n hC.1 hC.2.1 hd hi (hL.at hg) (k p e R s m args below meth c LS H locs cells slots k1 k2 Qm hC hL hH hl hn hk)

theorem wp_lload {i : Nat} {x : Int64} (hd : decode (mC M) pc = .ok (.lload i, 2)) (hg : ls.lookup i = some (.long x)) (k : wp G d M (pc + 2) ls (.long x :: st) h fin Q) : wp G d M pc ls (st) h fin Q := by
  intro p e R s m args below meth c LS H locs cells slots k1 k2 Qm hC hL hH hl hn hk
  exact lv_lload hC.1 hC.2.1 hd (hL.at hg) (k p e R s m args below meth c LS H locs cells slots k1 k2 Qm hC hL hH hl hn hk)

theorem wp_aload_n {k0 : Fin 4} {i a : Nat} (hd : decode (mC M) pc = .ok (.aload_n k0, 1)) (hi : (k0 : Nat) = i) (hg : ls.lookup i = some (.ref a)) (k : wp G d M (pc + 1) ls (.ref a :: st) h fin Q) : wp G d M pc ls (st) h fin Q := by
  intro p e R s m args below meth c LS H locs cells slots k1 k2 Qm hC hL hH hl hn hk
  exact lv_aload_n hC.1 hC.2.1 hd hi (hL.at hg) (k p e R s m args below meth c LS H locs cells slots k1 k2 Qm hC hL hH hl hn hk)

theorem wp_aload {i a : Nat} (hd : decode (mC M) pc = .ok (.aload i, 2)) (hg : ls.lookup i = some (.ref a)) (k : wp G d M (pc + 2) ls (.ref a :: st) h fin Q) : wp G d M pc ls (st) h fin Q := by
  intro p e R s m args below meth c LS H locs cells slots k1 k2 Qm hC hL hH hl hn hk
  exact lv_aload hC.1 hC.2.1 hd (hL.at hg) (k p e R s m args below meth c LS H locs cells slots k1 k2 Qm hC hL hH hl hn hk)

theorem wp_aload_nS {k0 : Fin 4} {i a : Nat} (hd : decode (mC M) pc = .ok (.aload_n k0, 1)) (hi : (k0 : Nat) = i) (hg : ls.lookup i = some (.retAddr a)) (k : wp G d M (pc + 1) ls (.retAddr a :: st) h fin Q) : wp G d M pc ls (st) h fin Q := by
  intro p e R s m args below meth c LS H locs cells slots k1 k2 Qm hC hL hH hl hn hk
  exact lv_aload_n hC.1 hC.2.1 hd hi (hL.at hg) (k p e R s m args below meth c LS H locs cells slots k1 k2 Qm hC hL hH hl hn hk)

theorem wp_aload_nN {k0 : Fin 4} {i : Nat} (hd : decode (mC M) pc = .ok (.aload_n k0, 1)) (hi : (k0 : Nat) = i) (hg : ls.lookup i = some .null) (k : wp G d M (pc + 1) ls (.null :: st) h fin Q) : wp G d M pc ls (st) h fin Q := by
  intro p e R s m args below meth c LS H locs cells slots k1 k2 Qm hC hL hH hl hn hk
  exact lv_aload_nN hC.1 hC.2.1 hd hi (hL.at hg) (k p e R s m args below meth c LS H locs cells slots k1 k2 Qm hC hL hH hl hn hk)

theorem wp_aloadN {i : Nat} (hd : decode (mC M) pc = .ok (.aload i, 2)) (hg : ls.lookup i = some .null) (k : wp G d M (pc + 2) ls (.null :: st) h fin Q) : wp G d M pc ls (st) h fin Q := by
  intro p e R s m args below meth c LS H locs cells slots k1 k2 Qm hC hL hH hl hn hk
  exact lv_aloadN hC.1 hC.2.1 hd (hL.at hg) (k p e R s m args below meth c LS H locs cells slots k1 k2 Qm hC hL hH hl hn hk)

theorem wp_iadd {x y : Int32} (hd : decode (mC M) pc = .ok (.iadd, 1))  (k : wp G d M (pc + 1) ls (.int (x + y) :: st) h fin Q) : wp G d M pc ls (.int y :: .int x :: st) h fin Q := by
  intro p e R s m args below meth c LS H locs cells slots k1 k2 Qm hC hL hH hl hn hk
  exact lv_iadd hC.1 hC.2.1 hd (k p e R s m args below meth c LS H locs cells slots k1 k2 Qm hC hL hH hl hn hk)

theorem wp_isub {x y : Int32} (hd : decode (mC M) pc = .ok (.isub, 1))  (k : wp G d M (pc + 1) ls (.int (x - y) :: st) h fin Q) : wp G d M pc ls (.int y :: .int x :: st) h fin Q := by
  intro p e R s m args below meth c LS H locs cells slots k1 k2 Qm hC hL hH hl hn hk
  exact lv_isub hC.1 hC.2.1 hd (k p e R s m args below meth c LS H locs cells slots k1 k2 Qm hC hL hH hl hn hk)

theorem wp_imul {x y : Int32} (hd : decode (mC M) pc = .ok (.imul, 1))  (k : wp G d M (pc + 1) ls (.int (x * y) :: st) h fin Q) : wp G d M pc ls (.int y :: .int x :: st) h fin Q := by
  intro p e R s m args below meth c LS H locs cells slots k1 k2 Qm hC hL hH hl hn hk
  exact lv_imul hC.1 hC.2.1 hd (k p e R s m args below meth c LS H locs cells slots k1 k2 Qm hC hL hH hl hn hk)

theorem wp_iand {x y : Int32} (hd : decode (mC M) pc = .ok (.iand, 1))  (k : wp G d M (pc + 1) ls (.int (x &&& y) :: st) h fin Q) : wp G d M pc ls (.int y :: .int x :: st) h fin Q := by
  intro p e R s m args below meth c LS H locs cells slots k1 k2 Qm hC hL hH hl hn hk
  exact lv_iand hC.1 hC.2.1 hd (k p e R s m args below meth c LS H locs cells slots k1 k2 Qm hC hL hH hl hn hk)

theorem wp_ior {x y : Int32} (hd : decode (mC M) pc = .ok (.ior, 1))  (k : wp G d M (pc + 1) ls (.int (x ||| y) :: st) h fin Q) : wp G d M pc ls (.int y :: .int x :: st) h fin Q := by
  intro p e R s m args below meth c LS H locs cells slots k1 k2 Qm hC hL hH hl hn hk
  exact lv_ior hC.1 hC.2.1 hd (k p e R s m args below meth c LS H locs cells slots k1 k2 Qm hC hL hH hl hn hk)

theorem wp_ixor {x y : Int32} (hd : decode (mC M) pc = .ok (.ixor, 1))  (k : wp G d M (pc + 1) ls (.int (x ^^^ y) :: st) h fin Q) : wp G d M pc ls (.int y :: .int x :: st) h fin Q := by
  intro p e R s m args below meth c LS H locs cells slots k1 k2 Qm hC hL hH hl hn hk
  exact lv_ixor hC.1 hC.2.1 hd (k p e R s m args below meth c LS H locs cells slots k1 k2 Qm hC hL hH hl hn hk)

theorem wp_ishl {x y : Int32} (hd : decode (mC M) pc = .ok (.ishl, 1))  (k : wp G d M (pc + 1) ls (.int (x <<< (y &&& 31)) :: st) h fin Q) : wp G d M pc ls (.int y :: .int x :: st) h fin Q := by
  intro p e R s m args below meth c LS H locs cells slots k1 k2 Qm hC hL hH hl hn hk
  exact lv_ishl hC.1 hC.2.1 hd (k p e R s m args below meth c LS H locs cells slots k1 k2 Qm hC hL hH hl hn hk)

theorem wp_ishr {x y : Int32} (hd : decode (mC M) pc = .ok (.ishr, 1))  (k : wp G d M (pc + 1) ls (.int (x >>> (y &&& 31)) :: st) h fin Q) : wp G d M pc ls (.int y :: .int x :: st) h fin Q := by
  intro p e R s m args below meth c LS H locs cells slots k1 k2 Qm hC hL hH hl hn hk
  exact lv_ishr hC.1 hC.2.1 hd (k p e R s m args below meth c LS H locs cells slots k1 k2 Qm hC hL hH hl hn hk)

theorem wp_idiv {x y : Int32} (hd : decode (mC M) pc = .ok (.idiv, 1)) (hne : ¬ y = 0) (k : wp G d M (pc + 1) ls (.int (x / y) :: st) h fin Q) : wp G d M pc ls (.int y :: .int x :: st) h fin Q := by
  intro p e R s m args below meth c LS H locs cells slots k1 k2 Qm hC hL hH hl hn hk
  exact lv_idiv hC.1 hC.2.1 hd hne (k p e R s m args below meth c LS H locs cells slots k1 k2 Qm hC hL hH hl hn hk)

theorem wp_irem {x y : Int32} (hd : decode (mC M) pc = .ok (.irem, 1)) (hne : ¬ y = 0) (k : wp G d M (pc + 1) ls (.int (x - x / y * y) :: st) h fin Q) : wp G d M pc ls (.int y :: .int x :: st) h fin Q := by
  intro p e R s m args below meth c LS H locs cells slots k1 k2 Qm hC hL hH hl hn hk
  exact lv_irem hC.1 hC.2.1 hd hne (k p e R s m args below meth c LS H locs cells slots k1 k2 Qm hC hL hH hl hn hk)

theorem wp_iushr {x y : Int32} (hd : decode (mC M) pc = .ok (.iushr, 1))  (k : wp G d M (pc + 1) ls (.int ((x.toUInt32 >>> (y.toUInt32 &&& Int32.toUInt32 31)).toInt32) :: st) h fin Q) : wp G d M pc ls (.int y :: .int x :: st) h fin Q := by
  intro p e R s m args below meth c LS H locs cells slots k1 k2 Qm hC hL hH hl hn hk
  exact lv_iushr hC.1 hC.2.1 hd rfl (k p e R s m args below meth c LS H locs cells slots k1 k2 Qm hC hL hH hl hn hk)

theorem wp_ineg {x : Int32} (hd : decode (mC M) pc = .ok (.ineg, 1))  (k : wp G d M (pc + 1) ls (.int (-x) :: st) h fin Q) : wp G d M pc ls (.int x :: st) h fin Q := by
  intro p e R s m args below meth c LS H locs cells slots k1 k2 Qm hC hL hH hl hn hk
  exact lv_ineg hC.1 hC.2.1 hd (k p e R s m args below meth c LS H locs cells slots k1 k2 Qm hC hL hH hl hn hk)

theorem wp_ladd {x y : Int64} (hd : decode (mC M) pc = .ok (.ladd, 1))  (k : wp G d M (pc + 1) ls (.long (x + y) :: st) h fin Q) : wp G d M pc ls (.long y :: .long x :: st) h fin Q := by
  intro p e R s m args below meth c LS H locs cells slots k1 k2 Qm hC hL hH hl hn hk
  exact lv_ladd hC.1 hC.2.1 hd (k p e R s m args below meth c LS H locs cells slots k1 k2 Qm hC hL hH hl hn hk)

theorem wp_lmul {x y : Int64} (hd : decode (mC M) pc = .ok (.lmul, 1))  (k : wp G d M (pc + 1) ls (.long (x * y) :: st) h fin Q) : wp G d M pc ls (.long y :: .long x :: st) h fin Q := by
  intro p e R s m args below meth c LS H locs cells slots k1 k2 Qm hC hL hH hl hn hk
  exact lv_lmul hC.1 hC.2.1 hd (k p e R s m args below meth c LS H locs cells slots k1 k2 Qm hC hL hH hl hn hk)

theorem wp_land {x y : Int64} (hd : decode (mC M) pc = .ok (.land, 1))  (k : wp G d M (pc + 1) ls (.long (x &&& y) :: st) h fin Q) : wp G d M pc ls (.long y :: .long x :: st) h fin Q := by
  intro p e R s m args below meth c LS H locs cells slots k1 k2 Qm hC hL hH hl hn hk
  exact lv_land hC.1 hC.2.1 hd (k p e R s m args below meth c LS H locs cells slots k1 k2 Qm hC hL hH hl hn hk)

theorem wp_lor {x y : Int64} (hd : decode (mC M) pc = .ok (.lor, 1))  (k : wp G d M (pc + 1) ls (.long (x ||| y) :: st) h fin Q) : wp G d M pc ls (.long y :: .long x :: st) h fin Q := by
  intro p e R s m args below meth c LS H locs cells slots k1 k2 Qm hC hL hH hl hn hk
  exact lv_lor hC.1 hC.2.1 hd (k p e R s m args below meth c LS H locs cells slots k1 k2 Qm hC hL hH hl hn hk)

theorem wp_lshl {x : Int64} {y : Int32} (hd : decode (mC M) pc = .ok (.lshl, 1))  (k : wp G d M (pc + 1) ls (.long (x <<< (y.toInt64 &&& 63)) :: st) h fin Q) : wp G d M pc ls (.int y :: .long x :: st) h fin Q := by
  intro p e R s m args below meth c LS H locs cells slots k1 k2 Qm hC hL hH hl hn hk
  exact lv_lshl hC.1 hC.2.1 hd rfl (k p e R s m args below meth c LS H locs cells slots k1 k2 Qm hC hL hH hl hn hk)

theorem wp_lcmp {x y : Int64} (hd : decode (mC M) pc = .ok (.lcmp, 1))  (k : wp G d M (pc + 1) ls (.int (lg_cmp x y) :: st) h fin Q) : wp G d M pc ls (.long y :: .long x :: st) h fin Q := by
  intro p e R s m args below meth c LS H locs cells slots k1 k2 Qm hC hL hH hl hn hk
  exact W.lcmp hC.1 hC.2.1 hd (k p e R s m args below meth c LS H locs cells slots k1 k2 Qm hC hL hH hl hn hk)

theorem wp_i2l {x : Int32} (hd : decode (mC M) pc = .ok (.i2l, 1))  (k : wp G d M (pc + 1) ls (.long x.toInt64 :: st) h fin Q) : wp G d M pc ls (.int x :: st) h fin Q := by
  intro p e R s m args below meth c LS H locs cells slots k1 k2 Qm hC hL hH hl hn hk
  exact lv_i2l hC.1 hC.2.1 hd rfl (k p e R s m args below meth c LS H locs cells slots k1 k2 Qm hC hL hH hl hn hk)

theorem wp_l2i {x : Int64} (hd : decode (mC M) pc = .ok (.l2i, 1))  (k : wp G d M (pc + 1) ls (.int x.toInt32 :: st) h fin Q) : wp G d M pc ls (.long x :: st) h fin Q := by
  intro p e R s m args below meth c LS H locs cells slots k1 k2 Qm hC hL hH hl hn hk
  exact lv_l2i hC.1 hC.2.1 hd rfl (k p e R s m args below meth c LS H locs cells slots k1 k2 Qm hC hL hH hl hn hk)

theorem wp_i2b {x : Int32} (hd : decode (mC M) pc = .ok (.i2b, 1))  (k : wp G d M (pc + 1) ls (.int x.toInt8.toInt32 :: st) h fin Q) : wp G d M pc ls (.int x :: st) h fin Q := by
  intro p e R s m args below meth c LS H locs cells slots k1 k2 Qm hC hL hH hl hn hk
  exact lv_i2b hC.1 hC.2.1 hd rfl (k p e R s m args below meth c LS H locs cells slots k1 k2 Qm hC hL hH hl hn hk)

theorem wp_i2s {x : Int32} (hd : decode (mC M) pc = .ok (.i2s, 1))  (k : wp G d M (pc + 1) ls (.int x.toInt16.toInt32 :: st) h fin Q) : wp G d M pc ls (.int x :: st) h fin Q := by
  intro p e R s m args below meth c LS H locs cells slots k1 k2 Qm hC hL hH hl hn hk
  exact lv_i2s hC.1 hC.2.1 hd rfl (k p e R s m args below meth c LS H locs cells slots k1 k2 Qm hC hL hH hl hn hk)

theorem wp_dupI {x : Int32} (hd : decode (mC M) pc = .ok (.dup, 1))  (k : wp G d M (pc + 1) ls (.int x :: .int x :: st) h fin Q) : wp G d M pc ls (.int x :: st) h fin Q := by
  intro p e R s m args below meth c LS H locs cells slots k1 k2 Qm hC hL hH hl hn hk
  exact lv_dup hC.1 hC.2.1 hd rfl (k p e R s m args below meth c LS H locs cells slots k1 k2 Qm hC hL hH hl hn hk)

theorem wp_dupR {a : Nat} (hd : decode (mC M) pc = .ok (.dup, 1))  (k : wp G d M (pc + 1) ls (.ref a :: .ref a :: st) h fin Q) : wp G d M pc ls (.ref a :: st) h fin Q := by
  intro p e R s m args below meth c LS H locs cells slots k1 k2 Qm hC hL hH hl hn hk
  exact lv_dup hC.1 hC.2.1 hd rfl (k p e R s m args below meth c LS H locs cells slots k1 k2 Qm hC hL hH hl hn hk)

theorem wp_dup2 {x : Int32} {a : Nat} (hd : decode (mC M) pc = .ok (.dup2, 1))  (k : wp G d M (pc + 1) ls (.int x :: .ref a :: .int x :: .ref a :: st) h fin Q) : wp G d M pc ls (.int x :: .ref a :: st) h fin Q := by
  intro p e R s m args below meth c LS H locs cells slots k1 k2 Qm hC hL hH hl hn hk
  exact lv_dup2_11 hC.1 hC.2.1 hd rfl rfl (k p e R s m args below meth c LS H locs cells slots k1 k2 Qm hC hL hH hl hn hk)

theorem wp_popI {x : Int32} (hd : decode (mC M) pc = .ok (.pop, 1))  (k : wp G d M (pc + 1) ls (st) h fin Q) : wp G d M pc ls (.int x :: st) h fin Q := by
  intro p e R s m args below meth c LS H locs cells slots k1 k2 Qm hC hL hH hl hn hk
  exact lv_pop hC.1 hC.2.1 hd rfl (k p e R s m args below meth c LS H locs cells slots k1 k2 Qm hC hL hH hl hn hk)

theorem wp_dup_x1 {x : Int32} {a : Nat} (hd : decode (mC M) pc = .ok (.dup_x1, 1))  (k : wp G d M (pc + 1) ls (.int x :: .ref a :: .int x :: st) h fin Q) : wp G d M pc ls (.int x :: .ref a :: st) h fin Q := by
  intro p e R s m args below meth c LS H locs cells slots k1 k2 Qm hC hL hH hl hn hk
  exact lv_dup_x1 hC.1 hC.2.1 hd rfl rfl (k p e R s m args below meth c LS H locs cells slots k1 k2 Qm hC hL hH hl hn hk)

theorem wp_if_eq {x : Int32} {off : Int} (tgt : Nat) (hd : decode (mC M) pc = .ok (.ifCond .eq off, 3)) (ht : (pc : Int) + off = (tgt : Int)) (kt : (x = 0) → wp G d M tgt ls st h fin Q) (kf : ¬ (x = 0) → wp G d M (pc + 3) ls st h fin Q) : wp G d M pc ls (.int x :: st) h fin Q := by
  intro p e R s m args below meth c LS H locs cells slots k1 k2 Qm hC hL hH hl hn hk
  exact lv_if_eq hC.1 hC.2.1 hd ht (fun q => kt q p e R s m args below meth c LS H locs cells slots k1 k2 Qm hC hL hH hl hn hk) (fun q => kf q p e R s m args below meth c LS H locs cells slots k1 k2 Qm hC hL hH hl hn hk)

theorem wp_icmp_eq {x y : Int32} {off : Int} (tgt : Nat) (hd : decode (mC M) pc = .ok (.if_icmp .eq off, 3)) (ht : (pc : Int) + off = (tgt : Int)) (kt : (x = y) → wp G d M tgt ls st h fin Q) (kf : ¬ (x = y) → wp G d M (pc + 3) ls st h fin Q) : wp G d M pc ls (.int y :: .int x :: st) h fin Q := by
  intro p e R s m args below meth c LS H locs cells slots k1 k2 Qm hC hL hH hl hn hk
  exact lv_icmp_eq hC.1 hC.2.1 hd ht (fun q => kt q p e R s m args below meth c LS H locs cells slots k1 k2 Qm hC hL hH hl hn hk) (fun q => kf q p e R s m args below meth c LS H locs cells slots k1 k2 Qm hC hL hH hl hn hk)

theorem wp_if_ne {x : Int32} {off : Int} (tgt : Nat) (hd : decode (mC M) pc = .ok (.ifCond .ne off, 3)) (ht : (pc : Int) + off = (tgt : Int)) (kt : (x ≠ 0) → wp G d M tgt ls st h fin Q) (kf : (x = 0) → wp G d M (pc + 3) ls st h fin Q) : wp G d M pc ls (.int x :: st) h fin Q := by
  intro p e R s m args below meth c LS H locs cells slots k1 k2 Qm hC hL hH hl hn hk
  exact lv_if_ne hC.1 hC.2.1 hd ht (fun q => kt q p e R s m args below meth c LS H locs cells slots k1 k2 Qm hC hL hH hl hn hk) (fun q => kf q p e R s m args below meth c LS H locs cells slots k1 k2 Qm hC hL hH hl hn hk)

theorem wp_icmp_ne {x y : Int32} {off : Int} (tgt : Nat) (hd : decode (mC M) pc = .ok (.if_icmp .ne off, 3)) (ht : (pc : Int) + off = (tgt : Int)) (kt : (x ≠ y) → wp G d M tgt ls st h fin Q) (kf : (x = y) → wp G d M (pc + 3) ls st h fin Q) : wp G d M pc ls (.int y :: .int x :: st) h fin Q := by
  intro p e R s m args below meth c LS H locs cells slots k1 k2 Qm hC hL hH hl hn hk
  exact lv_icmp_ne hC.1 hC.2.1 hd ht (fun q => kt q p e R s m args below meth c LS H locs cells slots k1 k2 Qm hC hL hH hl hn hk) (fun q => kf q p e R s m args below meth c LS H locs cells slots k1 k2 Qm hC hL hH hl hn hk)

theorem wp_if_lt {x : Int32} {off : Int} (tgt : Nat) (hd : decode (mC M) pc = .ok (.ifCond .lt off, 3)) (ht : (pc : Int) + off = (tgt : Int)) (kt : (x < 0) → wp G d M tgt ls st h fin Q) (kf : ¬ (x < 0) → wp G d M (pc + 3) ls st h fin Q) : wp G d M pc ls (.int x :: st) h fin Q := by
  intro p e R s m args below meth c LS H locs cells slots k1 k2 Qm hC hL hH hl hn hk
  exact lv_if_lt hC.1 hC.2.1 hd ht (fun q => kt q p e R s m args below meth c LS H locs cells slots k1 k2 Qm hC hL hH hl hn hk) (fun q => kf q p e R s m args below meth c LS H locs cells slots k1 k2 Qm hC hL hH hl hn hk)

theorem wp_icmp_lt {x y : Int32} {off : Int} (tgt : Nat) (hd : decode (mC M) pc = .ok (.if_icmp .lt off, 3)) (ht : (pc : Int) + off = (tgt : Int)) (kt : (x < y) → wp G d M tgt ls st h fin Q) (kf : ¬ (x < y) → wp G d M (pc + 3) ls st h fin Q) : wp G d M pc ls (.int y :: .int x :: st) h fin Q := by
  intro p e R s m args below meth c LS H locs cells slots k1 k2 Qm hC hL hH hl hn hk
  exact lv_icmp_lt hC.1 hC.2.1 hd ht (fun q => kt q p e R s m args below meth c LS H locs cells slots k1 k2 Qm hC hL hH hl hn hk) (fun q => kf q p e R s m args below meth c LS H locs cells slots k1 k2 Qm hC hL hH hl hn hk)

theorem wp_if_ge {x : Int32} {off : Int} (tgt : Nat) (hd : decode (mC M) pc = .ok (.ifCond .ge off, 3)) (ht : (pc : Int) + off = (tgt : Int)) (kt : (0 ≤ x) → wp G d M tgt ls st h fin Q) (kf : ¬ (0 ≤ x) → wp G d M (pc + 3) ls st h fin Q) : wp G d M pc ls (.int x :: st) h fin Q := by
  intro p e R s m args below meth c LS H locs cells slots k1 k2 Qm hC hL hH hl hn hk
  exact lv_if_ge hC.1 hC.2.1 hd ht (fun q => kt q p e R s m args below meth c LS H locs cells slots k1 k2 Qm hC hL hH hl hn hk) (fun q => kf q p e R s m args below meth c LS H locs cells slots k1 k2 Qm hC hL hH hl hn hk)

theorem wp_icmp_ge {x y : Int32} {off : Int} (tgt : Nat) (hd : decode (mC M) pc = .ok (.if_icmp .ge off, 3)) (ht : (pc : Int) + off = (tgt : Int)) (kt : (y ≤ x) → wp G d M tgt ls st h fin Q) (kf : ¬ (y ≤ x) → wp G d M (pc + 3) ls st h fin Q) : wp G d M pc ls (.int y :: .int x :: st) h fin Q := by
  intro p e R s m args below meth c LS H locs cells slots k1 k2 Qm hC hL hH hl hn hk
  exact lv_icmp_ge hC.1 hC.2.1 hd ht (fun q => kt q p e R s m args below meth c LS H locs cells slots k1 k2 Qm hC hL hH hl hn hk) (fun q => kf q p e R s m args below meth c LS H locs cells slots k1 k2 Qm hC hL hH hl hn hk)

theorem wp_if_gt {x : Int32} {off : Int} (tgt : Nat) (hd : decode (mC M) pc = .ok (.ifCond .gt off, 3)) (ht : (pc : Int) + off = (tgt : Int)) (kt : (0 < x) → wp G d M tgt ls st h fin Q) (kf : ¬ (0 < x) → wp G d M (pc + 3) ls st h fin Q) : wp G d M pc ls (.int x :: st) h fin Q := by
  intro p e R s m args below meth c LS H locs cells slots k1 k2 Qm hC hL hH hl hn hk
  exact lv_if_gt hC.1 hC.2.1 hd ht (fun q => kt q p e R s m args below meth c LS H locs cells slots k1 k2 Qm hC hL hH hl hn hk) (fun q => kf q p e R s m args below meth c LS H locs cells slots k1 k2 Qm hC hL hH hl hn hk)

theorem wp_icmp_gt {x y : Int32} {off : Int} (tgt : Nat) (hd : decode (mC M) pc = .ok (.if_icmp .gt off, 3)) (ht : (pc : Int) + off = (tgt : Int)) (kt : (y < x) → wp G d M tgt ls st h fin Q) (kf : ¬ (y < x) → wp G d M (pc + 3) ls st h fin Q) : wp G d M pc ls (.int y :: .int x :: st) h fin Q := by
  intro p e R s m args below meth c LS H locs cells slots k1 k2 Qm hC hL hH hl hn hk
  exact lv_icmp_gt hC.1 hC.2.1 hd ht (fun q => kt q p e R s m args below meth c LS H locs cells slots k1 k2 Qm hC hL hH hl hn hk) (fun q => kf q p e R s m args below meth c LS H locs cells slots k1 k2 Qm hC hL hH hl hn hk)

theorem wp_if_le {x : Int32} {off : Int} (tgt : Nat) (hd : decode (mC M) pc = .ok (.ifCond .le off, 3)) (ht : (pc : Int) + off = (tgt : Int)) (kt : (x ≤ 0) → wp G d M tgt ls st h fin Q) (kf : ¬ (x ≤ 0) → wp G d M (pc + 3) ls st h fin Q) : wp G d M pc ls (.int x :: st) h fin Q := by
  intro p e R s m args below meth c LS H locs cells slots k1 k2 Qm hC hL hH hl hn hk
  exact lv_if_le hC.1 hC.2.1 hd ht (fun q => kt q p e R s m args below meth c LS H locs cells slots k1 k2 Qm hC hL hH hl hn hk) (fun q => kf q p e R s m args below meth c LS H locs cells slots k1 k2 Qm hC hL hH hl hn hk)

theorem wp_icmp_le {x y : Int32} {off : Int} (tgt : Nat) (hd : decode (mC M) pc = .ok (.if_icmp .le off, 3)) (ht : (pc : Int) + off = (tgt : Int)) (kt : (x ≤ y) → wp G d M tgt ls st h fin Q) (kf : ¬ (x ≤ y) → wp G d M (pc + 3) ls st h fin Q) : wp G d M pc ls (.int y :: .int x :: st) h fin Q := by
  intro p e R s m args below meth c LS H locs cells slots k1 k2 Qm hC hL hH hl hn hk
  exact lv_icmp_le hC.1 hC.2.1 hd ht (fun q => kt q p e R s m args below meth c LS H locs cells slots k1 k2 Qm hC hL hH hl hn hk) (fun q => kf q p e R s m args below meth c LS H locs cells slots k1 k2 Qm hC hL hH hl hn hk)

theorem wp_goto {off : Int} (tgt : Nat) (hd : decode (mC M) pc = .ok (.goto off, 3)) (ht : (pc : Int) + off = (tgt : Int)) (k : wp G d M tgt ls st h fin Q) : wp G d M pc ls st h fin Q := by
  intro p e R s m args below meth c LS H locs cells slots k1 k2 Qm hC hL hH hl hn hk
  exact lv_goto hC.1 hC.2.1 hd ht (k p e R s m args below meth c LS H locs cells slots k1 k2 Qm hC hL hH hl hn hk)

theorem wp_ifnullR {a : Nat} {off : Int} (hd : decode (mC M) pc = .ok (.ifnull off, 3)) (k : wp G d M (pc + 3) ls st h fin Q) : wp G d M pc ls (.ref a :: st) h fin Q := by
  intro p e R s m args below meth c LS H locs cells slots k1 k2 Qm hC hL hH hl hn hk
  exact lv_ifnull hC.1 hC.2.1 hd (k p e R s m args below meth c LS H locs cells slots k1 k2 Qm hC hL hH hl hn hk)

theorem wp_ifnullN {off : Int} (tgt : Nat) (hd : decode (mC M) pc = .ok (.ifnull off, 3)) (ht : (pc : Int) + off = (tgt : Int)) (k : wp G d M (tgt) ls st h fin Q) : wp G d M pc ls (.null :: st) h fin Q := by
  intro p e R s m args below meth c LS H locs cells slots k1 k2 Qm hC hL hH hl hn hk
  exact lv_ifnullN hC.1 hC.2.1 hd ht (k p e R s m args below meth c LS H locs cells slots k1 k2 Qm hC hL hH hl hn hk)

theorem wp_ifnonnullR {a : Nat} {off : Int} (tgt : Nat) (hd : decode (mC M) pc = .ok (.ifnonnull off, 3)) (ht : (pc : Int) + off = (tgt : Int)) (k : wp G d M (tgt) ls st h fin Q) : wp G d M pc ls (.ref a :: st) h fin Q := by
  intro p e R s m args below meth c LS H locs cells slots k1 k2 Qm hC hL hH hl hn hk
  exact lv_ifnonnull hC.1 hC.2.1 hd ht (k p e R s m args below meth c LS H locs cells slots k1 k2 Qm hC hL hH hl hn hk)

theorem wp_ifnonnullN {off : Int} (hd : decode (mC M) pc = .ok (.ifnonnull off, 3)) (k : wp G d M (pc + 3) ls st h fin Q) : wp G d M pc ls (.null :: st) h fin Q := by
  intro p e R s m args below meth c LS H locs cells slots k1 k2 Qm hC hL hH hl hn hk
  exact lv_ifnonnullN hC.1 hC.2.1 hd (k p e R s m args below meth c LS H locs cells slots k1 k2 Qm hC hL hH hl hn hk)

theorem wp_tableIn {x : Int32} {dflt lo hi off : Int} {offs : Array Int} {len : Nat} (tgt : Nat) (hd : decode (mC M) pc = .ok (.tableswitch dflt lo hi offs, len)) (h1 : ¬ x.toInt < lo) (h2 : ¬ hi < x.toInt) (ho : offs[(x.toInt - lo).toNat]? = some off) (ht : (pc : Int) + off = (tgt : Int)) (k : wp G d M tgt ls st h fin Q) : wp G d M pc ls (.int x :: st) h fin Q := by
  intro p e R s m args below meth c LS H locs cells slots k1 k2 Qm hC hL hH hl hn hk
  exact lv_tableIn hC.1 hC.2.1 hd h1 h2 ho ht (k p e R s m args below meth c LS H locs cells slots k1 k2 Qm hC hL hH hl hn hk)

theorem wp_tableOut {x : Int32} {dflt lo hi : Int} {offs : Array Int} {len : Nat} (tgt : Nat) (hd : decode (mC M) pc = .ok (.tableswitch dflt lo hi offs, len)) (h1 : x.toInt < lo ∨ hi < x.toInt) (ht : (pc : Int) + dflt = (tgt : Int)) (k : wp G d M tgt ls st h fin Q) : wp G d M pc ls (.int x :: st) h fin Q := by
  intro p e R s m args below meth c LS H locs cells slots k1 k2 Qm hC hL hH hl hn hk
  exact lv_tableOut hC.1 hC.2.1 hd h1 ht (k p e R s m args below meth c LS H locs cells slots k1 k2 Qm hC hL hH hl hn hk)

theorem wp_lookup {x : Int32} {dflt off : Int} {ps : Array (Int × Int)} {len : Nat} (tgt : Nat) (hd : decode (mC M) pc = .ok (.lookupswitch dflt ps, len)) (hp : (ps.toList.zip (ps.toList.drop 1)).all (fun (a, next) => a.1 < next.1) = true) (ho : Op.lookupswitch.offset ps.toList dflt x.toInt = off) (ht : (pc : Int) + off = (tgt : Int)) (k : wp G d M tgt ls st h fin Q) : wp G d M pc ls (.int x :: st) h fin Q := by
  intro p e R s m args below meth c LS H locs cells slots k1 k2 Qm hC hL hH hl hn hk
  exact lv_lookup hC.1 hC.2.1 hd hp ho ht (k p e R s m args below meth c LS H locs cells slots k1 k2 Qm hC hL hH hl hn hk)

theorem wp_ireturn {x : Int32} {ty : FieldType} (hd : decode (mC M) pc = .ok (.ireturn, 1)) (hr : mR M = some ty) (hn : narrow ty (.int x) = .int x) (hf : h.2 = fin) (k : Q (some (.int x)) h) : wp G d M pc ls [.int x] h fin Q := by
  intro p e R s m args below meth c LS H locs cells slots k1 k2 Qm hC hL hH hl hn' hk
  exact hk (some (.int x)) h H locs pc cells slots LS k hf hH hl (by rw [← hf]; exact hn'.2.1) (by rw [← hf]; exact hn'.2.2.1) ⟨hd, ty, hr, hn⟩
theorem wp_lreturn {x : Int64} (hd : decode (mC M) pc = .ok (.lreturn, 1)) (hr : mR M = some .long) (hf : h.2 = fin) (k : Q (some (.long x)) h) : wp G d M pc ls [.long x] h fin Q := by
  intro p e R s m args below meth c LS H locs cells slots k1 k2 Qm hC hL hH hl hn' hk
  exact hk (some (.long x)) h H locs pc cells slots LS k hf hH hl (by rw [← hf]; exact hn'.2.1) (by rw [← hf]; exact hn'.2.2.1) ⟨hd, hr⟩
theorem wp_areturn {a : Nat} {rt : FieldType} (hd : decode (mC M) pc = .ok (.areturn, 1)) (hr : mR M = some rt) (hrt : (∃ n, rt = .object n) ∨ ∃ t, rt = .array t) (hf : h.2 = fin) (k : Q (some (.ref a)) h) : wp G d M pc ls [.ref a] h fin Q := by
  intro p e R s m args below meth c LS H locs cells slots k1 k2 Qm hC hL hH hl hn' hk
  exact hk (some (.ref a)) h H locs pc cells slots LS k hf hH hl (by rw [← hf]; exact hn'.2.1) (by rw [← hf]; exact hn'.2.2.1) ⟨hd, rt, hr, hrt⟩
theorem wp_areturnN {rt : FieldType} (hd : decode (mC M) pc = .ok (.areturn, 1)) (hr : mR M = some rt) (hrt : (∃ n, rt = .object n) ∨ ∃ t, rt = .array t) (hf : h.2 = fin) (k : Q (some .null) h) : wp G d M pc ls [.null] h fin Q := by
  intro p e R s m args below meth c LS H locs cells slots k1 k2 Qm hC hL hH hl hn' hk
  exact hk (some .null) h H locs pc cells slots LS k hf hH hl (by rw [← hf]; exact hn'.2.1) (by rw [← hf]; exact hn'.2.2.1) ⟨hd, rt, hr, hrt⟩
theorem wp_return (hd : decode (mC M) pc = .ok (.return_, 1)) (hr : mR M = none) (hf : h.2 = fin) (k : Q none h) : wp G d M pc ls [] h fin Q := by
  intro p e R s m args below meth c LS H locs cells slots k1 k2 Qm hC hL hH hl hn' hk
  exact hk none h H locs pc cells slots LS k hf hH hl (by rw [← hf]; exact hn'.2.1) (by rw [← hf]; exact hn'.2.2.1) ⟨hd, hr⟩

theorem wp_istore_n {k0 : Fin 4} {i : Nat} {x : Int32} (hd : decode (mC M) pc = .ok (.istore_n k0, 1)) (hi : (k0 : Nat) = i) (hlt : i < mL M) (k : wp G d M (pc + 1) (lset1 ls i (.int x)) st h fin Q) : wp G d M pc ls (.int x :: st) h fin Q := by
  intro p e R s m args below meth c LS H locs cells slots k1 k2 Qm hC hL hH hl hn hk
  exact lv_istore_n hC.1 hC.2.1 hd hi hL hlt rfl (fun LS hL => k p e R s m args below meth c LS H locs cells slots k1 k2 Qm hC (Lr.store1 (v := .int x) hL) hH hl hn hk)

theorem wp_istore {i : Nat} {x : Int32} (hd : decode (mC M) pc = .ok (.istore i, 2)) (hlt : i < mL M) (k : wp G d M (pc + 2) (lset1 ls i (.int x)) st h fin Q) : wp G d M pc ls (.int x :: st) h fin Q := by
  intro p e R s m args below meth c LS H locs cells slots k1 k2 Qm hC hL hH hl hn hk
  exact lv_istore hC.1 hC.2.1 hd hL hlt rfl (fun LS hL => k p e R s m args below meth c LS H locs cells slots k1 k2 Qm hC (Lr.store1 (v := .int x) hL) hH hl hn hk)

theorem wp_lstore_n {k0 : Fin 4} {i : Nat} {x : Int64} (hd : decode (mC M) pc = .ok (.lstore_n k0, 1)) (hi : (k0 : Nat) = i) (hlt : i + 1 < mL M) (k : wp G d M (pc + 1) (lset2 ls i (.long x)) st h fin Q) : wp G d M pc ls (.long x :: st) h fin Q := by
  intro p e R s m args below meth c LS H locs cells slots k1 k2 Qm hC hL hH hl hn hk
  exact lv_lstore_n hC.1 hC.2.1 hd hi hL hlt rfl (fun LS hL => k p e R s m args below meth c LS H locs cells slots k1 k2 Qm hC (Lr.store2 (v := .long x) hL) hH hl hn hk)

theorem wp_lstore {i : Nat} {x : Int64} (hd : decode (mC M) pc = .ok (.lstore i, 2)) (hlt : i + 1 < mL M) (k : wp G d M (pc + 2) (lset2 ls i (.long x)) st h fin Q) : wp G d M pc ls (.long x :: st) h fin Q := by
  intro p e R s m args below meth c LS H locs cells slots k1 k2 Qm hC hL hH hl hn hk
  exact lv_lstore hC.1 hC.2.1 hd hL hlt rfl (fun LS hL => k p e R s m args below meth c LS H locs cells slots k1 k2 Qm hC (Lr.store2 (v := .long x) hL) hH hl hn hk)

theorem wp_astore_n {k0 : Fin 4} {i : Nat} {a : Nat} (hd : decode (mC M) pc = .ok (.astore_n k0, 1)) (hi : (k0 : Nat) = i) (hlt : i < mL M) (k : wp G d M (pc + 1) (lset1 ls i (.ref a)) st h fin Q) : wp G d M pc ls (.ref a :: st) h fin Q := by
  intro p e R s m args below meth c LS H locs cells slots k1 k2 Qm hC hL hH hl hn hk
  exact lv_astore_n hC.1 hC.2.1 hd hi hL hlt rfl (fun LS hL => k p e R s m args below meth c LS H locs cells slots k1 k2 Qm hC (Lr.store1 (v := .ref a) hL) hH hl hn hk)

theorem wp_astore {i : Nat} {a : Nat} (hd : decode (mC M) pc = .ok (.astore i, 2)) (hlt : i < mL M) (k : wp G d M (pc + 2) (lset1 ls i (.ref a)) st h fin Q) : wp G d M pc ls (.ref a :: st) h fin Q := by
  intro p e R s m args below meth c LS H locs cells slots k1 k2 Qm hC hL hH hl hn hk
  exact lv_astore hC.1 hC.2.1 hd hL hlt rfl (fun LS hL => k p e R s m args below meth c LS H locs cells slots k1 k2 Qm hC (Lr.store1 (v := .ref a) hL) hH hl hn hk)

theorem wp_astore_nN {k0 : Fin 4} {i : Nat} (hd : decode (mC M) pc = .ok (.astore_n k0, 1)) (hi : (k0 : Nat) = i) (hlt : i < mL M) (k : wp G d M (pc + 1) (lset1 ls i (.null)) st h fin Q) : wp G d M pc ls (.null :: st) h fin Q := by
  intro p e R s m args below meth c LS H locs cells slots k1 k2 Qm hC hL hH hl hn hk
  exact lv_astore_nN hC.1 hC.2.1 hd hi hL hlt rfl (fun LS hL => k p e R s m args below meth c LS H locs cells slots k1 k2 Qm hC (Lr.store1 (v := .null) hL) hH hl hn hk)

theorem wp_astoreN {i : Nat} (hd : decode (mC M) pc = .ok (.astore i, 2)) (hlt : i < mL M) (k : wp G d M (pc + 2) (lset1 ls i (.null)) st h fin Q) : wp G d M pc ls (.null :: st) h fin Q := by
  intro p e R s m args below meth c LS H locs cells slots k1 k2 Qm hC hL hH hl hn hk
  exact lv_astoreN hC.1 hC.2.1 hd hL hlt rfl (fun LS hL => k p e R s m args below meth c LS H locs cells slots k1 k2 Qm hC (Lr.store1 (v := .null) hL) hH hl hn hk)

theorem wp_iinc {i : Nat} {n : Int} {x v : Int32} (hd : decode (mC M) pc = .ok (.iinc i n, 3)) (hg : ls.lookup i = some (.int x)) (hv : x + Int32.ofInt n = v) (hlt : i < mL M) (k : wp G d M (pc + 3) (lset1 ls i (.int v)) st h fin Q) : wp G d M pc ls st h fin Q := by
  intro p e R s m args below meth c LS H locs cells slots k1 k2 Qm hC hL hH hl hn hk
  obtain ⟨kk, hkk⟩ := List.getElem?_of_mem (lvOf_mem (G := G) hg)
  exact lv_iinc hC.1 hC.2.1 hd hL (k := kk) hkk hv hlt rfl (fun LS hL => k p e R s m args below meth c LS H locs cells slots k1 k2 Qm hC (Lr.store1 (v := .int v) hL) hH hl hn hk)

end WpRows