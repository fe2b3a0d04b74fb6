/-! ===== the same of int values ===== -/
theorem nI_ext {x : Int32} : x = nI x.toBitVec.toNat := by
  apply Int32.toBitVec_inj.mp
  rw [nI_bv]
  apply BitVec.eq_of_toNat_eq
  rw [BitVec.toNat_ofNat]
  exact (Nat.mod_eq_of_lt x.toBitVec.isLt).symm
theorem nI_and {a b : Nat} (ha : a < 4294967296) (hb : b < 4294967296) : nI a &&& nI b = nI (a &&& b) := by
  apply Int32.toBitVec_inj.mp
  show BitVec.ofNat 32 a &&& BitVec.ofNat 32 b = BitVec.ofNat 32 (a &&& b)
  apply BitVec.eq_of_toNat_eq
  have hab : a &&& b < 4294967296 := Nat.lt_of_le_of_lt Nat.and_le_left ha
  rw [BitVec.toNat_and, BitVec.toNat_ofNat, BitVec.toNat_ofNat, BitVec.toNat_ofNat, Nat.mod_eq_of_lt ha, Nat.mod_eq_of_lt hb, Nat.mod_eq_of_lt hab]
theorem bv_ush {a k : Nat} (ha : a < 4294967296) : (BitVec.ofNat 32 a) >>> k = BitVec.ofNat 32 (a / 2 ^ k) := by
  apply BitVec.eq_of_toNat_eq
  have h : a / 2 ^ k < 4294967296 := Nat.lt_of_le_of_lt (Nat.div_le_self _ _) ha
  rw [BitVec.toNat_ushiftRight, BitVec.toNat_ofNat, BitVec.toNat_ofNat, Nat.mod_eq_of_lt ha, Nat.mod_eq_of_lt h, Nat.shiftRight_eq_div_pow]
theorem ush1 {a : Nat} (ha : a < 4294967296) : ((nI a).toUInt32 >>> ((1 : Int32).toUInt32 &&& Int32.toUInt32 31)).toInt32 = nI (a / 2) := Int32.toBitVec_inj.mp (bv_ush (k := 1) ha)
theorem ush2 {a : Nat} (ha : a < 4294967296) : ((nI a).toUInt32 >>> ((2 : Int32).toUInt32 &&& Int32.toUInt32 31)).toInt32 = nI (a / 4) := Int32.toBitVec_inj.mp (bv_ush (k := 2) ha)
theorem ush4 {a : Nat} (ha : a < 4294967296) : ((nI a).toUInt32 >>> ((4 : Int32).toUInt32 &&& Int32.toUInt32 31)).toInt32 = nI (a / 16) := Int32.toBitVec_inj.mp (bv_ush (k := 4) ha)
theorem ush8 {a : Nat} (ha : a < 4294967296) : ((nI a).toUInt32 >>> ((8 : Int32).toUInt32 &&& Int32.toUInt32 31)).toInt32 = nI (a / 256) := Int32.toBitVec_inj.mp (bv_ush (k := 8) ha)
theorem ush16 {a : Nat} (ha : a < 4294967296) : ((nI a).toUInt32 >>> ((16 : Int32).toUInt32 &&& Int32.toUInt32 31)).toInt32 = nI (a / 65536) := Int32.toBitVec_inj.mp (bv_ush (k := 16) ha)
def pcN (a : Nat) : Nat := pc8 (a % 256) + pc8 (a / 256 % 256) + pc8 (a / 65536 % 256) + pc8 (a / 16777216)
theorem by4_lt {b0 b1 b2 b3 : Nat} (h0 : b0 < 256) (h1 : b1 < 256) (h2 : b2 < 256) (h3 : b3 < 256) : by4 b0 b1 b2 b3 < 4294967296 := by
  unfold by4
  omega
section
variable {G : Gp} {d : Nat} {K : SK} {n : Nat × Nat} {V : SV} {J : SJV} {O : SO}
theorem j_bitCount (hK : StK K) {a : Nat} (ha : a < 4294967296) : Ev G d mJ6_bitCount_0f7a4 0 [(0, .int (nI a))] (K, n, V, J, O) (some (.int (nI (pcN a)))) (K, n, V, J, O) := by
  obtain ⟨b0, hb0⟩ : ∃ b, b = a % 256 := ⟨_, rfl⟩
  obtain ⟨b1, hb1⟩ : ∃ b, b = a / 256 % 256 := ⟨_, rfl⟩
  obtain ⟨b2, hb2⟩ : ∃ b, b = a / 65536 % 256 := ⟨_, rfl⟩
  obtain ⟨b3, hb3⟩ : ∃ b, b = a / 16777216 := ⟨_, rfl⟩
  have h0 : b0 < 256 := by omega
  have h1 : b1 < 256 := by omega
  have h2 : b2 < 256 := by omega
  have h3 : b3 < 256 := by omega
  have e : a = by4 b0 b1 b2 b3 := by
    unfold by4
    omega
  have hp : pcN a = pc8 b0 + pc8 b1 + pc8 b2 + pc8 b3 := by
    unfold pcN
    rw [hb0, hb1, hb2, hb3]
  have hs1 := by4_lt (sc_lt h0) (sc_lt h1) (sc_lt h2) (sc_lt h3)
  have q0 := t8 b0 h0
  have q1 := t8 b1 h1
  have q2 := t8 b2 h2
  have q3 := t8 b3 h3
  have hs2 : by4 (sd8 b0) (sd8 b1) (sd8 b2) (sd8 b3) < 4294967296 := by4_lt (by omega) (by omega) (by omega) (by omega)
  have hs3 : by4 (pc8 b0) (pc8 b1) (pc8 b2) (pc8 b3) < 4294967296 := by4_lt (by omega) (by omega) (by omega) (by omega)
  have k1 : nI a - (((nI a).toUInt32 >>> ((1 : Int32).toUInt32 &&& Int32.toUInt32 31)).toInt32 &&& 1431655765) = nI (by4 (sc b0) (sc b1) (sc b2) (sc b3)) := by
    rw [ush1 ha, show (1431655765 : Int32) = nI 1431655765 from rfl, nI_and (by omega) (by decide)]
    have hle : (a / 2) &&& 1431655765 ≤ a := Nat.le_trans Nat.and_le_left (Nat.div_le_self _ _)
    rw [nI_s hle, e, swar1 h0 h1 h2 h3]
  have k2 : (nI (by4 (sc b0) (sc b1) (sc b2) (sc b3)) &&& 858993459) + (((nI (by4 (sc b0) (sc b1) (sc b2) (sc b3))).toUInt32 >>> ((2 : Int32).toUInt32 &&& Int32.toUInt32 31)).toInt32 &&& 858993459) = nI (by4 (sd8 b0) (sd8 b1) (sd8 b2) (sd8 b3)) := by
    rw [ush2 hs1, show (858993459 : Int32) = nI 858993459 from rfl, nI_and hs1 (by decide), nI_and (by omega) (by decide), nI_add, swar2 h0 h1 h2 h3]
  have k3 : (nI (by4 (sd8 b0) (sd8 b1) (sd8 b2) (sd8 b3)) + ((nI (by4 (sd8 b0) (sd8 b1) (sd8 b2) (sd8 b3))).toUInt32 >>> ((4 : Int32).toUInt32 &&& Int32.toUInt32 31)).toInt32) &&& 252645135 = nI (by4 (pc8 b0) (pc8 b1) (pc8 b2) (pc8 b3)) := by
    have hsum : by4 (sd8 b0) (sd8 b1) (sd8 b2) (sd8 b3) + by4 (sd8 b0) (sd8 b1) (sd8 b2) (sd8 b3) / 16 < 4294967296 := by
      have u3 : sd8 b3 ≤ 68 := by omega
      have u2 : sd8 b2 ≤ 68 := by omega
      have u1 : sd8 b1 ≤ 68 := by omega
      have u0 : sd8 b0 ≤ 68 := by omega
      unfold by4
      omega
    rw [ush4 hs2, show (252645135 : Int32) = nI 252645135 from rfl, nI_add, nI_and hsum (by decide), swar3 h0 h1 h2 h3]
  have hx4 : by4 (pc8 b0) (pc8 b1) (pc8 b2) (pc8 b3) + by4 (pc8 b0) (pc8 b1) (pc8 b2) (pc8 b3) / 256 < 4294967296 := by
    unfold by4
    omega
  have k4 : nI (by4 (pc8 b0) (pc8 b1) (pc8 b2) (pc8 b3)) + ((nI (by4 (pc8 b0) (pc8 b1) (pc8 b2) (pc8 b3))).toUInt32 >>> ((8 : Int32).toUInt32 &&& Int32.toUInt32 31)).toInt32 = nI (by4 (pc8 b0) (pc8 b1) (pc8 b2) (pc8 b3) + by4 (pc8 b0) (pc8 b1) (pc8 b2) (pc8 b3) / 256) := by
    rw [ush8 hs3, nI_add]
  have hx5 : by4 (pc8 b0) (pc8 b1) (pc8 b2) (pc8 b3) + by4 (pc8 b0) (pc8 b1) (pc8 b2) (pc8 b3) / 256 + (by4 (pc8 b0) (pc8 b1) (pc8 b2) (pc8 b3) + by4 (pc8 b0) (pc8 b1) (pc8 b2) (pc8 b3) / 256) / 65536 < 4294967296 := by
    unfold by4
    omega
  refine wJ6_bitCount_0f7a4_0 hK ?_
  rw [k1, k2, k3, k4, ush16 hx4, nI_add, show (63 : Int32) = nI 63 from rfl, nI_and hx5 (by decide), swar5 (by omega) (by omega) (by omega) (by omega), hp]
def bsum (a : Nat) : Nat → Nat
  | 0 => 0
  | k + 1 => bsum a k + a / 2 ^ k % 2
theorem pc8_mod {x : Nat} : pc8 (x % 256) = x % 2 + x / 2 % 2 + x / 4 % 2 + x / 8 % 2 + x / 16 % 2 + x / 32 % 2 + x / 64 % 2 + x / 128 % 2 := by
  have e0 : x % 256 % 2 = x % 2 := by omega
  have e1 : x % 256 / 2 % 2 = x / 2 % 2 := by omega
  have e2 : x % 256 / 4 % 2 = x / 4 % 2 := by omega
  have e3 : x % 256 / 8 % 2 = x / 8 % 2 := by omega
  have e4 : x % 256 / 16 % 2 = x / 16 % 2 := by omega
  have e5 : x % 256 / 32 % 2 = x / 32 % 2 := by omega
  have e6 : x % 256 / 64 % 2 = x / 64 % 2 := by omega
  have e7 : x % 256 / 128 % 2 = x / 128 % 2 := by omega
  unfold pc8
  rw [e0, e1, e2, e3, e4, e5, e6, e7]
theorem bsum_pc {a : Nat} (ha : a < 4294967296) : bsum a 32 = pcN a := by
  unfold pcN
  rw [show pc8 (a / 16777216) = pc8 (a / 16777216 % 256) by rw [Nat.mod_eq_of_lt (by omega)], pc8_mod, pc8_mod, pc8_mod, pc8_mod]
  simp only [bsum, Nat.div_div_eq_div_mul, Nat.reduceMul, Nat.reducePow, Nat.div_one, Nat.zero_add, Nat.add_assoc]
end
