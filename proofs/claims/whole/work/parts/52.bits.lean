/-! ===== how many bits are set: the library's way and the loop, first of numbers ===== -/
def pc8 (b : Nat) : Nat := b % 2 + b / 2 % 2 + b / 4 % 2 + b / 8 % 2 + b / 16 % 2 + b / 32 % 2 + b / 64 % 2 + b / 128 % 2
def by4 (b0 b1 b2 b3 : Nat) : Nat := 256 * (256 * (256 * b3 + b2) + b1) + b0
theorem and8 {xh xl mh ml : Nat} (hx : xl < 256) (hm : ml < 256) : (256 * xh + xl) &&& (256 * mh + ml) = 256 * (xh &&& mh) + (xl &&& ml) := by
  have hl : xl &&& ml < 2 ^ 8 := Nat.lt_of_le_of_lt Nat.and_le_left hx
  apply Nat.eq_of_testBit_eq
  intro i
  rw [Nat.testBit_and, show (256 : Nat) = 2 ^ 8 from rfl, Nat.testBit_two_pow_mul_add _ hx, Nat.testBit_two_pow_mul_add _ hm, Nat.testBit_two_pow_mul_add _ hl]
  split
  · rw [Nat.testBit_and]
  · rw [Nat.testBit_and]
theorem and4 {b0 b1 b2 b3 k : Nat} (h0 : b0 < 256) (h1 : b1 < 256) (h2 : b2 < 256) (hk : k < 256) : by4 b0 b1 b2 b3 &&& by4 k k k k = by4 (b0 &&& k) (b1 &&& k) (b2 &&& k) (b3 &&& k) := by
  unfold by4
  rw [and8 h0 hk, and8 h1 hk, and8 h2 hk]
theorem t55 : ∀ b, b < 256 → ∀ e, e < 2 → (b / 2 + 128 * e) &&& 85 = (b / 2) &&& 85 := by decide +kernel
theorem t33 : ∀ b, b < 256 → ∀ e, e < 4 → (b / 4 + 64 * e) &&& 51 = (b / 4) &&& 51 := by decide +kernel
def sc (b : Nat) : Nat := b - ((b / 2) &&& 85)
def sd8 (b : Nat) : Nat := (sc b &&& 51) + ((sc b / 4) &&& 51)
theorem t8 : ∀ b, b < 256 → (sd8 b + sd8 b / 16) % 16 = pc8 b ∧ sd8 b % 16 ≤ 4 ∧ sd8 b / 16 ≤ 4 ∧ ((b / 2) &&& 85) ≤ b ∧ pc8 b ≤ 8 := by decide +kernel
theorem sc_lt {b : Nat} (h : b < 256) : sc b < 256 := by
  unfold sc
  omega
theorem swar1 {b0 b1 b2 b3 : Nat} (h0 : b0 < 256) (h1 : b1 < 256) (h2 : b2 < 256) (h3 : b3 < 256) : by4 b0 b1 b2 b3 - ((by4 b0 b1 b2 b3 / 2) &&& 1431655765) = by4 (sc b0) (sc b1) (sc b2) (sc b3) := by
  have e : by4 b0 b1 b2 b3 / 2 = by4 (b0 / 2 + 128 * (b1 % 2)) (b1 / 2 + 128 * (b2 % 2)) (b2 / 2 + 128 * (b3 % 2)) (b3 / 2 + 128 * 0) := by
    unfold by4
    omega
  rw [e, show (1431655765 : Nat) = by4 85 85 85 85 from rfl, and4 (by omega) (by omega) (by omega) (by decide), t55 b0 h0 _ (by omega), t55 b1 h1 _ (by omega), t55 b2 h2 _ (by omega), t55 b3 h3 _ (by omega)]
  have q0 := (t8 b0 h0).2.2.2.1
  have q1 := (t8 b1 h1).2.2.2.1
  have q2 := (t8 b2 h2).2.2.2.1
  have q3 := (t8 b3 h3).2.2.2.1
  unfold sc by4
  omega
theorem swar2 {b0 b1 b2 b3 : Nat} (h0 : b0 < 256) (h1 : b1 < 256) (h2 : b2 < 256) (h3 : b3 < 256) : (by4 (sc b0) (sc b1) (sc b2) (sc b3) &&& 858993459) + ((by4 (sc b0) (sc b1) (sc b2) (sc b3) / 4) &&& 858993459) = by4 (sd8 b0) (sd8 b1) (sd8 b2) (sd8 b3) := by
  have s0 := sc_lt h0
  have s1 := sc_lt h1
  have s2 := sc_lt h2
  have s3 := sc_lt h3
  have e : by4 (sc b0) (sc b1) (sc b2) (sc b3) / 4 = by4 (sc b0 / 4 + 64 * (sc b1 % 4)) (sc b1 / 4 + 64 * (sc b2 % 4)) (sc b2 / 4 + 64 * (sc b3 % 4)) (sc b3 / 4 + 64 * 0) := by
    unfold by4
    omega
  rw [e, show (858993459 : Nat) = by4 51 51 51 51 from rfl, and4 s0 s1 s2 (by decide), and4 (by omega) (by omega) (by omega) (by decide), t33 _ s0 _ (by omega), t33 _ s1 _ (by omega), t33 _ s2 _ (by omega), t33 _ s3 _ (by omega)]
  unfold sd8 by4
  omega
theorem swar3 {b0 b1 b2 b3 : Nat} (h0 : b0 < 256) (h1 : b1 < 256) (h2 : b2 < 256) (h3 : b3 < 256) : (by4 (sd8 b0) (sd8 b1) (sd8 b2) (sd8 b3) + by4 (sd8 b0) (sd8 b1) (sd8 b2) (sd8 b3) / 16) &&& 252645135 = by4 (pc8 b0) (pc8 b1) (pc8 b2) (pc8 b3) := by
  obtain ⟨p0, u0, v0, -⟩ := t8 b0 h0
  obtain ⟨p1, u1, v1, -⟩ := t8 b1 h1
  obtain ⟨p2, u2, v2, -⟩ := t8 b2 h2
  obtain ⟨p3, u3, v3, -⟩ := t8 b3 h3
  generalize sd8 b0 = d0 at *
  generalize sd8 b1 = d1 at *
  generalize sd8 b2 = d2 at *
  generalize sd8 b3 = d3 at *
  have e : by4 d0 d1 d2 d3 + by4 d0 d1 d2 d3 / 16 = by4 (d0 + d0 / 16 + 16 * (d1 % 16)) (d1 + d1 / 16 + 16 * (d2 % 16)) (d2 + d2 / 16 + 16 * (d3 % 16)) (d3 + d3 / 16) := by
    unfold by4
    omega
  have m : ∀ z : Nat, z &&& 15 = z % 16 := fun z => Nat.and_two_pow_sub_one_eq_mod z 4
  rw [e, show (252645135 : Nat) = by4 15 15 15 15 from rfl, and4 (by omega) (by omega) (by omega) (by decide), m, m, m, m]
  unfold by4
  omega
theorem swar5 {p0 p1 p2 p3 : Nat} (h0 : p0 ≤ 8) (h1 : p1 ≤ 8) (h2 : p2 ≤ 8) (h3 : p3 ≤ 8) : ((by4 p0 p1 p2 p3 + by4 p0 p1 p2 p3 / 256) + (by4 p0 p1 p2 p3 + by4 p0 p1 p2 p3 / 256) / 65536) &&& 63 = p0 + p1 + p2 + p3 := by
  have m : ∀ z : Nat, z &&& 63 = z % 64 := fun z => Nat.and_two_pow_sub_one_eq_mod z 6
  have e1 : by4 p0 p1 p2 p3 + by4 p0 p1 p2 p3 / 256 = by4 (p0 + p1) (p1 + p2) (p2 + p3) p3 := by
    unfold by4
    omega
  have e2 : by4 (p0 + p1) (p1 + p2) (p2 + p3) p3 / 65536 = 256 * p3 + (p2 + p3) := by
    unfold by4
    omega
  rw [m, e1, e2]
  unfold by4
  omega
