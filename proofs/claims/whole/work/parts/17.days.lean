/-! ===== drift, drifted, undrift ===== -/
abbrev RS : Type := Bool × Int32 × Int32 × Int32
def rClamp (z : Int32) : Int32 := if z < 0 then 0 else z
def rUse (A B : Nat → Int32) (d : Nat) (p : Bool) (l s ch : Int32) : RS := match p with
  | true => (true, rClamp (l + (B d - A d)), s + B d, ch)
  | false => (false, rClamp (l + (A d - B d)), s + A d, ch)
def rul (c : Int32) (A B : Nat → Int32) : Nat → Nat → RS → Int32 × Int32
  | 0, _, t => (t.2.2.1, t.2.2.2)
  | k + 1, d, t => if 0 < d ∧ c ≤ t.2.1 then rul c A B k (d + 1) (rUse A B d (!t.1) 0 (t.2.2.1 + c) (t.2.2.2 + 1)) else rul c A B k (d + 1) (rUse A B d t.1 t.2.1 t.2.2.1 t.2.2.2)
theorem rul_y {c : Int32} {A B : Nat → Int32} {k d : Nat} {p : Bool} {l s ch : Int32} (h : 0 < d ∧ c ≤ l) : rul c A B (k + 1) d (p, l, s, ch) = rul c A B k (d + 1) (rUse A B d (!p) 0 (s + c) (ch + 1)) := if_pos h
theorem rul_n {c : Int32} {A B : Nat → Int32} {k d : Nat} {p : Bool} {l s ch : Int32} (h : ¬ (0 < d ∧ c ≤ l)) : rul c A B (k + 1) d (p, l, s, ch) = rul c A B k (d + 1) (rUse A B d p l s ch) := if_neg h
def pick (w : Int32) (q : Int32 × Int32) : Int32 := if w = 0 then q.1 else q.2
def cD (nD : Nat) (A B : Nat → Nat) (V : SV) : Prop := nD ≤ 12 ∧ V 13 0 = nI nD ∧ ∀ d, d < nD → V 14 d = nI (A d) ∧ V 15 d = nI (B d) ∧ A d ≤ 999 ∧ B d ≤ 999
def mD (nD : Nat) (A B : Nat → Nat) (V : SV) : Prop := nD ≤ 12 ∧ V 57 36 = nI nD ∧ ∀ d, d < nD → V 80 d = nI (A d) ∧ V 81 d = nI (B d) ∧ A d ≤ 999 ∧ B d ≤ 999
theorem nI_le0 {d : Nat} (h : d < 100000) : (nI d ≤ 0) = (d ≤ 0) := by
  have := nI_le' (a := d) (b := 0) h (by decide)
  exact propext this
theorem i32_as (a b c : Int32) : a + b - c = a + (b - c) := by rw [Int32.sub_eq_add_neg, Int32.sub_eq_add_neg, Int32.add_assoc]
/-- the cost of the first d days by a row of plans -/
def cst (c : Nat) (A B : Nat → Nat) (p : Nat → Bool) : Nat → Nat
  | 0 => 0
  | d + 1 => cst c A B p d + ((if p d = true then B d else A d) + (if 0 < d ∧ p d ≠ p (d - 1) then c else 0))
theorem cst_eq {c : Nat} {A B : Nat → Nat} {p q : Nat → Bool} : ∀ {d : Nat}, (∀ j, j < d → p j = q j) → cst c A B p d = cst c A B q d
  | 0, _ => rfl
  | d + 1, h => by
    show cst c A B p d + _ = cst c A B q d + _
    rw [cst_eq (d := d) fun j hj => h j (by omega), h d (by omega)]
    by_cases hd : 0 < d
    · rw [h (d - 1) (by omega)]
    · simp [hd]
theorem cst_le {c : Nat} {A B : Nat → Nat} {p : Nat → Bool} (hc : c ≤ 999) : ∀ {d : Nat}, (∀ j, j < d → A j ≤ 999 ∧ B j ≤ 999) → cst c A B p d ≤ 1998 * d
  | 0, _ => Nat.le_refl _
  | d + 1, h => by
    have h1 := cst_le (p := p) hc (d := d) fun j hj => h j (by omega)
    have h2 := h d (by omega)
    show cst c A B p d + _ ≤ _
    have h3 : (if p d = true then B d else A d) ≤ 999 := by split <;> omega
    have h4 : (if 0 < d ∧ p d ≠ p (d - 1) then c else 0) ≤ 999 := by split <;> omega
    omega
/-- a is the least cost of the first d days with plan b on the last of them -/
def isL (c : Nat) (A B : Nat → Nat) (d : Nat) (b : Bool) (a : Nat) : Prop := (∀ p : Nat → Bool, p (d - 1) = b → a ≤ cst c A B p d) ∧ ∃ p : Nat → Bool, p (d - 1) = b ∧ a = cst c A B p d
theorem isL_1 {c : Nat} {A B : Nat → Nat} {b : Bool} : isL c A B 1 b (if b = true then B 0 else A 0) := by
  refine ⟨fun p hp => ?_, fun _ => b, rfl, ?_⟩
  · have : p 0 = b := hp
    simp [cst, this]
  · simp [cst]
theorem isL_s {c : Nat} {A B : Nat → Nat} {d x y : Nat} {b : Bool} (hd : 0 < d) (hx : isL c A B d b x) (hy : isL c A B d (!b) y) : isL c A B (d + 1) b ((if y + c < x then y + c else x) + (if b = true then B d else A d)) := by
  refine ⟨fun p hp => ?_, ?_⟩
  · have hp : p d = b := hp
    show _ ≤ cst c A B p d + _
    rw [hp]
    by_cases e : p (d - 1) = b
    · have := hx.1 p e
      simp only [e, ne_eq, not_true_eq_false, and_false, if_false]
      split <;> omega
    · have e2 : p (d - 1) = !b := by cases b <;> cases h : p (d - 1) <;> simp_all
      have := hy.1 p e2
      have e3 : (0 < d ∧ b ≠ p (d - 1)) := ⟨hd, fun q => e q.symm⟩
      rw [if_pos e3]
      split <;> omega
  · by_cases h : y + c < x
    · obtain ⟨p, h1, h2⟩ := hy.2
      refine ⟨fun j => if j = d then b else p j, by simp, ?_⟩
      show _ = cst c A B _ d + _
      rw [cst_eq (q := p) (fun j hj => by simp [Nat.ne_of_lt hj]), ← h2]
      have e3 : d - 1 ≠ d := by omega
      simp only [e3, if_false, if_true, h1, h, hd, true_and]
      have : b ≠ !b := by cases b <;> simp
      simp only [this, ne_eq, not_false_eq_true, if_true]
      omega
    · obtain ⟨p, h1, h2⟩ := hx.2
      refine ⟨fun j => if j = d then b else p j, by simp, ?_⟩
      show _ = cst c A B _ d + _
      rw [cst_eq (q := p) (fun j hj => by simp [Nat.ne_of_lt hj]), ← h2]
      have e3 : d - 1 ≠ d := by omega
      simp only [e3, if_false, if_true, h1, h, ne_eq, not_true_eq_false, and_false]
      omega
/-- a is the least cost of all rows of plans -/
def isM (c : Nat) (A B : Nat → Nat) (d : Nat) (a : Nat) : Prop := (∀ p : Nat → Bool, a ≤ cst c A B p d) ∧ ∃ p : Nat → Bool, a = cst c A B p d
theorem isM_u {c : Nat} {A B : Nat → Nat} {d a b : Nat} (h : isM c A B d a) (k : isM c A B d b) : a = b := by
  obtain ⟨p, hp⟩ := h.2
  obtain ⟨q, hq⟩ := k.2
  have h1 := h.1 q
  have h2 := k.1 p
  omega
theorem isM_of {c : Nat} {A B : Nat → Nat} {d x y : Nat} (hx : isL c A B d false x) (hy : isL c A B d true y) : isM c A B d (if y < x then y else x) := by
  refine ⟨fun p => ?_, ?_⟩
  · cases e : p (d - 1) with
    | false => have := hx.1 p e; split <;> omega
    | true => have := hy.1 p e; split <;> omega
  · split
    · obtain ⟨p, -, h⟩ := hy.2
      exact ⟨p, h⟩
    · obtain ⟨p, -, h⟩ := hx.2
      exact ⟨p, h⟩
section
variable {G : Gp} {dd : Nat} {K : SK} {n : Nat × Nat} {V V' : SV} {J J' : SJV} {O O' : SO} {r : Option Value}
variable {nD : Nat} {A B : Nat → Nat}
theorem c9_rul (hK : StK K) (h : cD nD A B V) {c w : Int32} : ∀ (k d : Nat) (p : Bool) (l s ch : Int32), d + k = nD → Ev G dd mX9_ruledDrift 14 [(0, .ref 13), (1, .int c), (2, .int w), (3, .int (bI (p = true))), (4, .int s), (5, .int ch), (6, .int l), (7, .int (nI d))] (K, n, V, J, O) (some (.int (pick w (rul c (fun d => nI (A d)) (fun d => nI (B d)) k d (p, l, s, ch))))) (K, n, V, J, O) := by
  intro k
  induction k with
  | zero =>
    intro d p l s ch e
    refine wX9_ruledDrift_14 hK (bt (lp_out h.2.1 (by omega) (by have := h.1; omega)) ⟨fun hw => ?_, fun hw => ?_⟩)
    · rw [pick, if_pos hw]; rfl
    · rw [pick, if_neg hw]; rfl
  | succ k ih0 =>
    intro d p l s ch e
    have h12 := h.1
    have ih := ih0 (d + 1)
    obtain ⟨e1, e2, -, -⟩ := h.2.2 d (by omega)
    have hi := nI_v (a := d) (N := 12) (by omega) (by omega)
    have h56 : ∀ (p : Bool) (l s ch : Int32), Ev G dd mX9_ruledDrift 56 [(0, .ref 13), (1, .int c), (2, .int w), (3, .int (bI (p = true))), (4, .int s), (5, .int ch), (6, .int l), (7, .int (nI d))] (K, n, V, J, O) (some (.int (pick w (rul c (fun d => nI (A d)) (fun d => nI (B d)) k (d + 1) (rUse (fun d => nI (A d)) (fun d => nI (B d)) d p l s ch))))) (K, n, V, J, O) := by
      intro p l s ch
      refine wX9_ruledDrift_56 hK ?_
      rw [nI_c (by omega), e1, e2, nI_1]
      simp only [i32_as]
      cases p with
      | true =>
        refine bf (by decide) ⟨hi, bf (by decide) ⟨hi, ?_⟩⟩
        exact ih true (rClamp (l + (nI (B d) - nI (A d)))) (s + nI (B d)) ch (by omega)
      | false =>
        refine bt (by decide) ⟨hi, bt (by decide) ⟨hi, ?_⟩⟩
        exact ih false (rClamp (l + (nI (A d) - nI (B d)))) (s + nI (A d)) ch (by omega)
    refine wX9_ruledDrift_14 hK (bf (lp_in h.2.1 (by omega) (by omega)) ?_)
    rw [nI_le0 (show d < 100000 by omega)]
    by_cases hd : d ≤ 0
    · refine bt hd ?_
      rw [rul_n fun q => absurd q.1 (by omega)]
      exact h56 p l s ch
    · refine bf hd ?_
      by_cases hl : l < c
      · refine bt hl ?_
        rw [rul_n fun q => Int32.not_le.mpr hl q.2]
        exact h56 p l s ch
      · refine bf hl ?_
        rw [rul_y ⟨by omega, Int32.not_lt.mp hl⟩]
        cases p with
        | true => exact nt (by decide) (h56 false 0 (s + c) (ch + 1))
        | false => exact nf (by decide) (h56 true 0 (s + c) (ch + 1))
theorem c12_costOf (hK : StK K) (h : mD nD A B V) {d : Nat} {b : Bool} (hd : d < nD) : Ev G dd mX12_costOf 0 [(0, .ref 57), (1, .int (bI (b = true))), (2, .int (nI d))] (K, n, V, J, O) (some (.int (nI (if b = true then B d else A d)))) (K, n, V, J, O) := by
  have h12 := h.1
  obtain ⟨e1, e2, -, -⟩ := h.2.2 d hd
  have hi := nI_v (a := d) (N := 12) (by omega) (by omega)
  refine wX12_costOf_0 hK ?_
  rw [nI_c (by omega), e1, e2]
  cases b with
  | true => exact nt (by decide) ⟨hi, rfl⟩
  | false => exact nf (by decide) ⟨hi, rfl⟩
theorem c12_rul (hK : StK K) (h : mD nD A B V) {c w : Int32} : ∀ (k d : Nat) (p : Bool) (l s ch : Int32), d + k = nD → Ev G (dd + 1) mX12_drifted 57 [(0, .ref 57), (1, .int c), (2, .int (if w = 0 then 1 else 2)), (3, .int (bI (p = true))), (4, .int l), (5, .int s), (6, .int ch), (7, .int (nI d))] (K, n, V, J, O) (some (.int (pick w (rul c (fun d => nI (A d)) (fun d => nI (B d)) k d (p, l, s, ch))))) (K, n, V, J, O) := by
  intro k
  induction k with
  | zero =>
    intro d p l s ch e
    refine wX12_drifted_57 hK (bt (lp_out h.2.1 (by omega) (by have := h.1; omega)) ?_)
    by_cases hw : w = 0
    · rw [if_pos hw, pick, if_pos hw]
      exact nf rfl rfl
    · rw [if_neg hw, pick, if_neg hw]
      exact nt (by decide) rfl
  | succ k ih0 =>
    intro d p l s ch e
    have h12 := h.1
    have ih := ih0 (d + 1)
    have h93 : ∀ (p : Bool) (l s ch : Int32), Ev G (dd + 1) mX12_drifted 93 [(0, .ref 57), (1, .int c), (2, .int (if w = 0 then 1 else 2)), (3, .int (bI (p = true))), (4, .int l), (5, .int s), (6, .int ch), (7, .int (nI d))] (K, n, V, J, O) (some (.int (pick w (rul c (fun d => nI (A d)) (fun d => nI (B d)) k (d + 1) (rUse (fun d => nI (A d)) (fun d => nI (B d)) d p l s ch))))) (K, n, V, J, O) := by
      intro p l s ch
      refine wX12_drifted_93 hK ⟨_, c12_costOf hK h (show d < nD by omega), _, c12_costOf hK h (show d < nD by omega), _, (by
        have := c12_costOf (G := G) (dd := dd) (n := n) (J := J) (O := O) hK h (b := !p) (show d < nD by omega)
        have e : bI ((!p) = true) = 1 - bI (p = true) := by cases p <;> decide
        rw [e] at this
        exact this), ?_⟩
      rw [nI_1]
      cases p with
      | true =>
        simp only [if_true, Bool.not_true, Bool.false_eq_true, if_false]
        have h0 := ih true (rClamp (l + (nI (B d) - nI (A d)))) (s + nI (B d)) ch (by omega)
        refine ⟨fun q => ?_, fun q => ?_⟩
        · have e9 : rClamp (l + (nI (B d) - nI (A d))) = l + (nI (B d) - nI (A d)) := if_neg (Int32.not_lt.mpr q)
          rw [e9] at h0
          show Ev _ _ _ _ _ _ (some (.int (pick w (rul c (fun d => nI (A d)) (fun d => nI (B d)) k (d + 1) (true, rClamp (l + (nI (B d) - nI (A d))), s + nI (B d), ch))))) _
          rw [e9]
          exact h0
        · have e9 : rClamp (l + (nI (B d) - nI (A d))) = 0 := if_pos (Int32.not_le.mp q)
          rw [e9] at h0
          show Ev _ _ _ _ _ _ (some (.int (pick w (rul c (fun d => nI (A d)) (fun d => nI (B d)) k (d + 1) (true, rClamp (l + (nI (B d) - nI (A d))), s + nI (B d), ch))))) _
          rw [e9]
          exact h0
      | false =>
        simp only [if_true, Bool.not_false, Bool.false_eq_true, if_false]
        have h0 := ih false (rClamp (l + (nI (A d) - nI (B d)))) (s + nI (A d)) ch (by omega)
        refine ⟨fun q => ?_, fun q => ?_⟩
        · have e9 : rClamp (l + (nI (A d) - nI (B d))) = l + (nI (A d) - nI (B d)) := if_neg (Int32.not_lt.mpr q)
          rw [e9] at h0
          show Ev _ _ _ _ _ _ (some (.int (pick w (rul c (fun d => nI (A d)) (fun d => nI (B d)) k (d + 1) (false, rClamp (l + (nI (A d) - nI (B d))), s + nI (A d), ch))))) _
          rw [e9]
          exact h0
        · have e9 : rClamp (l + (nI (A d) - nI (B d))) = 0 := if_pos (Int32.not_le.mp q)
          rw [e9] at h0
          show Ev _ _ _ _ _ _ (some (.int (pick w (rul c (fun d => nI (A d)) (fun d => nI (B d)) k (d + 1) (false, rClamp (l + (nI (A d) - nI (B d))), s + nI (A d), ch))))) _
          rw [e9]
          exact h0
    refine wX12_drifted_57 hK (bf (lp_in h.2.1 (by omega) (by omega)) ?_)
    rw [nI_le0 (show d < 100000 by omega)]
    by_cases hd : d ≤ 0
    · refine bt hd ?_
      rw [rul_n fun q => absurd q.1 (by omega)]
      exact h93 p l s ch
    · refine bf hd ?_
      by_cases hl : l < c
      · refine bt hl ?_
        rw [rul_n fun q => Int32.not_le.mpr hl q.2]
        exact h93 p l s ch
      · refine bf hl ?_
        rw [rul_y ⟨by omega, Int32.not_lt.mp hl⟩]
        cases p with
        | true => exact h93 false 0 (s + c) (ch + 1)
        | false => exact h93 true 0 (s + c) (ch + 1)
end
