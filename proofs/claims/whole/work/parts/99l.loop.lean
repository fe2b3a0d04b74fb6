/-! ===== the law's loop ===== -/
/-- from the law's head at i, m rounds at most to come: it ends, with 1 -/
def LwGo (G : Gp) (m i : Nat) (K : SK) (n : Nat × Nat) (V : SV) (J : SJV) (O : SO) : Prop := ∃ fin : Nat × Nat, (n.1 ≤ fin.1 ∧ n.2 ≤ fin.2) ∧ fin.1 ≤ n.1 + 5 * m ∧ fin.2 ≤ n.2 + 300 * m ∧ ∀ (sc : Nat) (Q : Option Value → AH → Prop), (∀ h, Q (some (.int 1)) h) → wp G (100 + 1) mL_law 18 [(0, .retAddr sc), (1, .ref 0), (2, .ref 57), (3, .int (nI i))] [] (cz (K, n, V, J, O)) fin Q
theorem ab {v a b : Int32} {P : Prop} (h1 : v = a) (hn : (a == b) = false) (h2 : v = b) : P := by
  subst h1
  subst h2
  rw [beq_self_eq_true] at hn
  cases hn
section
variable {G : Gp} {i m sc : Nat} {h : AH} {fin : Nat × Nat} {Q : Option Value → AH → Prop}
theorem hd_put {d : Nat} (hL : gL G < 100000) (hi : i + 6 ≤ gL G) (e : gx G i &&& 63 = (0 : Int32)) (hw : wp G (d + 1) mL_law 212 [(0, .retAddr sc), (1, .ref 0), (2, .ref 57), (3, .int (nI i))] [] h fin Q) : wp G (d + 1) mL_law 18 [(0, .retAddr sc), (1, .ref 0), (2, .ref 57), (3, .int (nI i))] [] h fin Q := by
  refine vL_law_18 ⟨fun q => absurd ((law_end hL (by omega)).mp q) (by omega), fun _ => ⟨(inL_of hL hi).1, ?_⟩⟩
  rw [nI_c (by omega)]
  exact ⟨fun _ => hw, ab e rfl, ab e rfl, ab e rfl, ab e rfl, ab e rfl, ab e rfl, ab e rfl, ab e rfl, ab e rfl, ab e rfl, ab e rfl, ab e rfl, ab e rfl, ab e rfl, ab e rfl, ab e rfl, ab e rfl, ab e rfl, ab e rfl, ab e rfl, ab e rfl, ab e rfl, ab e rfl, ab e rfl, ab e rfl, ab e rfl, ab e rfl, ab e rfl, ab e rfl, ab e rfl, ab e rfl, ab e rfl, ab e rfl, ab e rfl, ab e rfl, ab e rfl, ab e rfl, ab e rfl, ab e rfl, ab e rfl, fun z => absurd e (z.1)⟩
theorem hd_take {d : Nat} (hL : gL G < 100000) (hi : i + 6 ≤ gL G) (e : gx G i &&& 63 = (1 : Int32)) (hw : wp G (d + 1) mL_law 265 [(0, .retAddr sc), (1, .ref 0), (2, .ref 57), (3, .int (nI i))] [] h fin Q) : wp G (d + 1) mL_law 18 [(0, .retAddr sc), (1, .ref 0), (2, .ref 57), (3, .int (nI i))] [] h fin Q := by
  refine vL_law_18 ⟨fun q => absurd ((law_end hL (by omega)).mp q) (by omega), fun _ => ⟨(inL_of hL hi).1, ?_⟩⟩
  rw [nI_c (by omega)]
  exact ⟨ab e rfl, fun _ => hw, ab e rfl, ab e rfl, ab e rfl, ab e rfl, ab e rfl, ab e rfl, ab e rfl, ab e rfl, ab e rfl, ab e rfl, ab e rfl, ab e rfl, ab e rfl, ab e rfl, ab e rfl, ab e rfl, ab e rfl, ab e rfl, ab e rfl, ab e rfl, ab e rfl, ab e rfl, ab e rfl, ab e rfl, ab e rfl, ab e rfl, ab e rfl, ab e rfl, ab e rfl, ab e rfl, ab e rfl, ab e rfl, ab e rfl, ab e rfl, ab e rfl, ab e rfl, ab e rfl, ab e rfl, ab e rfl, fun z => absurd e (z.2.1)⟩
theorem hd_of {d : Nat} (hL : gL G < 100000) (hi : i + 6 ≤ gL G) (e : gx G i &&& 63 = (2 : Int32)) (hw : wp G (d + 1) mL_law 288 [(0, .retAddr sc), (1, .ref 0), (2, .ref 57), (3, .int (nI i))] [] h fin Q) : wp G (d + 1) mL_law 18 [(0, .retAddr sc), (1, .ref 0), (2, .ref 57), (3, .int (nI i))] [] h fin Q := by
  refine vL_law_18 ⟨fun q => absurd ((law_end hL (by omega)).mp q) (by omega), fun _ => ⟨(inL_of hL hi).1, ?_⟩⟩
  rw [nI_c (by omega)]
  exact ⟨ab e rfl, ab e rfl, fun _ => hw, ab e rfl, ab e rfl, ab e rfl, ab e rfl, ab e rfl, ab e rfl, ab e rfl, ab e rfl, ab e rfl, ab e rfl, ab e rfl, ab e rfl, ab e rfl, ab e rfl, ab e rfl, ab e rfl, ab e rfl, ab e rfl, ab e rfl, ab e rfl, ab e rfl, ab e rfl, ab e rfl, ab e rfl, ab e rfl, ab e rfl, ab e rfl, ab e rfl, ab e rfl, ab e rfl, ab e rfl, ab e rfl, ab e rfl, ab e rfl, ab e rfl, ab e rfl, ab e rfl, ab e rfl, fun z => absurd e (z.2.2.1)⟩
theorem hd_unlike {d : Nat} (hL : gL G < 100000) (hi : i + 6 ≤ gL G) (e : gx G i &&& 63 = (3 : Int32)) (hw : wp G (d + 1) mL_law 321 [(0, .retAddr sc), (1, .ref 0), (2, .ref 57), (3, .int (nI i))] [] h fin Q) : wp G (d + 1) mL_law 18 [(0, .retAddr sc), (1, .ref 0), (2, .ref 57), (3, .int (nI i))] [] h fin Q := by
  refine vL_law_18 ⟨fun q => absurd ((law_end hL (by omega)).mp q) (by omega), fun _ => ⟨(inL_of hL hi).1, ?_⟩⟩
  rw [nI_c (by omega)]
  exact ⟨ab e rfl, ab e rfl, ab e rfl, fun _ => hw, ab e rfl, ab e rfl, ab e rfl, ab e rfl, ab e rfl, ab e rfl, ab e rfl, ab e rfl, ab e rfl, ab e rfl, ab e rfl, ab e rfl, ab e rfl, ab e rfl, ab e rfl, ab e rfl, ab e rfl, ab e rfl, ab e rfl, ab e rfl, ab e rfl, ab e rfl, ab e rfl, ab e rfl, ab e rfl, ab e rfl, ab e rfl, ab e rfl, ab e rfl, ab e rfl, ab e rfl, ab e rfl, ab e rfl, ab e rfl, ab e rfl, ab e rfl, ab e rfl, fun z => absurd e (z.2.2.2.1)⟩
theorem hd_most {d : Nat} (hL : gL G < 100000) (hi : i + 6 ≤ gL G) (e : gx G i &&& 63 = (4 : Int32)) (hw : wp G (d + 1) mL_law 354 [(0, .retAddr sc), (1, .ref 0), (2, .ref 57), (3, .int (nI i))] [] h fin Q) : wp G (d + 1) mL_law 18 [(0, .retAddr sc), (1, .ref 0), (2, .ref 57), (3, .int (nI i))] [] h fin Q := by
  refine vL_law_18 ⟨fun q => absurd ((law_end hL (by omega)).mp q) (by omega), fun _ => ⟨(inL_of hL hi).1, ?_⟩⟩
  rw [nI_c (by omega)]
  exact ⟨ab e rfl, ab e rfl, ab e rfl, ab e rfl, fun _ => hw, ab e rfl, ab e rfl, ab e rfl, ab e rfl, ab e rfl, ab e rfl, ab e rfl, ab e rfl, ab e rfl, ab e rfl, ab e rfl, ab e rfl, ab e rfl, ab e rfl, ab e rfl, ab e rfl, ab e rfl, ab e rfl, ab e rfl, ab e rfl, ab e rfl, ab e rfl, ab e rfl, ab e rfl, ab e rfl, ab e rfl, ab e rfl, ab e rfl, ab e rfl, ab e rfl, ab e rfl, ab e rfl, ab e rfl, ab e rfl, ab e rfl, ab e rfl, fun z => absurd e (z.2.2.2.2.1)⟩
theorem hd_feed {d : Nat} (hL : gL G < 100000) (hi : i + 6 ≤ gL G) (e : gx G i &&& 63 = (5 : Int32)) (hw : wp G (d + 1) mL_law 387 [(0, .retAddr sc), (1, .ref 0), (2, .ref 57), (3, .int (nI i))] [] h fin Q) : wp G (d + 1) mL_law 18 [(0, .retAddr sc), (1, .ref 0), (2, .ref 57), (3, .int (nI i))] [] h fin Q := by
  refine vL_law_18 ⟨fun q => absurd ((law_end hL (by omega)).mp q) (by omega), fun _ => ⟨(inL_of hL hi).1, ?_⟩⟩
  rw [nI_c (by omega)]
  exact ⟨ab e rfl, ab e rfl, ab e rfl, ab e rfl, ab e rfl, fun _ => hw, ab e rfl, ab e rfl, ab e rfl, ab e rfl, ab e rfl, ab e rfl, ab e rfl, ab e rfl, ab e rfl, ab e rfl, ab e rfl, ab e rfl, ab e rfl, ab e rfl, ab e rfl, ab e rfl, ab e rfl, ab e rfl, ab e rfl, ab e rfl, ab e rfl, ab e rfl, ab e rfl, ab e rfl, ab e rfl, ab e rfl, ab e rfl, ab e rfl, ab e rfl, ab e rfl, ab e rfl, ab e rfl, ab e rfl, ab e rfl, ab e rfl, fun z => absurd e (z.2.2.2.2.2.1)⟩
theorem hd_ask {d : Nat} (hL : gL G < 100000) (hi : i + 6 ≤ gL G) (e : gx G i &&& 63 = (6 : Int32)) (hw : wp G (d + 1) mL_law 420 [(0, .retAddr sc), (1, .ref 0), (2, .ref 57), (3, .int (nI i))] [] h fin Q) : wp G (d + 1) mL_law 18 [(0, .retAddr sc), (1, .ref 0), (2, .ref 57), (3, .int (nI i))] [] h fin Q := by
  refine vL_law_18 ⟨fun q => absurd ((law_end hL (by omega)).mp q) (by omega), fun _ => ⟨(inL_of hL hi).1, ?_⟩⟩
  rw [nI_c (by omega)]
  exact ⟨ab e rfl, ab e rfl, ab e rfl, ab e rfl, ab e rfl, ab e rfl, fun _ => hw, ab e rfl, ab e rfl, ab e rfl, ab e rfl, ab e rfl, ab e rfl, ab e rfl, ab e rfl, ab e rfl, ab e rfl, ab e rfl, ab e rfl, ab e rfl, ab e rfl, ab e rfl, ab e rfl, ab e rfl, ab e rfl, ab e rfl, ab e rfl, ab e rfl, ab e rfl, ab e rfl, ab e rfl, ab e rfl, ab e rfl, ab e rfl, ab e rfl, ab e rfl, ab e rfl, ab e rfl, ab e rfl, ab e rfl, ab e rfl, fun z => absurd e (z.2.2.2.2.2.2.1)⟩
theorem hd_often {d : Nat} (hL : gL G < 100000) (hi : i + 6 ≤ gL G) (e : gx G i &&& 63 = (7 : Int32)) (hw : wp G (d + 1) mL_law 433 [(0, .retAddr sc), (1, .ref 0), (2, .ref 57), (3, .int (nI i))] [] h fin Q) : wp G (d + 1) mL_law 18 [(0, .retAddr sc), (1, .ref 0), (2, .ref 57), (3, .int (nI i))] [] h fin Q := by
  refine vL_law_18 ⟨fun q => absurd ((law_end hL (by omega)).mp q) (by omega), fun _ => ⟨(inL_of hL hi).1, ?_⟩⟩
  rw [nI_c (by omega)]
  exact ⟨ab e rfl, ab e rfl, ab e rfl, ab e rfl, ab e rfl, ab e rfl, ab e rfl, fun _ => hw, ab e rfl, ab e rfl, ab e rfl, ab e rfl, ab e rfl, ab e rfl, ab e rfl, ab e rfl, ab e rfl, ab e rfl, ab e rfl, ab e rfl, ab e rfl, ab e rfl, ab e rfl, ab e rfl, ab e rfl, ab e rfl, ab e rfl, ab e rfl, ab e rfl, ab e rfl, ab e rfl, ab e rfl, ab e rfl, ab e rfl, ab e rfl, ab e rfl, ab e rfl, ab e rfl, ab e rfl, ab e rfl, ab e rfl, fun z => absurd e (z.2.2.2.2.2.2.2.1)⟩
theorem hd_answer {d : Nat} (hL : gL G < 100000) (hi : i + 6 ≤ gL G) (e : gx G i &&& 63 = (8 : Int32)) (hw : wp G (d + 1) mL_law 466 [(0, .retAddr sc), (1, .ref 0), (2, .ref 57), (3, .int (nI i))] [] h fin Q) : wp G (d + 1) mL_law 18 [(0, .retAddr sc), (1, .ref 0), (2, .ref 57), (3, .int (nI i))] [] h fin Q := by
  refine vL_law_18 ⟨fun q => absurd ((law_end hL (by omega)).mp q) (by omega), fun _ => ⟨(inL_of hL hi).1, ?_⟩⟩
  rw [nI_c (by omega)]
  exact ⟨ab e rfl, ab e rfl, ab e rfl, ab e rfl, ab e rfl, ab e rfl, ab e rfl, ab e rfl, fun _ => hw, ab e rfl, ab e rfl, ab e rfl, ab e rfl, ab e rfl, ab e rfl, ab e rfl, ab e rfl, ab e rfl, ab e rfl, ab e rfl, ab e rfl, ab e rfl, ab e rfl, ab e rfl, ab e rfl, ab e rfl, ab e rfl, ab e rfl, ab e rfl, ab e rfl, ab e rfl, ab e rfl, ab e rfl, ab e rfl, ab e rfl, ab e rfl, ab e rfl, ab e rfl, ab e rfl, ab e rfl, ab e rfl, fun z => absurd e (z.2.2.2.2.2.2.2.2.1)⟩
theorem hd_stone {d : Nat} (hL : gL G < 100000) (hi : i + 6 ≤ gL G) (e : gx G i &&& 63 = (9 : Int32)) (hw : wp G (d + 1) mL_law 509 [(0, .retAddr sc), (1, .ref 0), (2, .ref 57), (3, .int (nI i))] [] h fin Q) : wp G (d + 1) mL_law 18 [(0, .retAddr sc), (1, .ref 0), (2, .ref 57), (3, .int (nI i))] [] h fin Q := by
  refine vL_law_18 ⟨fun q => absurd ((law_end hL (by omega)).mp q) (by omega), fun _ => ⟨(inL_of hL hi).1, ?_⟩⟩
  rw [nI_c (by omega)]
  exact ⟨ab e rfl, ab e rfl, ab e rfl, ab e rfl, ab e rfl, ab e rfl, ab e rfl, ab e rfl, ab e rfl, fun _ => hw, ab e rfl, ab e rfl, ab e rfl, ab e rfl, ab e rfl, ab e rfl, ab e rfl, ab e rfl, ab e rfl, ab e rfl, ab e rfl, ab e rfl, ab e rfl, ab e rfl, ab e rfl, ab e rfl, ab e rfl, ab e rfl, ab e rfl, ab e rfl, ab e rfl, ab e rfl, ab e rfl, ab e rfl, ab e rfl, ab e rfl, ab e rfl, ab e rfl, ab e rfl, ab e rfl, ab e rfl, fun z => absurd e (z.2.2.2.2.2.2.2.2.2.1)⟩
theorem hd_ofStone {d : Nat} (hL : gL G < 100000) (hi : i + 6 ≤ gL G) (e : gx G i &&& 63 = (10 : Int32)) (hw : wp G (d + 1) mL_law 542 [(0, .retAddr sc), (1, .ref 0), (2, .ref 57), (3, .int (nI i))] [] h fin Q) : wp G (d + 1) mL_law 18 [(0, .retAddr sc), (1, .ref 0), (2, .ref 57), (3, .int (nI i))] [] h fin Q := by
  refine vL_law_18 ⟨fun q => absurd ((law_end hL (by omega)).mp q) (by omega), fun _ => ⟨(inL_of hL hi).1, ?_⟩⟩
  rw [nI_c (by omega)]
  exact ⟨ab e rfl, ab e rfl, ab e rfl, ab e rfl, ab e rfl, ab e rfl, ab e rfl, ab e rfl, ab e rfl, ab e rfl, fun _ => hw, ab e rfl, ab e rfl, ab e rfl, ab e rfl, ab e rfl, ab e rfl, ab e rfl, ab e rfl, ab e rfl, ab e rfl, ab e rfl, ab e rfl, ab e rfl, ab e rfl, ab e rfl, ab e rfl, ab e rfl, ab e rfl, ab e rfl, ab e rfl, ab e rfl, ab e rfl, ab e rfl, ab e rfl, ab e rfl, ab e rfl, ab e rfl, ab e rfl, ab e rfl, ab e rfl, fun z => absurd e (z.2.2.2.2.2.2.2.2.2.2.1)⟩
theorem hd_nameAt {d : Nat} (hL : gL G < 100000) (hi : i + 6 ≤ gL G) (e : gx G i &&& 63 = (11 : Int32)) (hw : wp G (d + 1) mL_law 575 [(0, .retAddr sc), (1, .ref 0), (2, .ref 57), (3, .int (nI i))] [] h fin Q) : wp G (d + 1) mL_law 18 [(0, .retAddr sc), (1, .ref 0), (2, .ref 57), (3, .int (nI i))] [] h fin Q := by
  refine vL_law_18 ⟨fun q => absurd ((law_end hL (by omega)).mp q) (by omega), fun _ => ⟨(inL_of hL hi).1, ?_⟩⟩
  rw [nI_c (by omega)]
  exact ⟨ab e rfl, ab e rfl, ab e rfl, ab e rfl, ab e rfl, ab e rfl, ab e rfl, ab e rfl, ab e rfl, ab e rfl, ab e rfl, fun _ => hw, ab e rfl, ab e rfl, ab e rfl, ab e rfl, ab e rfl, ab e rfl, ab e rfl, ab e rfl, ab e rfl, ab e rfl, ab e rfl, ab e rfl, ab e rfl, ab e rfl, ab e rfl, ab e rfl, ab e rfl, ab e rfl, ab e rfl, ab e rfl, ab e rfl, ab e rfl, ab e rfl, ab e rfl, ab e rfl, ab e rfl, ab e rfl, ab e rfl, ab e rfl, fun z => absurd e (z.2.2.2.2.2.2.2.2.2.2.2.1)⟩
theorem hd_through {d : Nat} (hL : gL G < 100000) (hi : i + 6 ≤ gL G) (e : gx G i &&& 63 = (12 : Int32)) (hw : wp G (d + 1) mL_law 608 [(0, .retAddr sc), (1, .ref 0), (2, .ref 57), (3, .int (nI i))] [] h fin Q) : wp G (d + 1) mL_law 18 [(0, .retAddr sc), (1, .ref 0), (2, .ref 57), (3, .int (nI i))] [] h fin Q := by
  refine vL_law_18 ⟨fun q => absurd ((law_end hL (by omega)).mp q) (by omega), fun _ => ⟨(inL_of hL hi).1, ?_⟩⟩
  rw [nI_c (by omega)]
  exact ⟨ab e rfl, ab e rfl, ab e rfl, ab e rfl, ab e rfl, ab e rfl, ab e rfl, ab e rfl, ab e rfl, ab e rfl, ab e rfl, ab e rfl, fun _ => hw, ab e rfl, ab e rfl, ab e rfl, ab e rfl, ab e rfl, ab e rfl, ab e rfl, ab e rfl, ab e rfl, ab e rfl, ab e rfl, ab e rfl, ab e rfl, ab e rfl, ab e rfl, ab e rfl, ab e rfl, ab e rfl, ab e rfl, ab e rfl, ab e rfl, ab e rfl, ab e rfl, ab e rfl, ab e rfl, ab e rfl, ab e rfl, ab e rfl, fun z => absurd e (z.2.2.2.2.2.2.2.2.2.2.2.2.1)⟩
theorem hd_looks {d : Nat} (hL : gL G < 100000) (hi : i + 6 ≤ gL G) (e : gx G i &&& 63 = (13 : Int32)) (hw : wp G (d + 1) mL_law 661 [(0, .retAddr sc), (1, .ref 0), (2, .ref 57), (3, .int (nI i))] [] h fin Q) : wp G (d + 1) mL_law 18 [(0, .retAddr sc), (1, .ref 0), (2, .ref 57), (3, .int (nI i))] [] h fin Q := by
  refine vL_law_18 ⟨fun q => absurd ((law_end hL (by omega)).mp q) (by omega), fun _ => ⟨(inL_of hL hi).1, ?_⟩⟩
  rw [nI_c (by omega)]
  exact ⟨ab e rfl, ab e rfl, ab e rfl, ab e rfl, ab e rfl, ab e rfl, ab e rfl, ab e rfl, ab e rfl, ab e rfl, ab e rfl, ab e rfl, ab e rfl, fun _ => hw, ab e rfl, ab e rfl, ab e rfl, ab e rfl, ab e rfl, ab e rfl, ab e rfl, ab e rfl, ab e rfl, ab e rfl, ab e rfl, ab e rfl, ab e rfl, ab e rfl, ab e rfl, ab e rfl, ab e rfl, ab e rfl, ab e rfl, ab e rfl, ab e rfl, ab e rfl, ab e rfl, ab e rfl, ab e rfl, ab e rfl, ab e rfl, fun z => absurd e (z.2.2.2.2.2.2.2.2.2.2.2.2.2.1)⟩
theorem hd_firstUnlike {d : Nat} (hL : gL G < 100000) (hi : i + 6 ≤ gL G) (e : gx G i &&& 63 = (14 : Int32)) (hw : wp G (d + 1) mL_law 674 [(0, .retAddr sc), (1, .ref 0), (2, .ref 57), (3, .int (nI i))] [] h fin Q) : wp G (d + 1) mL_law 18 [(0, .retAddr sc), (1, .ref 0), (2, .ref 57), (3, .int (nI i))] [] h fin Q := by
  refine vL_law_18 ⟨fun q => absurd ((law_end hL (by omega)).mp q) (by omega), fun _ => ⟨(inL_of hL hi).1, ?_⟩⟩
  rw [nI_c (by omega)]
  exact ⟨ab e rfl, ab e rfl, ab e rfl, ab e rfl, ab e rfl, ab e rfl, ab e rfl, ab e rfl, ab e rfl, ab e rfl, ab e rfl, ab e rfl, ab e rfl, ab e rfl, fun _ => hw, ab e rfl, ab e rfl, ab e rfl, ab e rfl, ab e rfl, ab e rfl, ab e rfl, ab e rfl, ab e rfl, ab e rfl, ab e rfl, ab e rfl, ab e rfl, ab e rfl, ab e rfl, ab e rfl, ab e rfl, ab e rfl, ab e rfl, ab e rfl, ab e rfl, ab e rfl, ab e rfl, ab e rfl, ab e rfl, ab e rfl, fun z => absurd e (z.2.2.2.2.2.2.2.2.2.2.2.2.2.2.1)⟩
theorem hd_price {d : Nat} (hL : gL G < 100000) (hi : i + 6 ≤ gL G) (e : gx G i &&& 63 = (15 : Int32)) (hw : wp G (d + 1) mL_law 717 [(0, .retAddr sc), (1, .ref 0), (2, .ref 57), (3, .int (nI i))] [] h fin Q) : wp G (d + 1) mL_law 18 [(0, .retAddr sc), (1, .ref 0), (2, .ref 57), (3, .int (nI i))] [] h fin Q := by
  refine vL_law_18 ⟨fun q => absurd ((law_end hL (by omega)).mp q) (by omega), fun _ => ⟨(inL_of hL hi).1, ?_⟩⟩
  rw [nI_c (by omega)]
  exact ⟨ab e rfl, ab e rfl, ab e rfl, ab e rfl, ab e rfl, ab e rfl, ab e rfl, ab e rfl, ab e rfl, ab e rfl, ab e rfl, ab e rfl, ab e rfl, ab e rfl, ab e rfl, fun _ => hw, ab e rfl, ab e rfl, ab e rfl, ab e rfl, ab e rfl, ab e rfl, ab e rfl, ab e rfl, ab e rfl, ab e rfl, ab e rfl, ab e rfl, ab e rfl, ab e rfl, ab e rfl, ab e rfl, ab e rfl, ab e rfl, ab e rfl, ab e rfl, ab e rfl, ab e rfl, ab e rfl, ab e rfl, ab e rfl, fun z => absurd e (z.2.2.2.2.2.2.2.2.2.2.2.2.2.2.2.1)⟩
theorem hd_putPrice {d : Nat} (hL : gL G < 100000) (hi : i + 6 ≤ gL G) (e : gx G i &&& 63 = (16 : Int32)) (hw : wp G (d + 1) mL_law 760 [(0, .retAddr sc), (1, .ref 0), (2, .ref 57), (3, .int (nI i))] [] h fin Q) : wp G (d + 1) mL_law 18 [(0, .retAddr sc), (1, .ref 0), (2, .ref 57), (3, .int (nI i))] [] h fin Q := by
  refine vL_law_18 ⟨fun q => absurd ((law_end hL (by omega)).mp q) (by omega), fun _ => ⟨(inL_of hL hi).1, ?_⟩⟩
  rw [nI_c (by omega)]
  exact ⟨ab e rfl, ab e rfl, ab e rfl, ab e rfl, ab e rfl, ab e rfl, ab e rfl, ab e rfl, ab e rfl, ab e rfl, ab e rfl, ab e rfl, ab e rfl, ab e rfl, ab e rfl, ab e rfl, fun _ => hw, ab e rfl, ab e rfl, ab e rfl, ab e rfl, ab e rfl, ab e rfl, ab e rfl, ab e rfl, ab e rfl, ab e rfl, ab e rfl, ab e rfl, ab e rfl, ab e rfl, ab e rfl, ab e rfl, ab e rfl, ab e rfl, ab e rfl, ab e rfl, ab e rfl, ab e rfl, ab e rfl, ab e rfl, fun z => absurd e (z.2.2.2.2.2.2.2.2.2.2.2.2.2.2.2.2.1)⟩
theorem hd_plan {d : Nat} (hL : gL G < 100000) (hi : i + 6 ≤ gL G) (e : gx G i &&& 63 = (17 : Int32)) (hw : wp G (d + 1) mL_law 793 [(0, .retAddr sc), (1, .ref 0), (2, .ref 57), (3, .int (nI i))] [] h fin Q) : wp G (d + 1) mL_law 18 [(0, .retAddr sc), (1, .ref 0), (2, .ref 57), (3, .int (nI i))] [] h fin Q := by
  refine vL_law_18 ⟨fun q => absurd ((law_end hL (by omega)).mp q) (by omega), fun _ => ⟨(inL_of hL hi).1, ?_⟩⟩
  rw [nI_c (by omega)]
  exact ⟨ab e rfl, ab e rfl, ab e rfl, ab e rfl, ab e rfl, ab e rfl, ab e rfl, ab e rfl, ab e rfl, ab e rfl, ab e rfl, ab e rfl, ab e rfl, ab e rfl, ab e rfl, ab e rfl, ab e rfl, fun _ => hw, ab e rfl, ab e rfl, ab e rfl, ab e rfl, ab e rfl, ab e rfl, ab e rfl, ab e rfl, ab e rfl, ab e rfl, ab e rfl, ab e rfl, ab e rfl, ab e rfl, ab e rfl, ab e rfl, ab e rfl, ab e rfl, ab e rfl, ab e rfl, ab e rfl, ab e rfl, ab e rfl, fun z => absurd e (z.2.2.2.2.2.2.2.2.2.2.2.2.2.2.2.2.2.1)⟩
theorem hd_leastPlan {d : Nat} (hL : gL G < 100000) (hi : i + 6 ≤ gL G) (e : gx G i &&& 63 = (18 : Int32)) (hw : wp G (d + 1) mL_law 836 [(0, .retAddr sc), (1, .ref 0), (2, .ref 57), (3, .int (nI i))] [] h fin Q) : wp G (d + 1) mL_law 18 [(0, .retAddr sc), (1, .ref 0), (2, .ref 57), (3, .int (nI i))] [] h fin Q := by
  refine vL_law_18 ⟨fun q => absurd ((law_end hL (by omega)).mp q) (by omega), fun _ => ⟨(inL_of hL hi).1, ?_⟩⟩
  rw [nI_c (by omega)]
  exact ⟨ab e rfl, ab e rfl, ab e rfl, ab e rfl, ab e rfl, ab e rfl, ab e rfl, ab e rfl, ab e rfl, ab e rfl, ab e rfl, ab e rfl, ab e rfl, ab e rfl, ab e rfl, ab e rfl, ab e rfl, ab e rfl, fun _ => hw, ab e rfl, ab e rfl, ab e rfl, ab e rfl, ab e rfl, ab e rfl, ab e rfl, ab e rfl, ab e rfl, ab e rfl, ab e rfl, ab e rfl, ab e rfl, ab e rfl, ab e rfl, ab e rfl, ab e rfl, ab e rfl, ab e rfl, ab e rfl, ab e rfl, ab e rfl, fun z => absurd e (z.2.2.2.2.2.2.2.2.2.2.2.2.2.2.2.2.2.2.1)⟩
theorem hd_goesThrough {d : Nat} (hL : gL G < 100000) (hi : i + 6 ≤ gL G) (e : gx G i &&& 63 = (19 : Int32)) (hw : wp G (d + 1) mL_law 879 [(0, .retAddr sc), (1, .ref 0), (2, .ref 57), (3, .int (nI i))] [] h fin Q) : wp G (d + 1) mL_law 18 [(0, .retAddr sc), (1, .ref 0), (2, .ref 57), (3, .int (nI i))] [] h fin Q := by
  refine vL_law_18 ⟨fun q => absurd ((law_end hL (by omega)).mp q) (by omega), fun _ => ⟨(inL_of hL hi).1, ?_⟩⟩
  rw [nI_c (by omega)]
  exact ⟨ab e rfl, ab e rfl, ab e rfl, ab e rfl, ab e rfl, ab e rfl, ab e rfl, ab e rfl, ab e rfl, ab e rfl, ab e rfl, ab e rfl, ab e rfl, ab e rfl, ab e rfl, ab e rfl, ab e rfl, ab e rfl, ab e rfl, fun _ => hw, ab e rfl, ab e rfl, ab e rfl, ab e rfl, ab e rfl, ab e rfl, ab e rfl, ab e rfl, ab e rfl, ab e rfl, ab e rfl, ab e rfl, ab e rfl, ab e rfl, ab e rfl, ab e rfl, ab e rfl, ab e rfl, ab e rfl, ab e rfl, ab e rfl, fun z => absurd e (z.2.2.2.2.2.2.2.2.2.2.2.2.2.2.2.2.2.2.2.1)⟩
theorem hd_drift {d : Nat} (hL : gL G < 100000) (hi : i + 6 ≤ gL G) (e : gx G i &&& 63 = (20 : Int32)) (hw : wp G (d + 1) mL_law 922 [(0, .retAddr sc), (1, .ref 0), (2, .ref 57), (3, .int (nI i))] [] h fin Q) : wp G (d + 1) mL_law 18 [(0, .retAddr sc), (1, .ref 0), (2, .ref 57), (3, .int (nI i))] [] h fin Q := by
  refine vL_law_18 ⟨fun q => absurd ((law_end hL (by omega)).mp q) (by omega), fun _ => ⟨(inL_of hL hi).1, ?_⟩⟩
  rw [nI_c (by omega)]
  exact ⟨ab e rfl, ab e rfl, ab e rfl, ab e rfl, ab e rfl, ab e rfl, ab e rfl, ab e rfl, ab e rfl, ab e rfl, ab e rfl, ab e rfl, ab e rfl, ab e rfl, ab e rfl, ab e rfl, ab e rfl, ab e rfl, ab e rfl, ab e rfl, fun _ => hw, ab e rfl, ab e rfl, ab e rfl, ab e rfl, ab e rfl, ab e rfl, ab e rfl, ab e rfl, ab e rfl, ab e rfl, ab e rfl, ab e rfl, ab e rfl, ab e rfl, ab e rfl, ab e rfl, ab e rfl, ab e rfl, ab e rfl, ab e rfl, fun z => absurd e (z.2.2.2.2.2.2.2.2.2.2.2.2.2.2.2.2.2.2.2.2.1)⟩
theorem hd_drifted {d : Nat} (hL : gL G < 100000) (hi : i + 6 ≤ gL G) (e : gx G i &&& 63 = (21 : Int32)) (hw : wp G (d + 1) mL_law 955 [(0, .retAddr sc), (1, .ref 0), (2, .ref 57), (3, .int (nI i))] [] h fin Q) : wp G (d + 1) mL_law 18 [(0, .retAddr sc), (1, .ref 0), (2, .ref 57), (3, .int (nI i))] [] h fin Q := by
  refine vL_law_18 ⟨fun q => absurd ((law_end hL (by omega)).mp q) (by omega), fun _ => ⟨(inL_of hL hi).1, ?_⟩⟩
  rw [nI_c (by omega)]
  exact ⟨ab e rfl, ab e rfl, ab e rfl, ab e rfl, ab e rfl, ab e rfl, ab e rfl, ab e rfl, ab e rfl, ab e rfl, ab e rfl, ab e rfl, ab e rfl, ab e rfl, ab e rfl, ab e rfl, ab e rfl, ab e rfl, ab e rfl, ab e rfl, ab e rfl, fun _ => hw, ab e rfl, ab e rfl, ab e rfl, ab e rfl, ab e rfl, ab e rfl, ab e rfl, ab e rfl, ab e rfl, ab e rfl, ab e rfl, ab e rfl, ab e rfl, ab e rfl, ab e rfl, ab e rfl, ab e rfl, ab e rfl, ab e rfl, fun z => absurd e (z.2.2.2.2.2.2.2.2.2.2.2.2.2.2.2.2.2.2.2.2.2.1)⟩
theorem hd_undrift {d : Nat} (hL : gL G < 100000) (hi : i + 6 ≤ gL G) (e : gx G i &&& 63 = (22 : Int32)) (hw : wp G (d + 1) mL_law 988 [(0, .retAddr sc), (1, .ref 0), (2, .ref 57), (3, .int (nI i))] [] h fin Q) : wp G (d + 1) mL_law 18 [(0, .retAddr sc), (1, .ref 0), (2, .ref 57), (3, .int (nI i))] [] h fin Q := by
  refine vL_law_18 ⟨fun q => absurd ((law_end hL (by omega)).mp q) (by omega), fun _ => ⟨(inL_of hL hi).1, ?_⟩⟩
  rw [nI_c (by omega)]
  exact ⟨ab e rfl, ab e rfl, ab e rfl, ab e rfl, ab e rfl, ab e rfl, ab e rfl, ab e rfl, ab e rfl, ab e rfl, ab e rfl, ab e rfl, ab e rfl, ab e rfl, ab e rfl, ab e rfl, ab e rfl, ab e rfl, ab e rfl, ab e rfl, ab e rfl, ab e rfl, fun _ => hw, ab e rfl, ab e rfl, ab e rfl, ab e rfl, ab e rfl, ab e rfl, ab e rfl, ab e rfl, ab e rfl, ab e rfl, ab e rfl, ab e rfl, ab e rfl, ab e rfl, ab e rfl, ab e rfl, ab e rfl, ab e rfl, fun z => absurd e (z.2.2.2.2.2.2.2.2.2.2.2.2.2.2.2.2.2.2.2.2.2.2.1)⟩
theorem hd_cell {d : Nat} (hL : gL G < 100000) (hi : i + 6 ≤ gL G) (e : gx G i &&& 63 = (23 : Int32)) (hw : wp G (d + 1) mL_law 1001 [(0, .retAddr sc), (1, .ref 0), (2, .ref 57), (3, .int (nI i))] [] h fin Q) : wp G (d + 1) mL_law 18 [(0, .retAddr sc), (1, .ref 0), (2, .ref 57), (3, .int (nI i))] [] h fin Q := by
  refine vL_law_18 ⟨fun q => absurd ((law_end hL (by omega)).mp q) (by omega), fun _ => ⟨(inL_of hL hi).1, ?_⟩⟩
  rw [nI_c (by omega)]
  exact ⟨ab e rfl, ab e rfl, ab e rfl, ab e rfl, ab e rfl, ab e rfl, ab e rfl, ab e rfl, ab e rfl, ab e rfl, ab e rfl, ab e rfl, ab e rfl, ab e rfl, ab e rfl, ab e rfl, ab e rfl, ab e rfl, ab e rfl, ab e rfl, ab e rfl, ab e rfl, ab e rfl, fun _ => hw, ab e rfl, ab e rfl, ab e rfl, ab e rfl, ab e rfl, ab e rfl, ab e rfl, ab e rfl, ab e rfl, ab e rfl, ab e rfl, ab e rfl, ab e rfl, ab e rfl, ab e rfl, ab e rfl, ab e rfl, fun z => absurd e (z.2.2.2.2.2.2.2.2.2.2.2.2.2.2.2.2.2.2.2.2.2.2.2.1)⟩
theorem hd_misses {d : Nat} (hL : gL G < 100000) (hi : i + 6 ≤ gL G) (e : gx G i &&& 63 = (24 : Int32)) (hw : wp G (d + 1) mL_law 1024 [(0, .retAddr sc), (1, .ref 0), (2, .ref 57), (3, .int (nI i))] [] h fin Q) : wp G (d + 1) mL_law 18 [(0, .retAddr sc), (1, .ref 0), (2, .ref 57), (3, .int (nI i))] [] h fin Q := by
  refine vL_law_18 ⟨fun q => absurd ((law_end hL (by omega)).mp q) (by omega), fun _ => ⟨(inL_of hL hi).1, ?_⟩⟩
  rw [nI_c (by omega)]
  exact ⟨ab e rfl, ab e rfl, ab e rfl, ab e rfl, ab e rfl, ab e rfl, ab e rfl, ab e rfl, ab e rfl, ab e rfl, ab e rfl, ab e rfl, ab e rfl, ab e rfl, ab e rfl, ab e rfl, ab e rfl, ab e rfl, ab e rfl, ab e rfl, ab e rfl, ab e rfl, ab e rfl, ab e rfl, fun _ => hw, ab e rfl, ab e rfl, ab e rfl, ab e rfl, ab e rfl, ab e rfl, ab e rfl, ab e rfl, ab e rfl, ab e rfl, ab e rfl, ab e rfl, ab e rfl, ab e rfl, ab e rfl, ab e rfl, fun z => absurd e (z.2.2.2.2.2.2.2.2.2.2.2.2.2.2.2.2.2.2.2.2.2.2.2.2.1)⟩
theorem hd_uncell {d : Nat} (hL : gL G < 100000) (hi : i + 6 ≤ gL G) (e : gx G i &&& 63 = (25 : Int32)) (hw : wp G (d + 1) mL_law 1067 [(0, .retAddr sc), (1, .ref 0), (2, .ref 57), (3, .int (nI i))] [] h fin Q) : wp G (d + 1) mL_law 18 [(0, .retAddr sc), (1, .ref 0), (2, .ref 57), (3, .int (nI i))] [] h fin Q := by
  refine vL_law_18 ⟨fun q => absurd ((law_end hL (by omega)).mp q) (by omega), fun _ => ⟨(inL_of hL hi).1, ?_⟩⟩
  rw [nI_c (by omega)]
  exact ⟨ab e rfl, ab e rfl, ab e rfl, ab e rfl, ab e rfl, ab e rfl, ab e rfl, ab e rfl, ab e rfl, ab e rfl, ab e rfl, ab e rfl, ab e rfl, ab e rfl, ab e rfl, ab e rfl, ab e rfl, ab e rfl, ab e rfl, ab e rfl, ab e rfl, ab e rfl, ab e rfl, ab e rfl, ab e rfl, fun _ => hw, ab e rfl, ab e rfl, ab e rfl, ab e rfl, ab e rfl, ab e rfl, ab e rfl, ab e rfl, ab e rfl, ab e rfl, ab e rfl, ab e rfl, ab e rfl, ab e rfl, ab e rfl, fun z => absurd e (z.2.2.2.2.2.2.2.2.2.2.2.2.2.2.2.2.2.2.2.2.2.2.2.2.2.1)⟩
theorem hd_key {d : Nat} (hL : gL G < 100000) (hi : i + 6 ≤ gL G) (e : gx G i &&& 63 = (26 : Int32)) (hw : wp G (d + 1) mL_law 1080 [(0, .retAddr sc), (1, .ref 0), (2, .ref 57), (3, .int (nI i))] [] h fin Q) : wp G (d + 1) mL_law 18 [(0, .retAddr sc), (1, .ref 0), (2, .ref 57), (3, .int (nI i))] [] h fin Q := by
  refine vL_law_18 ⟨fun q => absurd ((law_end hL (by omega)).mp q) (by omega), fun _ => ⟨(inL_of hL hi).1, ?_⟩⟩
  rw [nI_c (by omega)]
  exact ⟨ab e rfl, ab e rfl, ab e rfl, ab e rfl, ab e rfl, ab e rfl, ab e rfl, ab e rfl, ab e rfl, ab e rfl, ab e rfl, ab e rfl, ab e rfl, ab e rfl, ab e rfl, ab e rfl, ab e rfl, ab e rfl, ab e rfl, ab e rfl, ab e rfl, ab e rfl, ab e rfl, ab e rfl, ab e rfl, ab e rfl, fun _ => hw, ab e rfl, ab e rfl, ab e rfl, ab e rfl, ab e rfl, ab e rfl, ab e rfl, ab e rfl, ab e rfl, ab e rfl, ab e rfl, ab e rfl, ab e rfl, ab e rfl, fun z => absurd e (z.2.2.2.2.2.2.2.2.2.2.2.2.2.2.2.2.2.2.2.2.2.2.2.2.2.2.1)⟩
theorem hd_leastLooks {d : Nat} (hL : gL G < 100000) (hi : i + 6 ≤ gL G) (e : gx G i &&& 63 = (27 : Int32)) (hw : wp G (d + 1) mL_law 1113 [(0, .retAddr sc), (1, .ref 0), (2, .ref 57), (3, .int (nI i))] [] h fin Q) : wp G (d + 1) mL_law 18 [(0, .retAddr sc), (1, .ref 0), (2, .ref 57), (3, .int (nI i))] [] h fin Q := by
  refine vL_law_18 ⟨fun q => absurd ((law_end hL (by omega)).mp q) (by omega), fun _ => ⟨(inL_of hL hi).1, ?_⟩⟩
  rw [nI_c (by omega)]
  exact ⟨ab e rfl, ab e rfl, ab e rfl, ab e rfl, ab e rfl, ab e rfl, ab e rfl, ab e rfl, ab e rfl, ab e rfl, ab e rfl, ab e rfl, ab e rfl, ab e rfl, ab e rfl, ab e rfl, ab e rfl, ab e rfl, ab e rfl, ab e rfl, ab e rfl, ab e rfl, ab e rfl, ab e rfl, ab e rfl, ab e rfl, ab e rfl, fun _ => hw, ab e rfl, ab e rfl, ab e rfl, ab e rfl, ab e rfl, ab e rfl, ab e rfl, ab e rfl, ab e rfl, ab e rfl, ab e rfl, ab e rfl, ab e rfl, fun z => absurd e (z.2.2.2.2.2.2.2.2.2.2.2.2.2.2.2.2.2.2.2.2.2.2.2.2.2.2.2.1)⟩
theorem hd_root {d : Nat} (hL : gL G < 100000) (hi : i + 6 ≤ gL G) (e : gx G i &&& 63 = (28 : Int32)) (hw : wp G (d + 1) mL_law 1136 [(0, .retAddr sc), (1, .ref 0), (2, .ref 57), (3, .int (nI i))] [] h fin Q) : wp G (d + 1) mL_law 18 [(0, .retAddr sc), (1, .ref 0), (2, .ref 57), (3, .int (nI i))] [] h fin Q := by
  refine vL_law_18 ⟨fun q => absurd ((law_end hL (by omega)).mp q) (by omega), fun _ => ⟨(inL_of hL hi).1, ?_⟩⟩
  rw [nI_c (by omega)]
  exact ⟨ab e rfl, ab e rfl, ab e rfl, ab e rfl, ab e rfl, ab e rfl, ab e rfl, ab e rfl, ab e rfl, ab e rfl, ab e rfl, ab e rfl, ab e rfl, ab e rfl, ab e rfl, ab e rfl, ab e rfl, ab e rfl, ab e rfl, ab e rfl, ab e rfl, ab e rfl, ab e rfl, ab e rfl, ab e rfl, ab e rfl, ab e rfl, ab e rfl, fun _ => hw, ab e rfl, ab e rfl, ab e rfl, ab e rfl, ab e rfl, ab e rfl, ab e rfl, ab e rfl, ab e rfl, ab e rfl, ab e rfl, ab e rfl, fun z => absurd e (z.2.2.2.2.2.2.2.2.2.2.2.2.2.2.2.2.2.2.2.2.2.2.2.2.2.2.2.2.1)⟩
theorem hd_walk {d : Nat} (hL : gL G < 100000) (hi : i + 6 ≤ gL G) (e : gx G i &&& 63 = (29 : Int32)) (hw : wp G (d + 1) mL_law 1149 [(0, .retAddr sc), (1, .ref 0), (2, .ref 57), (3, .int (nI i))] [] h fin Q) : wp G (d + 1) mL_law 18 [(0, .retAddr sc), (1, .ref 0), (2, .ref 57), (3, .int (nI i))] [] h fin Q := by
  refine vL_law_18 ⟨fun q => absurd ((law_end hL (by omega)).mp q) (by omega), fun _ => ⟨(inL_of hL hi).1, ?_⟩⟩
  rw [nI_c (by omega)]
  exact ⟨ab e rfl, ab e rfl, ab e rfl, ab e rfl, ab e rfl, ab e rfl, ab e rfl, ab e rfl, ab e rfl, ab e rfl, ab e rfl, ab e rfl, ab e rfl, ab e rfl, ab e rfl, ab e rfl, ab e rfl, ab e rfl, ab e rfl, ab e rfl, ab e rfl, ab e rfl, ab e rfl, ab e rfl, ab e rfl, ab e rfl, ab e rfl, ab e rfl, ab e rfl, fun _ => hw, ab e rfl, ab e rfl, ab e rfl, ab e rfl, ab e rfl, ab e rfl, ab e rfl, ab e rfl, ab e rfl, ab e rfl, ab e rfl, fun z => absurd e (z.2.2.2.2.2.2.2.2.2.2.2.2.2.2.2.2.2.2.2.2.2.2.2.2.2.2.2.2.2.1)⟩
theorem hd_next {d : Nat} (hL : gL G < 100000) (hi : i + 6 ≤ gL G) (e : gx G i &&& 63 = (30 : Int32)) (hw : wp G (d + 1) mL_law 1172 [(0, .retAddr sc), (1, .ref 0), (2, .ref 57), (3, .int (nI i))] [] h fin Q) : wp G (d + 1) mL_law 18 [(0, .retAddr sc), (1, .ref 0), (2, .ref 57), (3, .int (nI i))] [] h fin Q := by
  refine vL_law_18 ⟨fun q => absurd ((law_end hL (by omega)).mp q) (by omega), fun _ => ⟨(inL_of hL hi).1, ?_⟩⟩
  rw [nI_c (by omega)]
  exact ⟨ab e rfl, ab e rfl, ab e rfl, ab e rfl, ab e rfl, ab e rfl, ab e rfl, ab e rfl, ab e rfl, ab e rfl, ab e rfl, ab e rfl, ab e rfl, ab e rfl, ab e rfl, ab e rfl, ab e rfl, ab e rfl, ab e rfl, ab e rfl, ab e rfl, ab e rfl, ab e rfl, ab e rfl, ab e rfl, ab e rfl, ab e rfl, ab e rfl, ab e rfl, ab e rfl, fun _ => hw, ab e rfl, ab e rfl, ab e rfl, ab e rfl, ab e rfl, ab e rfl, ab e rfl, ab e rfl, ab e rfl, ab e rfl, fun z => absurd e (z.2.2.2.2.2.2.2.2.2.2.2.2.2.2.2.2.2.2.2.2.2.2.2.2.2.2.2.2.2.2.1)⟩
theorem hd_act {d : Nat} (hL : gL G < 100000) (hi : i + 6 ≤ gL G) (e : gx G i &&& 63 = (31 : Int32)) (hw : wp G (d + 1) mL_law 1195 [(0, .retAddr sc), (1, .ref 0), (2, .ref 57), (3, .int (nI i))] [] h fin Q) : wp G (d + 1) mL_law 18 [(0, .retAddr sc), (1, .ref 0), (2, .ref 57), (3, .int (nI i))] [] h fin Q := by
  refine vL_law_18 ⟨fun q => absurd ((law_end hL (by omega)).mp q) (by omega), fun _ => ⟨(inL_of hL hi).1, ?_⟩⟩
  rw [nI_c (by omega)]
  exact ⟨ab e rfl, ab e rfl, ab e rfl, ab e rfl, ab e rfl, ab e rfl, ab e rfl, ab e rfl, ab e rfl, ab e rfl, ab e rfl, ab e rfl, ab e rfl, ab e rfl, ab e rfl, ab e rfl, ab e rfl, ab e rfl, ab e rfl, ab e rfl, ab e rfl, ab e rfl, ab e rfl, ab e rfl, ab e rfl, ab e rfl, ab e rfl, ab e rfl, ab e rfl, ab e rfl, ab e rfl, fun _ => hw, ab e rfl, ab e rfl, ab e rfl, ab e rfl, ab e rfl, ab e rfl, ab e rfl, ab e rfl, ab e rfl, fun z => absurd e (z.2.2.2.2.2.2.2.2.2.2.2.2.2.2.2.2.2.2.2.2.2.2.2.2.2.2.2.2.2.2.2.1)⟩
theorem hd_trace {d : Nat} (hL : gL G < 100000) (hi : i + 6 ≤ gL G) (e : gx G i &&& 63 = (32 : Int32)) (hw : wp G (d + 1) mL_law 1238 [(0, .retAddr sc), (1, .ref 0), (2, .ref 57), (3, .int (nI i))] [] h fin Q) : wp G (d + 1) mL_law 18 [(0, .retAddr sc), (1, .ref 0), (2, .ref 57), (3, .int (nI i))] [] h fin Q := by
  refine vL_law_18 ⟨fun q => absurd ((law_end hL (by omega)).mp q) (by omega), fun _ => ⟨(inL_of hL hi).1, ?_⟩⟩
  rw [nI_c (by omega)]
  exact ⟨ab e rfl, ab e rfl, ab e rfl, ab e rfl, ab e rfl, ab e rfl, ab e rfl, ab e rfl, ab e rfl, ab e rfl, ab e rfl, ab e rfl, ab e rfl, ab e rfl, ab e rfl, ab e rfl, ab e rfl, ab e rfl, ab e rfl, ab e rfl, ab e rfl, ab e rfl, ab e rfl, ab e rfl, ab e rfl, ab e rfl, ab e rfl, ab e rfl, ab e rfl, ab e rfl, ab e rfl, ab e rfl, fun _ => hw, ab e rfl, ab e rfl, ab e rfl, ab e rfl, ab e rfl, ab e rfl, ab e rfl, ab e rfl, fun z => absurd e (z.2.2.2.2.2.2.2.2.2.2.2.2.2.2.2.2.2.2.2.2.2.2.2.2.2.2.2.2.2.2.2.2.1)⟩
theorem hd_keep {d : Nat} (hL : gL G < 100000) (hi : i + 6 ≤ gL G) (e : gx G i &&& 63 = (33 : Int32)) (hw : wp G (d + 1) mL_law 1261 [(0, .retAddr sc), (1, .ref 0), (2, .ref 57), (3, .int (nI i))] [] h fin Q) : wp G (d + 1) mL_law 18 [(0, .retAddr sc), (1, .ref 0), (2, .ref 57), (3, .int (nI i))] [] h fin Q := by
  refine vL_law_18 ⟨fun q => absurd ((law_end hL (by omega)).mp q) (by omega), fun _ => ⟨(inL_of hL hi).1, ?_⟩⟩
  rw [nI_c (by omega)]
  exact ⟨ab e rfl, ab e rfl, ab e rfl, ab e rfl, ab e rfl, ab e rfl, ab e rfl, ab e rfl, ab e rfl, ab e rfl, ab e rfl, ab e rfl, ab e rfl, ab e rfl, ab e rfl, ab e rfl, ab e rfl, ab e rfl, ab e rfl, ab e rfl, ab e rfl, ab e rfl, ab e rfl, ab e rfl, ab e rfl, ab e rfl, ab e rfl, ab e rfl, ab e rfl, ab e rfl, ab e rfl, ab e rfl, ab e rfl, fun _ => hw, ab e rfl, ab e rfl, ab e rfl, ab e rfl, ab e rfl, ab e rfl, ab e rfl, fun z => absurd e (z.2.2.2.2.2.2.2.2.2.2.2.2.2.2.2.2.2.2.2.2.2.2.2.2.2.2.2.2.2.2.2.2.2.1)⟩
theorem hd_row {d : Nat} (hL : gL G < 100000) (hi : i + 6 ≤ gL G) (e : gx G i &&& 63 = (34 : Int32)) (hw : wp G (d + 1) mL_law 1294 [(0, .retAddr sc), (1, .ref 0), (2, .ref 57), (3, .int (nI i))] [] h fin Q) : wp G (d + 1) mL_law 18 [(0, .retAddr sc), (1, .ref 0), (2, .ref 57), (3, .int (nI i))] [] h fin Q := by
  refine vL_law_18 ⟨fun q => absurd ((law_end hL (by omega)).mp q) (by omega), fun _ => ⟨(inL_of hL hi).1, ?_⟩⟩
  rw [nI_c (by omega)]
  exact ⟨ab e rfl, ab e rfl, ab e rfl, ab e rfl, ab e rfl, ab e rfl, ab e rfl, ab e rfl, ab e rfl, ab e rfl, ab e rfl, ab e rfl, ab e rfl, ab e rfl, ab e rfl, ab e rfl, ab e rfl, ab e rfl, ab e rfl, ab e rfl, ab e rfl, ab e rfl, ab e rfl, ab e rfl, ab e rfl, ab e rfl, ab e rfl, ab e rfl, ab e rfl, ab e rfl, ab e rfl, ab e rfl, ab e rfl, ab e rfl, fun _ => hw, ab e rfl, ab e rfl, ab e rfl, ab e rfl, ab e rfl, ab e rfl, fun z => absurd e (z.2.2.2.2.2.2.2.2.2.2.2.2.2.2.2.2.2.2.2.2.2.2.2.2.2.2.2.2.2.2.2.2.2.2.1)⟩
theorem hd_set {d : Nat} (hL : gL G < 100000) (hi : i + 6 ≤ gL G) (e : gx G i &&& 63 = (35 : Int32)) (hw : wp G (d + 1) mL_law 1337 [(0, .retAddr sc), (1, .ref 0), (2, .ref 57), (3, .int (nI i))] [] h fin Q) : wp G (d + 1) mL_law 18 [(0, .retAddr sc), (1, .ref 0), (2, .ref 57), (3, .int (nI i))] [] h fin Q := by
  refine vL_law_18 ⟨fun q => absurd ((law_end hL (by omega)).mp q) (by omega), fun _ => ⟨(inL_of hL hi).1, ?_⟩⟩
  rw [nI_c (by omega)]
  exact ⟨ab e rfl, ab e rfl, ab e rfl, ab e rfl, ab e rfl, ab e rfl, ab e rfl, ab e rfl, ab e rfl, ab e rfl, ab e rfl, ab e rfl, ab e rfl, ab e rfl, ab e rfl, ab e rfl, ab e rfl, ab e rfl, ab e rfl, ab e rfl, ab e rfl, ab e rfl, ab e rfl, ab e rfl, ab e rfl, ab e rfl, ab e rfl, ab e rfl, ab e rfl, ab e rfl, ab e rfl, ab e rfl, ab e rfl, ab e rfl, ab e rfl, fun _ => hw, ab e rfl, ab e rfl, ab e rfl, ab e rfl, ab e rfl, fun z => absurd e (z.2.2.2.2.2.2.2.2.2.2.2.2.2.2.2.2.2.2.2.2.2.2.2.2.2.2.2.2.2.2.2.2.2.2.2.1)⟩
theorem hd_element {d : Nat} (hL : gL G < 100000) (hi : i + 6 ≤ gL G) (e : gx G i &&& 63 = (36 : Int32)) (hw : wp G (d + 1) mL_law 1410 [(0, .retAddr sc), (1, .ref 0), (2, .ref 57), (3, .int (nI i))] [] h fin Q) : wp G (d + 1) mL_law 18 [(0, .retAddr sc), (1, .ref 0), (2, .ref 57), (3, .int (nI i))] [] h fin Q := by
  refine vL_law_18 ⟨fun q => absurd ((law_end hL (by omega)).mp q) (by omega), fun _ => ⟨(inL_of hL hi).1, ?_⟩⟩
  rw [nI_c (by omega)]
  exact ⟨ab e rfl, ab e rfl, ab e rfl, ab e rfl, ab e rfl, ab e rfl, ab e rfl, ab e rfl, ab e rfl, ab e rfl, ab e rfl, ab e rfl, ab e rfl, ab e rfl, ab e rfl, ab e rfl, ab e rfl, ab e rfl, ab e rfl, ab e rfl, ab e rfl, ab e rfl, ab e rfl, ab e rfl, ab e rfl, ab e rfl, ab e rfl, ab e rfl, ab e rfl, ab e rfl, ab e rfl, ab e rfl, ab e rfl, ab e rfl, ab e rfl, ab e rfl, fun _ => hw, ab e rfl, ab e rfl, ab e rfl, ab e rfl, fun z => absurd e (z.2.2.2.2.2.2.2.2.2.2.2.2.2.2.2.2.2.2.2.2.2.2.2.2.2.2.2.2.2.2.2.2.2.2.2.2.1)⟩
theorem hd_shift {d : Nat} (hL : gL G < 100000) (hi : i + 6 ≤ gL G) (e : gx G i &&& 63 = (37 : Int32)) (hw : wp G (d + 1) mL_law 1444 [(0, .retAddr sc), (1, .ref 0), (2, .ref 57), (3, .int (nI i))] [] h fin Q) : wp G (d + 1) mL_law 18 [(0, .retAddr sc), (1, .ref 0), (2, .ref 57), (3, .int (nI i))] [] h fin Q := by
  refine vL_law_18 ⟨fun q => absurd ((law_end hL (by omega)).mp q) (by omega), fun _ => ⟨(inL_of hL hi).1, ?_⟩⟩
  rw [nI_c (by omega)]
  exact ⟨ab e rfl, ab e rfl, ab e rfl, ab e rfl, ab e rfl, ab e rfl, ab e rfl, ab e rfl, ab e rfl, ab e rfl, ab e rfl, ab e rfl, ab e rfl, ab e rfl, ab e rfl, ab e rfl, ab e rfl, ab e rfl, ab e rfl, ab e rfl, ab e rfl, ab e rfl, ab e rfl, ab e rfl, ab e rfl, ab e rfl, ab e rfl, ab e rfl, ab e rfl, ab e rfl, ab e rfl, ab e rfl, ab e rfl, ab e rfl, ab e rfl, ab e rfl, ab e rfl, fun _ => hw, ab e rfl, ab e rfl, ab e rfl, fun z => absurd e (z.2.2.2.2.2.2.2.2.2.2.2.2.2.2.2.2.2.2.2.2.2.2.2.2.2.2.2.2.2.2.2.2.2.2.2.2.2.1)⟩
theorem hd_taken {d : Nat} (hL : gL G < 100000) (hi : i + 6 ≤ gL G) (e : gx G i &&& 63 = (38 : Int32)) (hw : wp G (d + 1) mL_law 1507 [(0, .retAddr sc), (1, .ref 0), (2, .ref 57), (3, .int (nI i))] [] h fin Q) : wp G (d + 1) mL_law 18 [(0, .retAddr sc), (1, .ref 0), (2, .ref 57), (3, .int (nI i))] [] h fin Q := by
  refine vL_law_18 ⟨fun q => absurd ((law_end hL (by omega)).mp q) (by omega), fun _ => ⟨(inL_of hL hi).1, ?_⟩⟩
  rw [nI_c (by omega)]
  exact ⟨ab e rfl, ab e rfl, ab e rfl, ab e rfl, ab e rfl, ab e rfl, ab e rfl, ab e rfl, ab e rfl, ab e rfl, ab e rfl, ab e rfl, ab e rfl, ab e rfl, ab e rfl, ab e rfl, ab e rfl, ab e rfl, ab e rfl, ab e rfl, ab e rfl, ab e rfl, ab e rfl, ab e rfl, ab e rfl, ab e rfl, ab e rfl, ab e rfl, ab e rfl, ab e rfl, ab e rfl, ab e rfl, ab e rfl, ab e rfl, ab e rfl, ab e rfl, ab e rfl, ab e rfl, fun _ => hw, ab e rfl, ab e rfl, fun z => absurd e (z.2.2.2.2.2.2.2.2.2.2.2.2.2.2.2.2.2.2.2.2.2.2.2.2.2.2.2.2.2.2.2.2.2.2.2.2.2.2.1)⟩
theorem hd_things {d : Nat} (hL : gL G < 100000) (hi : i + 6 ≤ gL G) (e : gx G i &&& 63 = (39 : Int32)) (hw : wp G (d + 1) mL_law 1540 [(0, .retAddr sc), (1, .ref 0), (2, .ref 57), (3, .int (nI i))] [] h fin Q) : wp G (d + 1) mL_law 18 [(0, .retAddr sc), (1, .ref 0), (2, .ref 57), (3, .int (nI i))] [] h fin Q := by
  refine vL_law_18 ⟨fun q => absurd ((law_end hL (by omega)).mp q) (by omega), fun _ => ⟨(inL_of hL hi).1, ?_⟩⟩
  rw [nI_c (by omega)]
  exact ⟨ab e rfl, ab e rfl, ab e rfl, ab e rfl, ab e rfl, ab e rfl, ab e rfl, ab e rfl, ab e rfl, ab e rfl, ab e rfl, ab e rfl, ab e rfl, ab e rfl, ab e rfl, ab e rfl, ab e rfl, ab e rfl, ab e rfl, ab e rfl, ab e rfl, ab e rfl, ab e rfl, ab e rfl, ab e rfl, ab e rfl, ab e rfl, ab e rfl, ab e rfl, ab e rfl, ab e rfl, ab e rfl, ab e rfl, ab e rfl, ab e rfl, ab e rfl, ab e rfl, ab e rfl, ab e rfl, fun _ => hw, ab e rfl, fun z => absurd e (z.2.2.2.2.2.2.2.2.2.2.2.2.2.2.2.2.2.2.2.2.2.2.2.2.2.2.2.2.2.2.2.2.2.2.2.2.2.2.2.1)⟩
theorem hd_count {d : Nat} (hL : gL G < 100000) (hi : i + 6 ≤ gL G) (e : gx G i &&& 63 = (40 : Int32)) (hw : wp G (d + 1) mL_law 1583 [(0, .retAddr sc), (1, .ref 0), (2, .ref 57), (3, .int (nI i))] [] h fin Q) : wp G (d + 1) mL_law 18 [(0, .retAddr sc), (1, .ref 0), (2, .ref 57), (3, .int (nI i))] [] h fin Q := by
  refine vL_law_18 ⟨fun q => absurd ((law_end hL (by omega)).mp q) (by omega), fun _ => ⟨(inL_of hL hi).1, ?_⟩⟩
  rw [nI_c (by omega)]
  exact ⟨ab e rfl, ab e rfl, ab e rfl, ab e rfl, ab e rfl, ab e rfl, ab e rfl, ab e rfl, ab e rfl, ab e rfl, ab e rfl, ab e rfl, ab e rfl, ab e rfl, ab e rfl, ab e rfl, ab e rfl, ab e rfl, ab e rfl, ab e rfl, ab e rfl, ab e rfl, ab e rfl, ab e rfl, ab e rfl, ab e rfl, ab e rfl, ab e rfl, ab e rfl, ab e rfl, ab e rfl, ab e rfl, ab e rfl, ab e rfl, ab e rfl, ab e rfl, ab e rfl, ab e rfl, ab e rfl, ab e rfl, fun _ => hw, fun z => absurd e (z.2.2.2.2.2.2.2.2.2.2.2.2.2.2.2.2.2.2.2.2.2.2.2.2.2.2.2.2.2.2.2.2.2.2.2.2.2.2.2.2)⟩
theorem hd_none {d : Nat} (hL : gL G < 100000) (hi : i + 6 ≤ gL G) (z : ∀ c : Int32, c ∈ ([0, 1, 2, 3, 4, 5, 6, 7, 8, 9, 10, 11, 12, 13, 14, 15, 16, 17, 18, 19, 20, 21, 22, 23, 24, 25, 26, 27, 28, 29, 30, 31, 32, 33, 34, 35, 36, 37, 38, 39, 40] : List Int32) → ¬ gx G i &&& 63 = c) (hw : wp G (d + 1) mL_law 18 [(0, .retAddr sc), (1, .ref 0), (2, .ref 57), (3, .int (nI i + 6))] [] h fin Q) : wp G (d + 1) mL_law 18 [(0, .retAddr sc), (1, .ref 0), (2, .ref 57), (3, .int (nI i))] [] h fin Q := by
  refine vL_law_18 ⟨fun q => absurd ((law_end hL (by omega)).mp q) (by omega), fun _ => ⟨(inL_of hL hi).1, ?_⟩⟩
  rw [nI_c (by omega)]
  exact ⟨fun e => absurd e (z 0 (by simp)), fun e => absurd e (z 1 (by simp)), fun e => absurd e (z 2 (by simp)), fun e => absurd e (z 3 (by simp)), fun e => absurd e (z 4 (by simp)), fun e => absurd e (z 5 (by simp)), fun e => absurd e (z 6 (by simp)), fun e => absurd e (z 7 (by simp)), fun e => absurd e (z 8 (by simp)), fun e => absurd e (z 9 (by simp)), fun e => absurd e (z 10 (by simp)), fun e => absurd e (z 11 (by simp)), fun e => absurd e (z 12 (by simp)), fun e => absurd e (z 13 (by simp)), fun e => absurd e (z 14 (by simp)), fun e => absurd e (z 15 (by simp)), fun e => absurd e (z 16 (by simp)), fun e => absurd e (z 17 (by simp)), fun e => absurd e (z 18 (by simp)), fun e => absurd e (z 19 (by simp)), fun e => absurd e (z 20 (by simp)), fun e => absurd e (z 21 (by simp)), fun e => absurd e (z 22 (by simp)), fun e => absurd e (z 23 (by simp)), fun e => absurd e (z 24 (by simp)), fun e => absurd e (z 25 (by simp)), fun e => absurd e (z 26 (by simp)), fun e => absurd e (z 27 (by simp)), fun e => absurd e (z 28 (by simp)), fun e => absurd e (z 29 (by simp)), fun e => absurd e (z 30 (by simp)), fun e => absurd e (z 31 (by simp)), fun e => absurd e (z 32 (by simp)), fun e => absurd e (z 33 (by simp)), fun e => absurd e (z 34 (by simp)), fun e => absurd e (z 35 (by simp)), fun e => absurd e (z 36 (by simp)), fun e => absurd e (z 37 (by simp)), fun e => absurd e (z 38 (by simp)), fun e => absurd e (z 39 (by simp)), fun e => absurd e (z 40 (by simp)), fun _ => hw⟩
variable {K : SK} {n : Nat × Nat} {V : SV} {J : SJV} {O : SO}
/-- one round out of an act of both -/
theorem rnd {C M : AM} {A : AL} {r : Value} (hL : gL G < 100000) (a : ActV G C M A K n V J O r) (ih : ∀ (K : SK) (n : Nat × Nat) (V : SV) (J : SJV) (O : SO), INV K n V J O → LwGo G m (i + 6) K n V J O) (hw : ∀ {K1 K2 : SK} {n1 n2 fin : Nat × Nat} {V1 V2 : SV} {J1 J2 : SJV} {O1 O2 : SO} {sc : Nat} {Q : Option Value → AH → Prop}, StK K1 → leN n n1 fin → leN n1 n2 fin → Ev G 100 C 0 ((0, .ref 0) :: A) (K, n, V, J, O) (some r) (K1, n1, V1, J1, O1) → Ev G 100 M 0 ((0, .ref 57) :: A) (K1, n1, V1, J1, O1) (some r) (K2, n2, V2, J2, O2) → wp G (100 + 1) mL_law 18 [(0, .retAddr sc), (1, .ref 0), (2, .ref 57), (3, .int (nI i + 6))] [] (cz (K2, n2, V2, J2, O2)) fin Q → wp G (100 + 1) mL_law 18 [(0, .retAddr sc), (1, .ref 0), (2, .ref 57), (3, .int (nI i))] [] (cz (K, n, V, J, O)) fin Q) : LwGo G (m + 1) i K n V J O := by
  obtain ⟨K1, n1, V1, J1, O1, K2, n2, V2, J2, O2, e1, e2, hK1, ⟨g1, g2, g3, g4⟩, hI⟩ := a
  obtain ⟨fin, f1, f2, f3, f4⟩ := ih K2 n2 V2 J2 O2 hI
  refine ⟨fin, ⟨by omega, by omega⟩, by omega, by omega, fun sc Q hQ => hw hK1 ⟨g1, by omega, by omega⟩ ⟨g2, f1⟩ e1 e2 ?_⟩
  rw [law_up]
  exact f4 sc Q hQ
theorem law_loop (hL : gL G < 100000) : ∀ (m i : Nat) (K : SK) (n : Nat × Nat) (V : SV) (J : SJV) (O : SO), gL G < i + 6 * m + 6 → i < 100000 → INV K n V J O → LwGo G m i K n V J O := by
  intro m
  induction m with
  | zero =>
    intro i K n V J O hm hi h
    exact ⟨n, ⟨Nat.le_refl _, Nat.le_refl _⟩, Nat.le_refl _, Nat.le_refl _, fun sc Q hQ => vL_law_18 ⟨fun _ => ⟨rfl, hQ _⟩, fun q => absurd ((law_end hL hi).mpr (by omega)) q⟩⟩
  | succ m ih =>
    intro i K n V J O hm hi h
    by_cases hend : gL G < i + 6
    · exact ⟨n, ⟨Nat.le_refl _, Nat.le_refl _⟩, by omega, by omega, fun sc Q hQ => vL_law_18 ⟨fun _ => ⟨rfl, hQ _⟩, fun q => absurd ((law_end hL hi).mpr hend) q⟩⟩
    have hi6 : i + 6 ≤ gL G := by omega
    have hin := (inL_of hL hi6).2
    have hK : StK K := h.1.1
    have ih := fun K n V J O => ih (i + 6) K n V J O (by omega) (by omega)
    by_cases c0 : gx G i &&& 63 = (0 : Int32)
    · obtain ⟨r, a⟩ := a_put (G := G) h (x1 := sx G (nI i) 1) (x2 := sx G (nI i) 2) (x3 := sx G (nI i) 3) (x4 := sx G (nI i) 4)
      exact rnd hL a ih (fun hK1 u1 u2 e1 e2 hw => hd_put hL hi6 c0 (law_put hK hK1 hin u1 u2 e1 e2 hw))
    by_cases c1 : gx G i &&& 63 = (1 : Int32)
    · obtain ⟨r, a⟩ := a_take (G := G) h (x1 := sx G (nI i) 1)
      exact rnd hL a ih (fun hK1 u1 u2 e1 e2 hw => hd_take hL hi6 c1 (law_take hK hK1 hin u1 u2 e1 e2 hw))
    by_cases c2 : gx G i &&& 63 = (2 : Int32)
    · obtain ⟨r, a⟩ := a_of (G := G) h (x1 := sx G (nI i) 1) (x2 := sx G (nI i) 2)
      exact rnd hL a ih (fun hK1 u1 u2 e1 e2 hw => hd_of hL hi6 c2 (law_of hK hK1 hin u1 u2 e1 e2 hw))
    by_cases c3 : gx G i &&& 63 = (3 : Int32)
    · obtain ⟨r, a⟩ := a_unlike (G := G) h (x1 := sx G (nI i) 1) (x2 := sx G (nI i) 2)
      exact rnd hL a ih (fun hK1 u1 u2 e1 e2 hw => hd_unlike hL hi6 c3 (law_unlike hK hK1 hin u1 u2 e1 e2 hw))
    by_cases c4 : gx G i &&& 63 = (4 : Int32)
    · obtain ⟨r, a⟩ := a_most (G := G) h (x1 := sx G (nI i) 1) (x2 := sx G (nI i) 2)
      exact rnd hL a ih (fun hK1 u1 u2 e1 e2 hw => hd_most hL hi6 c4 (law_most hK hK1 hin u1 u2 e1 e2 hw))
    by_cases c5 : gx G i &&& 63 = (5 : Int32)
    · obtain ⟨r, a⟩ := a_feed (G := G) h (x1 := sx G (nI i) 1) (x2 := sx G (nI i) 2)
      exact rnd hL a ih (fun hK1 u1 u2 e1 e2 hw => hd_feed hL hi6 c5 (law_feed hK hK1 hin u1 u2 e1 e2 hw))
    by_cases c6 : gx G i &&& 63 = (6 : Int32)
    · obtain ⟨r, a⟩ := a_ask (G := G) h
      exact rnd hL a ih (fun hK1 u1 u2 e1 e2 hw => hd_ask hL hi6 c6 (law_ask hK hK1 hin u1 u2 e1 e2 hw))
    by_cases c7 : gx G i &&& 63 = (7 : Int32)
    · obtain ⟨r, a⟩ := a_often (G := G) h (x1 := sx G (nI i) 1) (x2 := sx G (nI i) 2)
      exact rnd hL a ih (fun hK1 u1 u2 e1 e2 hw => hd_often hL hi6 c7 (law_often hK hK1 hin u1 u2 e1 e2 hw))
    by_cases c8 : gx G i &&& 63 = (8 : Int32)
    · obtain ⟨r, a⟩ := a_answer (G := G) h (x1 := sx G (nI i) 1) (x2 := sx G (nI i) 2) (x3 := sx G (nI i) 3)
      exact rnd hL a ih (fun hK1 u1 u2 e1 e2 hw => hd_answer hL hi6 c8 (law_answer hK hK1 hin u1 u2 e1 e2 hw))
    by_cases c9 : gx G i &&& 63 = (9 : Int32)
    · obtain ⟨r, a⟩ := a_stone (G := G) h (x1 := sx G (nI i) 1) (x2 := sx G (nI i) 2)
      exact rnd hL a ih (fun hK1 u1 u2 e1 e2 hw => hd_stone hL hi6 c9 (law_stone hK hK1 hin u1 u2 e1 e2 hw))
    by_cases c10 : gx G i &&& 63 = (10 : Int32)
    · obtain ⟨r, a⟩ := a_ofStone (G := G) h (x1 := sx G (nI i) 1) (x2 := sx G (nI i) 2)
      exact rnd hL a ih (fun hK1 u1 u2 e1 e2 hw => hd_ofStone hL hi6 c10 (law_ofStone hK hK1 hin u1 u2 e1 e2 hw))
    by_cases c11 : gx G i &&& 63 = (11 : Int32)
    · obtain ⟨r, a⟩ := a_nameAt (G := G) h (x1 := sx G (nI i) 1) (x2 := sx G (nI i) 2)
      exact rnd hL a ih (fun hK1 u1 u2 e1 e2 hw => hd_nameAt hL hi6 c11 (law_nameAt hK hK1 hin u1 u2 e1 e2 hw))
    by_cases c12 : gx G i &&& 63 = (12 : Int32)
    · obtain ⟨r, a⟩ := a_through (G := G) h (x1 := sx G (nI i) 1) (x2 := sx G (nI i) 2) (x3 := sx G (nI i) 3) (x4 := sx G (nI i) 4)
      exact rnd hL a ih (fun hK1 u1 u2 e1 e2 hw => hd_through hL hi6 c12 (law_through hK hK1 hin u1 u2 e1 e2 hw))
    by_cases c13 : gx G i &&& 63 = (13 : Int32)
    · obtain ⟨r, a⟩ := a_looks (G := G) h
      exact rnd hL a ih (fun hK1 u1 u2 e1 e2 hw => hd_looks hL hi6 c13 (law_looks hK hK1 hin u1 u2 e1 e2 hw))
    by_cases c14 : gx G i &&& 63 = (14 : Int32)
    · obtain ⟨r, a⟩ := a_firstUnlike (G := G) h (x1 := sx G (nI i) 1) (x2 := sx G (nI i) 2) (x3 := sx G (nI i) 3)
      exact rnd hL a ih (fun hK1 u1 u2 e1 e2 hw => hd_firstUnlike hL hi6 c14 (law_firstUnlike hK hK1 hin u1 u2 e1 e2 hw))
    by_cases c15 : gx G i &&& 63 = (15 : Int32)
    · obtain ⟨r, a⟩ := a_price (G := G) h (x1 := sx G (nI i) 1) (x2 := sx G (nI i) 2) (x3 := sx G (nI i) 3)
      exact rnd hL a ih (fun hK1 u1 u2 e1 e2 hw => hd_price hL hi6 c15 (law_price hK hK1 hin u1 u2 e1 e2 hw))
    by_cases c16 : gx G i &&& 63 = (16 : Int32)
    · obtain ⟨r, a⟩ := a_putPrice (G := G) h (x1 := sx G (nI i) 1) (x2 := sx G (nI i) 2)
      exact rnd hL a ih (fun hK1 u1 u2 e1 e2 hw => hd_putPrice hL hi6 c16 (law_putPrice hK hK1 hin u1 u2 e1 e2 hw))
    by_cases c17 : gx G i &&& 63 = (17 : Int32)
    · obtain ⟨r, a⟩ := a_plan (G := G) h (x1 := sx G (nI i) 1) (x2 := sx G (nI i) 2) (x3 := sx G (nI i) 3)
      exact rnd hL a ih (fun hK1 u1 u2 e1 e2 hw => hd_plan hL hi6 c17 (law_plan hK hK1 hin u1 u2 e1 e2 hw))
    by_cases c18 : gx G i &&& 63 = (18 : Int32)
    · obtain ⟨r, a⟩ := a_leastPlan (G := G) h (x1 := sx G (nI i) 1) (x2 := sx G (nI i) 2) (x3 := sx G (nI i) 3)
      exact rnd hL a ih (fun hK1 u1 u2 e1 e2 hw => hd_leastPlan hL hi6 c18 (law_leastPlan hK hK1 hin u1 u2 e1 e2 hw))
    by_cases c19 : gx G i &&& 63 = (19 : Int32)
    · obtain ⟨r, a⟩ := a_goesThrough (G := G) h (x1 := sx G (nI i) 1) (x2 := sx G (nI i) 2) (x3 := sx G (nI i) 3)
      exact rnd hL a ih (fun hK1 u1 u2 e1 e2 hw => hd_goesThrough hL hi6 c19 (law_goesThrough hK hK1 hin u1 u2 e1 e2 hw))
    by_cases c20 : gx G i &&& 63 = (20 : Int32)
    · obtain ⟨r, a⟩ := a_drift (G := G) h (x1 := sx G (nI i) 1) (x2 := sx G (nI i) 2)
      exact rnd hL a ih (fun hK1 u1 u2 e1 e2 hw => hd_drift hL hi6 c20 (law_drift hK hK1 hin u1 u2 e1 e2 hw))
    by_cases c21 : gx G i &&& 63 = (21 : Int32)
    · obtain ⟨r, a⟩ := a_drifted (G := G) h (x1 := sx G (nI i) 1) (x2 := sx G (nI i) 2)
      exact rnd hL a ih (fun hK1 u1 u2 e1 e2 hw => hd_drifted hL hi6 c21 (law_drifted hK hK1 hin u1 u2 e1 e2 hw))
    by_cases c22 : gx G i &&& 63 = (22 : Int32)
    · obtain ⟨r, a⟩ := a_undrift (G := G) h
      exact rnd hL a ih (fun hK1 u1 u2 e1 e2 hw => hd_undrift hL hi6 c22 (law_undrift hK hK1 hin u1 u2 e1 e2 hw))
    by_cases c23 : gx G i &&& 63 = (23 : Int32)
    · obtain ⟨r, a⟩ := a_cell (G := G) h (x1 := sx G (nI i) 1)
      exact rnd hL a ih (fun hK1 u1 u2 e1 e2 hw => hd_cell hL hi6 c23 (law_cell hK hK1 hin u1 u2 e1 e2 hw))
    by_cases c24 : gx G i &&& 63 = (24 : Int32)
    · obtain ⟨r, a⟩ := a_misses (G := G) h (x1 := sx G (nI i) 1) (x2 := sx G (nI i) 2) (x3 := sx G (nI i) 3)
      exact rnd hL a ih (fun hK1 u1 u2 e1 e2 hw => hd_misses hL hi6 c24 (law_misses hK hK1 hin u1 u2 e1 e2 hw))
    by_cases c25 : gx G i &&& 63 = (25 : Int32)
    · obtain ⟨r, a⟩ := a_uncell (G := G) h
      exact rnd hL a ih (fun hK1 u1 u2 e1 e2 hw => hd_uncell hL hi6 c25 (law_uncell hK hK1 hin u1 u2 e1 e2 hw))
    by_cases c26 : gx G i &&& 63 = (26 : Int32)
    · obtain ⟨r, a⟩ := a_key (G := G) h (x1 := sx G (nI i) 1) (x2 := sx G (nI i) 2)
      exact rnd hL a ih (fun hK1 u1 u2 e1 e2 hw => hd_key hL hi6 c26 (law_key hK hK1 hin u1 u2 e1 e2 hw))
    by_cases c27 : gx G i &&& 63 = (27 : Int32)
    · obtain ⟨r, a⟩ := a_leastLooks (G := G) h (x1 := sx G (nI i) 1)
      exact rnd hL a ih (fun hK1 u1 u2 e1 e2 hw => hd_leastLooks hL hi6 c27 (law_leastLooks hK hK1 hin u1 u2 e1 e2 hw))
    by_cases c28 : gx G i &&& 63 = (28 : Int32)
    · obtain ⟨r, a⟩ := a_root (G := G) h
      exact rnd hL a ih (fun hK1 u1 u2 e1 e2 hw => hd_root hL hi6 c28 (law_root hK hK1 hin u1 u2 e1 e2 hw))
    by_cases c29 : gx G i &&& 63 = (29 : Int32)
    · obtain ⟨r, a⟩ := a_walk (G := G) h (x1 := sx G (nI i) 1)
      exact rnd hL a ih (fun hK1 u1 u2 e1 e2 hw => hd_walk hL hi6 c29 (law_walk hK hK1 hin u1 u2 e1 e2 hw))
    by_cases c30 : gx G i &&& 63 = (30 : Int32)
    · obtain ⟨r, a⟩ := a_next (G := G) h (x1 := sx G (nI i) 1)
      exact rnd hL a ih (fun hK1 u1 u2 e1 e2 hw => hd_next hL hi6 c30 (law_next hK hK1 hin u1 u2 e1 e2 hw))
    by_cases c31 : gx G i &&& 63 = (31 : Int32)
    · obtain ⟨r, a⟩ := a_act (G := G) h (x1 := sx G (nI i) 1) (x2 := sx G (nI i) 2) (x3 := sx G (nI i) 3)
      exact rnd hL a ih (fun hK1 u1 u2 e1 e2 hw => hd_act hL hi6 c31 (law_act hK hK1 hin u1 u2 e1 e2 hw))
    by_cases c32 : gx G i &&& 63 = (32 : Int32)
    · obtain ⟨r, a⟩ := a_trace (G := G) h (x1 := sx G (nI i) 1)
      exact rnd hL a ih (fun hK1 u1 u2 e1 e2 hw => hd_trace hL hi6 c32 (law_trace hK hK1 hin u1 u2 e1 e2 hw))
    by_cases c33 : gx G i &&& 63 = (33 : Int32)
    · obtain ⟨r, a⟩ := a_keep (G := G) h (x1 := sx G (nI i) 1) (x2 := sx G (nI i) 2)
      exact rnd hL a ih (fun hK1 u1 u2 e1 e2 hw => hd_keep hL hi6 c33 (law_keep hK hK1 hin u1 u2 e1 e2 hw))
    by_cases c34 : gx G i &&& 63 = (34 : Int32)
    · obtain ⟨r, a⟩ := a_row (G := G) h (x1 := sx G (nI i) 1) (x2 := sx G (nI i) 2) (x3 := sx G (nI i) 3)
      exact rnd hL a ih (fun hK1 u1 u2 e1 e2 hw => hd_row hL hi6 c34 (law_row hK hK1 hin u1 u2 e1 e2 hw))
    by_cases c35 : gx G i &&& 63 = (35 : Int32)
    · obtain ⟨r, a⟩ := a_set (G := G) h (x1 := sx G (nI i) 1) (x2 := sx G (nI i) 2) (l3 := ((sx G (nI i) 3).toInt64 <<< ((32 : Int32).toInt64 &&& 63)) ||| ((sx G (nI i) 4).toInt64 &&& (4294967295 : Int64)))
      exact rnd hL a ih (fun hK1 u1 u2 e1 e2 hw => hd_set hL hi6 c35 (law_set hK hK1 hin u1 u2 e1 e2 hw))
    by_cases c36 : gx G i &&& 63 = (36 : Int32)
    · obtain ⟨r, a⟩ := a_element (G := G) h (x1 := sx G (nI i) 1) (x2 := sx G (nI i) 2)
      exact rnd hL a ih (fun hK1 u1 u2 e1 e2 hw => hd_element hL hi6 c36 (law_element hK hK1 hin u1 u2 e1 e2 hw))
    by_cases c37 : gx G i &&& 63 = (37 : Int32)
    · obtain ⟨r, a⟩ := a_shift (G := G) h (x1 := sx G (nI i) 1) (x2 := sx G (nI i) 2) (x3 := sx G (nI i) 3) (x4 := sx G (nI i) 4) (x5 := sx G (nI i) 5)
      exact rnd hL a ih (fun hK1 u1 u2 e1 e2 hw => hd_shift hL hi6 c37 (law_shift hK hK1 hin u1 u2 e1 e2 hw))
    by_cases c38 : gx G i &&& 63 = (38 : Int32)
    · obtain ⟨r, a⟩ := a_taken (G := G) h (x1 := sx G (nI i) 1) (x2 := sx G (nI i) 2)
      exact rnd hL a ih (fun hK1 u1 u2 e1 e2 hw => hd_taken hL hi6 c38 (law_taken hK hK1 hin u1 u2 e1 e2 hw))
    by_cases c39 : gx G i &&& 63 = (39 : Int32)
    · obtain ⟨r, a⟩ := a_things (G := G) h (x1 := sx G (nI i) 1) (x2 := sx G (nI i) 2) (x3 := sx G (nI i) 3)
      exact rnd hL a ih (fun hK1 u1 u2 e1 e2 hw => hd_things hL hi6 c39 (law_things hK hK1 hin u1 u2 e1 e2 hw))
    by_cases c40 : gx G i &&& 63 = (40 : Int32)
    · obtain ⟨r, a⟩ := a_count (G := G) h (x1 := sx G (nI i) 1)
      exact rnd hL a ih (fun hK1 u1 u2 e1 e2 hw => hd_count hL hi6 c40 (law_count hK hK1 hin u1 u2 e1 e2 hw))
    obtain ⟨fin, f1, f2, f3, f4⟩ := ih K n V J O h
    refine ⟨fin, f1, by omega, by omega, fun sc Q hQ => hd_none hL hi6 (fun c hc => ?_) ?_⟩
    · simp only [List.mem_cons, List.not_mem_nil, or_false] at hc
      rcases hc with rfl | rfl | rfl | rfl | rfl | rfl | rfl | rfl | rfl | rfl | rfl | rfl | rfl | rfl | rfl | rfl | rfl | rfl | rfl | rfl | rfl | rfl | rfl | rfl | rfl | rfl | rfl | rfl | rfl | rfl | rfl | rfl | rfl | rfl | rfl | rfl | rfl | rfl | rfl | rfl | rfl
      · exact c0
      · exact c1
      · exact c2
      · exact c3
      · exact c4
      · exact c5
      · exact c6
      · exact c7
      · exact c8
      · exact c9
      · exact c10
      · exact c11
      · exact c12
      · exact c13
      · exact c14
      · exact c15
      · exact c16
      · exact c17
      · exact c18
      · exact c19
      · exact c20
      · exact c21
      · exact c22
      · exact c23
      · exact c24
      · exact c25
      · exact c26
      · exact c27
      · exact c28
      · exact c29
      · exact c30
      · exact c31
      · exact c32
      · exact c33
      · exact c34
      · exact c35
      · exact c36
      · exact c37
      · exact c38
      · exact c39
      · exact c40
    · rw [law_up]
      exact f4 sc Q hQ
end
