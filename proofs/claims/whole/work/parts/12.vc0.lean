def NW (h : AH) (c : AC) (n : Nat) (fin : Nat × Nat) (P : Nat → AH → Prop) : Prop := h.2.1 + 1 ≤ fin.1 ∧ h.2.2 + n ≤ fin.2 ∧ P h.2.1 (hnew h c n)
theorem acls_at {ci : Nat} (h : ci < 13) : acls[ci]? = some (acls[ci]'h) := List.getElem?_eq_getElem h
def vt3_22 (ci : Nat) : Option AM := if ci = 2 then some mX3_insertAt else if ci = 3 then some mX3_insertAt else if ci = 4 then some mX3_insertAt else if ci = 6 then some mX3_insertAt else none
theorem kx3_22 {ci : Nat} {M' : AM} (h : vt3_22 ci = some M') : kX RX3 22 ci M' 2 ∧ 3 ≤ mL M' := by
  unfold vt3_22 at h
  by_cases q2 : ci = 2
  · subst q2; simp at h; subst h; exact ⟨⟨_, rfl, Or.inr ⟨_, _, k3_22_2⟩⟩, by decide⟩
  rw [if_neg q2] at h
  by_cases q3 : ci = 3
  · subst q3; simp at h; subst h; exact ⟨⟨_, rfl, Or.inl k3_22_3⟩, by decide⟩
  rw [if_neg q3] at h
  by_cases q4 : ci = 4
  · subst q4; simp at h; subst h; exact ⟨⟨_, rfl, Or.inr ⟨_, _, k3_22_4⟩⟩, by decide⟩
  rw [if_neg q4] at h
  by_cases q6 : ci = 6
  · subst q6; simp at h; subst h; exact ⟨⟨_, rfl, Or.inr ⟨_, _, k3_22_6⟩⟩, by decide⟩
  rw [if_neg q6] at h
  cases h
def vt3_26 (ci : Nat) : Option AM := if ci = 2 then some mX3_placeOf else if ci = 3 then some mX3_placeOf else if ci = 4 then some mX3_placeOf else if ci = 6 then some mX3_placeOf else none
theorem kx3_26 {ci : Nat} {M' : AM} (h : vt3_26 ci = some M') : kX RX3 26 ci M' 1 ∧ 2 ≤ mL M' := by
  unfold vt3_26 at h
  by_cases q2 : ci = 2
  · subst q2; simp at h; subst h; exact ⟨⟨_, rfl, Or.inr ⟨_, _, k3_26_2⟩⟩, by decide⟩
  rw [if_neg q2] at h
  by_cases q3 : ci = 3
  · subst q3; simp at h; subst h; exact ⟨⟨_, rfl, Or.inl k3_26_3⟩, by decide⟩
  rw [if_neg q3] at h
  by_cases q4 : ci = 4
  · subst q4; simp at h; subst h; exact ⟨⟨_, rfl, Or.inr ⟨_, _, k3_26_4⟩⟩, by decide⟩
  rw [if_neg q4] at h
  by_cases q6 : ci = 6
  · subst q6; simp at h; subst h; exact ⟨⟨_, rfl, Or.inr ⟨_, _, k3_26_6⟩⟩, by decide⟩
  rw [if_neg q6] at h
  cases h
def vt3_30 (ci : Nat) : Option AM := if ci = 2 then some mX3_removeAt else if ci = 3 then some mX3_removeAt else if ci = 4 then some mX3_removeAt else if ci = 6 then some mX3_removeAt else none
theorem kx3_30 {ci : Nat} {M' : AM} (h : vt3_30 ci = some M') : kX RX3 30 ci M' 1 ∧ 2 ≤ mL M' := by
  unfold vt3_30 at h
  by_cases q2 : ci = 2
  · subst q2; simp at h; subst h; exact ⟨⟨_, rfl, Or.inr ⟨_, _, k3_30_2⟩⟩, by decide⟩
  rw [if_neg q2] at h
  by_cases q3 : ci = 3
  · subst q3; simp at h; subst h; exact ⟨⟨_, rfl, Or.inl k3_30_3⟩, by decide⟩
  rw [if_neg q3] at h
  by_cases q4 : ci = 4
  · subst q4; simp at h; subst h; exact ⟨⟨_, rfl, Or.inr ⟨_, _, k3_30_4⟩⟩, by decide⟩
  rw [if_neg q4] at h
  by_cases q6 : ci = 6
  · subst q6; simp at h; subst h; exact ⟨⟨_, rfl, Or.inr ⟨_, _, k3_30_6⟩⟩, by decide⟩
  rw [if_neg q6] at h
  cases h
def vt3_58 (ci : Nat) : Option AM := if ci = 2 then some mX5_led else if ci = 3 then some mX5_led else if ci = 4 then some mX5_led else if ci = 6 then some mX5_led else none
theorem kx3_58 {ci : Nat} {M' : AM} (h : vt3_58 ci = some M') : kX RX3 58 ci M' 1 ∧ 2 ≤ mL M' := by
  unfold vt3_58 at h
  by_cases q2 : ci = 2
  · subst q2; simp at h; subst h; exact ⟨⟨_, rfl, Or.inr ⟨_, _, k3_58_2⟩⟩, by decide⟩
  rw [if_neg q2] at h
  by_cases q3 : ci = 3
  · subst q3; simp at h; subst h; exact ⟨⟨_, rfl, Or.inr ⟨_, _, k3_58_3⟩⟩, by decide⟩
  rw [if_neg q3] at h
  by_cases q4 : ci = 4
  · subst q4; simp at h; subst h; exact ⟨⟨_, rfl, Or.inr ⟨_, _, k3_58_4⟩⟩, by decide⟩
  rw [if_neg q4] at h
  by_cases q6 : ci = 6
  · subst q6; simp at h; subst h; exact ⟨⟨_, rfl, Or.inr ⟨_, _, k3_58_6⟩⟩, by decide⟩
  rw [if_neg q6] at h
  cases h
def vt3_61 (ci : Nat) : Option AM := if ci = 1 then some mX1_finds else if ci = 2 then some mX3_finds else if ci = 3 then some mX3_finds else if ci = 4 then some mX3_finds else if ci = 5 then some mX5_finds else if ci = 6 then some mX3_finds else if ci = 7 then some mX7_finds else if ci = 10 then some mX5_finds else none
theorem kx3_61 {ci : Nat} {M' : AM} (h : vt3_61 ci = some M') : kX RX3 61 ci M' 1 ∧ 2 ≤ mL M' := by
  unfold vt3_61 at h
  by_cases q1 : ci = 1
  · subst q1; simp at h; subst h; exact ⟨⟨_, rfl, Or.inr ⟨_, _, k3_61_1⟩⟩, by decide⟩
  rw [if_neg q1] at h
  by_cases q2 : ci = 2
  · subst q2; simp at h; subst h; exact ⟨⟨_, rfl, Or.inr ⟨_, _, k3_61_2⟩⟩, by decide⟩
  rw [if_neg q2] at h
  by_cases q3 : ci = 3
  · subst q3; simp at h; subst h; exact ⟨⟨_, rfl, Or.inr ⟨_, _, k3_61_3⟩⟩, by decide⟩
  rw [if_neg q3] at h
  by_cases q4 : ci = 4
  · subst q4; simp at h; subst h; exact ⟨⟨_, rfl, Or.inr ⟨_, _, k3_61_4⟩⟩, by decide⟩
  rw [if_neg q4] at h
  by_cases q5 : ci = 5
  · subst q5; simp at h; subst h; exact ⟨⟨_, rfl, Or.inl k3_61_5⟩, by decide⟩
  rw [if_neg q5] at h
  by_cases q6 : ci = 6
  · subst q6; simp at h; subst h; exact ⟨⟨_, rfl, Or.inr ⟨_, _, k3_61_6⟩⟩, by decide⟩
  rw [if_neg q6] at h
  by_cases q7 : ci = 7
  · subst q7; simp at h; subst h; exact ⟨⟨_, rfl, Or.inr ⟨_, _, k3_61_7⟩⟩, by decide⟩
  rw [if_neg q7] at h
  by_cases q10 : ci = 10
  · subst q10; simp at h; subst h; exact ⟨⟨_, rfl, Or.inr ⟨_, _, k3_61_10⟩⟩, by decide⟩
  rw [if_neg q10] at h
  cases h
def vt4_22 (ci : Nat) : Option AM := if ci = 4 then some mX5_comesAhead else if ci = 6 then some mX5_comesAhead else none
theorem kx4_22 {ci : Nat} {M' : AM} (h : vt4_22 ci = some M') : kX RX4 22 ci M' 3 ∧ 4 ≤ mL M' := by
  unfold vt4_22 at h
  by_cases q4 : ci = 4
  · subst q4; simp at h; subst h; exact ⟨⟨_, rfl, Or.inr ⟨_, _, k4_22_4⟩⟩, by decide⟩
  rw [if_neg q4] at h
  by_cases q6 : ci = 6
  · subst q6; simp at h; subst h; exact ⟨⟨_, rfl, Or.inr ⟨_, _, k4_22_6⟩⟩, by decide⟩
  rw [if_neg q6] at h
  cases h
def vt4_29 (ci : Nat) : Option AM := if ci = 4 then some mX4_placeFor else if ci = 6 then some mX4_placeFor else none
theorem kx4_29 {ci : Nat} {M' : AM} (h : vt4_29 ci = some M') : kX RX4 29 ci M' 2 ∧ 3 ≤ mL M' := by
  unfold vt4_29 at h
  by_cases q4 : ci = 4
  · subst q4; simp at h; subst h; exact ⟨⟨_, rfl, Or.inl k4_29_4⟩, by decide⟩
  rw [if_neg q4] at h
  by_cases q6 : ci = 6
  · subst q6; simp at h; subst h; exact ⟨⟨_, rfl, Or.inr ⟨_, _, k4_29_6⟩⟩, by decide⟩
  rw [if_neg q6] at h
  cases h
def vt4_33 (ci : Nat) : Option AM := if ci = 4 then some mX3_insertAt else if ci = 6 then some mX3_insertAt else none
theorem kx4_33 {ci : Nat} {M' : AM} (h : vt4_33 ci = some M') : kX RX4 33 ci M' 2 ∧ 3 ≤ mL M' := by
  unfold vt4_33 at h
  by_cases q4 : ci = 4
  · subst q4; simp at h; subst h; exact ⟨⟨_, rfl, Or.inr ⟨_, _, k4_33_4⟩⟩, by decide⟩
  rw [if_neg q4] at h
  by_cases q6 : ci = 6
  · subst q6; simp at h; subst h; exact ⟨⟨_, rfl, Or.inr ⟨_, _, k4_33_6⟩⟩, by decide⟩
  rw [if_neg q6] at h
  cases h
def vt4_37 (ci : Nat) : Option AM := if ci = 4 then some mX3_removeAt else if ci = 6 then some mX3_removeAt else none
theorem kx4_37 {ci : Nat} {M' : AM} (h : vt4_37 ci = some M') : kX RX4 37 ci M' 1 ∧ 2 ≤ mL M' := by
  unfold vt4_37 at h
  by_cases q4 : ci = 4
  · subst q4; simp at h; subst h; exact ⟨⟨_, rfl, Or.inr ⟨_, _, k4_37_4⟩⟩, by decide⟩
  rw [if_neg q4] at h
  by_cases q6 : ci = 6
  · subst q6; simp at h; subst h; exact ⟨⟨_, rfl, Or.inr ⟨_, _, k4_37_6⟩⟩, by decide⟩
  rw [if_neg q6] at h
  cases h
def vt4_72 (ci : Nat) : Option AM := if ci = 4 then some mX5_led else if ci = 6 then some mX5_led else none
theorem kx4_72 {ci : Nat} {M' : AM} (h : vt4_72 ci = some M') : kX RX4 72 ci M' 1 ∧ 2 ≤ mL M' := by
  unfold vt4_72 at h
  by_cases q4 : ci = 4
  · subst q4; simp at h; subst h; exact ⟨⟨_, rfl, Or.inr ⟨_, _, k4_72_4⟩⟩, by decide⟩
  rw [if_neg q4] at h
  by_cases q6 : ci = 6
  · subst q6; simp at h; subst h; exact ⟨⟨_, rfl, Or.inr ⟨_, _, k4_72_6⟩⟩, by decide⟩
  rw [if_neg q6] at h
  cases h
def vt5_38 (ci : Nat) : Option AM := if ci = 1 then some mX1_putName else if ci = 2 then some mX2_putName else if ci = 3 then some mX3_putName else if ci = 4 then some mX4_putName else if ci = 5 then some mX5_putName else if ci = 6 then some mX6_putName else if ci = 7 then some mX7_putName else if ci = 10 then some mX10_putName else none
theorem kx5_38 {ci : Nat} {M' : AM} (h : vt5_38 ci = some M') : kX RX5 38 ci M' 1 ∧ 2 ≤ mL M' := by
  unfold vt5_38 at h
  by_cases q1 : ci = 1
  · subst q1; simp at h; subst h; exact ⟨⟨_, rfl, Or.inr ⟨_, _, k5_38_1⟩⟩, by decide⟩
  rw [if_neg q1] at h
  by_cases q2 : ci = 2
  · subst q2; simp at h; subst h; exact ⟨⟨_, rfl, Or.inr ⟨_, _, k5_38_2⟩⟩, by decide⟩
  rw [if_neg q2] at h
  by_cases q3 : ci = 3
  · subst q3; simp at h; subst h; exact ⟨⟨_, rfl, Or.inr ⟨_, _, k5_38_3⟩⟩, by decide⟩
  rw [if_neg q3] at h
  by_cases q4 : ci = 4
  · subst q4; simp at h; subst h; exact ⟨⟨_, rfl, Or.inr ⟨_, _, k5_38_4⟩⟩, by decide⟩
  rw [if_neg q4] at h
  by_cases q5 : ci = 5
  · subst q5; simp at h; subst h; exact ⟨⟨_, rfl, Or.inl k5_38_5⟩, by decide⟩
  rw [if_neg q5] at h
  by_cases q6 : ci = 6
  · subst q6; simp at h; subst h; exact ⟨⟨_, rfl, Or.inr ⟨_, _, k5_38_6⟩⟩, by decide⟩
  rw [if_neg q6] at h
  by_cases q7 : ci = 7
  · subst q7; simp at h; subst h; exact ⟨⟨_, rfl, Or.inr ⟨_, _, k5_38_7⟩⟩, by decide⟩
  rw [if_neg q7] at h
  by_cases q10 : ci = 10
  · subst q10; simp at h; subst h; exact ⟨⟨_, rfl, Or.inr ⟨_, _, k5_38_10⟩⟩, by decide⟩
  rw [if_neg q10] at h
  cases h
def vt5_48 (ci : Nat) : Option AM := if ci = 1 then some mX1_takeName else if ci = 2 then some mX2_takeName else if ci = 3 then some mX3_takeName else if ci = 4 then some mX4_takeName else if ci = 5 then some mX5_takeName else if ci = 6 then some mX6_takeName else if ci = 7 then some mX7_takeName else if ci = 10 then some mX10_takeName else none
theorem kx5_48 {ci : Nat} {M' : AM} (h : vt5_48 ci = some M') : kX RX5 48 ci M' 1 ∧ 2 ≤ mL M' := by
  unfold vt5_48 at h
  by_cases q1 : ci = 1
  · subst q1; simp at h; subst h; exact ⟨⟨_, rfl, Or.inr ⟨_, _, k5_48_1⟩⟩, by decide⟩
  rw [if_neg q1] at h
  by_cases q2 : ci = 2
  · subst q2; simp at h; subst h; exact ⟨⟨_, rfl, Or.inr ⟨_, _, k5_48_2⟩⟩, by decide⟩
  rw [if_neg q2] at h
  by_cases q3 : ci = 3
  · subst q3; simp at h; subst h; exact ⟨⟨_, rfl, Or.inr ⟨_, _, k5_48_3⟩⟩, by decide⟩
  rw [if_neg q3] at h
  by_cases q4 : ci = 4
  · subst q4; simp at h; subst h; exact ⟨⟨_, rfl, Or.inr ⟨_, _, k5_48_4⟩⟩, by decide⟩
  rw [if_neg q4] at h
  by_cases q5 : ci = 5
  · subst q5; simp at h; subst h; exact ⟨⟨_, rfl, Or.inl k5_48_5⟩, by decide⟩
  rw [if_neg q5] at h
  by_cases q6 : ci = 6
  · subst q6; simp at h; subst h; exact ⟨⟨_, rfl, Or.inr ⟨_, _, k5_48_6⟩⟩, by decide⟩
  rw [if_neg q6] at h
  by_cases q7 : ci = 7
  · subst q7; simp at h; subst h; exact ⟨⟨_, rfl, Or.inr ⟨_, _, k5_48_7⟩⟩, by decide⟩
  rw [if_neg q7] at h
  by_cases q10 : ci = 10
  · subst q10; simp at h; subst h; exact ⟨⟨_, rfl, Or.inr ⟨_, _, k5_48_10⟩⟩, by decide⟩
  rw [if_neg q10] at h
  cases h
def vt5_67 (ci : Nat) : Option AM := if ci = 1 then some mX5_led else if ci = 2 then some mX5_led else if ci = 3 then some mX5_led else if ci = 4 then some mX5_led else if ci = 5 then some mX5_led else if ci = 6 then some mX5_led else if ci = 7 then some mX5_led else if ci = 10 then some mX5_led else none
theorem kx5_67 {ci : Nat} {M' : AM} (h : vt5_67 ci = some M') : kX RX5 67 ci M' 1 ∧ 2 ≤ mL M' := by
  unfold vt5_67 at h
  by_cases q1 : ci = 1
  · subst q1; simp at h; subst h; exact ⟨⟨_, rfl, Or.inr ⟨_, _, k5_67_1⟩⟩, by decide⟩
  rw [if_neg q1] at h
  by_cases q2 : ci = 2
  · subst q2; simp at h; subst h; exact ⟨⟨_, rfl, Or.inr ⟨_, _, k5_67_2⟩⟩, by decide⟩
  rw [if_neg q2] at h
  by_cases q3 : ci = 3
  · subst q3; simp at h; subst h; exact ⟨⟨_, rfl, Or.inr ⟨_, _, k5_67_3⟩⟩, by decide⟩
  rw [if_neg q3] at h
  by_cases q4 : ci = 4
  · subst q4; simp at h; subst h; exact ⟨⟨_, rfl, Or.inr ⟨_, _, k5_67_4⟩⟩, by decide⟩
  rw [if_neg q4] at h
  by_cases q5 : ci = 5
  · subst q5; simp at h; subst h; exact ⟨⟨_, rfl, Or.inl k5_67_5⟩, by decide⟩
  rw [if_neg q5] at h
  by_cases q6 : ci = 6
  · subst q6; simp at h; subst h; exact ⟨⟨_, rfl, Or.inr ⟨_, _, k5_67_6⟩⟩, by decide⟩
  rw [if_neg q6] at h
  by_cases q7 : ci = 7
  · subst q7; simp at h; subst h; exact ⟨⟨_, rfl, Or.inr ⟨_, _, k5_67_7⟩⟩, by decide⟩
  rw [if_neg q7] at h
  by_cases q10 : ci = 10
  · subst q10; simp at h; subst h; exact ⟨⟨_, rfl, Or.inr ⟨_, _, k5_67_10⟩⟩, by decide⟩
  rw [if_neg q10] at h
  cases h
def vt5_70 (ci : Nat) : Option AM := if ci = 1 then some mX1_finds else if ci = 2 then some mX3_finds else if ci = 3 then some mX3_finds else if ci = 4 then some mX3_finds else if ci = 5 then some mX5_finds else if ci = 6 then some mX3_finds else if ci = 7 then some mX7_finds else if ci = 10 then some mX5_finds else none
theorem kx5_70 {ci : Nat} {M' : AM} (h : vt5_70 ci = some M') : kX RX5 70 ci M' 1 ∧ 2 ≤ mL M' := by
  unfold vt5_70 at h
  by_cases q1 : ci = 1
  · subst q1; simp at h; subst h; exact ⟨⟨_, rfl, Or.inr ⟨_, _, k5_70_1⟩⟩, by decide⟩
  rw [if_neg q1] at h
  by_cases q2 : ci = 2
  · subst q2; simp at h; subst h; exact ⟨⟨_, rfl, Or.inr ⟨_, _, k5_70_2⟩⟩, by decide⟩
  rw [if_neg q2] at h
  by_cases q3 : ci = 3
  · subst q3; simp at h; subst h; exact ⟨⟨_, rfl, Or.inr ⟨_, _, k5_70_3⟩⟩, by decide⟩
  rw [if_neg q3] at h
  by_cases q4 : ci = 4
  · subst q4; simp at h; subst h; exact ⟨⟨_, rfl, Or.inr ⟨_, _, k5_70_4⟩⟩, by decide⟩
  rw [if_neg q4] at h
  by_cases q5 : ci = 5
  · subst q5; simp at h; subst h; exact ⟨⟨_, rfl, Or.inl k5_70_5⟩, by decide⟩
  rw [if_neg q5] at h
  by_cases q6 : ci = 6
  · subst q6; simp at h; subst h; exact ⟨⟨_, rfl, Or.inr ⟨_, _, k5_70_6⟩⟩, by decide⟩
  rw [if_neg q6] at h
  by_cases q7 : ci = 7
  · subst q7; simp at h; subst h; exact ⟨⟨_, rfl, Or.inr ⟨_, _, k5_70_7⟩⟩, by decide⟩
  rw [if_neg q7] at h
  by_cases q10 : ci = 10
  · subst q10; simp at h; subst h; exact ⟨⟨_, rfl, Or.inr ⟨_, _, k5_70_10⟩⟩, by decide⟩
  rw [if_neg q10] at h
  cases h
def vt5_73 (ci : Nat) : Option AM := if ci = 1 then some mX5_mends else if ci = 2 then some mX5_mends else if ci = 3 then some mX5_mends else if ci = 4 then some mX4_mends else if ci = 5 then some mX5_mends else if ci = 6 then some mX6_mends else if ci = 7 then some mX5_mends else if ci = 10 then some mX5_mends else none
theorem kx5_73 {ci : Nat} {M' : AM} (h : vt5_73 ci = some M') : kX RX5 73 ci M' 1 ∧ 2 ≤ mL M' := by
  unfold vt5_73 at h
  by_cases q1 : ci = 1
  · subst q1; simp at h; subst h; exact ⟨⟨_, rfl, Or.inr ⟨_, _, k5_73_1⟩⟩, by decide⟩
  rw [if_neg q1] at h
  by_cases q2 : ci = 2
  · subst q2; simp at h; subst h; exact ⟨⟨_, rfl, Or.inr ⟨_, _, k5_73_2⟩⟩, by decide⟩
  rw [if_neg q2] at h
  by_cases q3 : ci = 3
  · subst q3; simp at h; subst h; exact ⟨⟨_, rfl, Or.inr ⟨_, _, k5_73_3⟩⟩, by decide⟩
  rw [if_neg q3] at h
  by_cases q4 : ci = 4
  · subst q4; simp at h; subst h; exact ⟨⟨_, rfl, Or.inr ⟨_, _, k5_73_4⟩⟩, by decide⟩
  rw [if_neg q4] at h
  by_cases q5 : ci = 5
  · subst q5; simp at h; subst h; exact ⟨⟨_, rfl, Or.inl k5_73_5⟩, by decide⟩
  rw [if_neg q5] at h
  by_cases q6 : ci = 6
  · subst q6; simp at h; subst h; exact ⟨⟨_, rfl, Or.inr ⟨_, _, k5_73_6⟩⟩, by decide⟩
  rw [if_neg q6] at h
  by_cases q7 : ci = 7
  · subst q7; simp at h; subst h; exact ⟨⟨_, rfl, Or.inr ⟨_, _, k5_73_7⟩⟩, by decide⟩
  rw [if_neg q7] at h
  by_cases q10 : ci = 10
  · subst q10; simp at h; subst h; exact ⟨⟨_, rfl, Or.inr ⟨_, _, k5_73_10⟩⟩, by decide⟩
  rw [if_neg q10] at h
  cases h
def vt5_76 (ci : Nat) : Option AM := if ci = 1 then some mX1_keeps else if ci = 2 then some mX2_keeps else if ci = 3 then some mX5_keeps else if ci = 4 then some mX5_keeps else if ci = 5 then some mX5_keeps else if ci = 6 then some mX5_keeps else if ci = 7 then some mX5_keeps else if ci = 10 then some mX5_keeps else none
theorem kx5_76 {ci : Nat} {M' : AM} (h : vt5_76 ci = some M') : kX RX5 76 ci M' 1 ∧ 2 ≤ mL M' := by
  unfold vt5_76 at h
  by_cases q1 : ci = 1
  · subst q1; simp at h; subst h; exact ⟨⟨_, rfl, Or.inr ⟨_, _, k5_76_1⟩⟩, by decide⟩
  rw [if_neg q1] at h
  by_cases q2 : ci = 2
  · subst q2; simp at h; subst h; exact ⟨⟨_, rfl, Or.inr ⟨_, _, k5_76_2⟩⟩, by decide⟩
  rw [if_neg q2] at h
  by_cases q3 : ci = 3
  · subst q3; simp at h; subst h; exact ⟨⟨_, rfl, Or.inr ⟨_, _, k5_76_3⟩⟩, by decide⟩
  rw [if_neg q3] at h
  by_cases q4 : ci = 4
  · subst q4; simp at h; subst h; exact ⟨⟨_, rfl, Or.inr ⟨_, _, k5_76_4⟩⟩, by decide⟩
  rw [if_neg q4] at h
  by_cases q5 : ci = 5
  · subst q5; simp at h; subst h; exact ⟨⟨_, rfl, Or.inl k5_76_5⟩, by decide⟩
  rw [if_neg q5] at h
  by_cases q6 : ci = 6
  · subst q6; simp at h; subst h; exact ⟨⟨_, rfl, Or.inr ⟨_, _, k5_76_6⟩⟩, by decide⟩
  rw [if_neg q6] at h
  by_cases q7 : ci = 7
  · subst q7; simp at h; subst h; exact ⟨⟨_, rfl, Or.inr ⟨_, _, k5_76_7⟩⟩, by decide⟩
  rw [if_neg q7] at h
  by_cases q10 : ci = 10
  · subst q10; simp at h; subst h; exact ⟨⟨_, rfl, Or.inr ⟨_, _, k5_76_10⟩⟩, by decide⟩
  rw [if_neg q10] at h
  cases h
def vt7_72 (ci : Nat) : Option AM := if ci = 1 then some mX5_led else if ci = 7 then some mX5_led else none
theorem kx7_72 {ci : Nat} {M' : AM} (h : vt7_72 ci = some M') : kX RX7 72 ci M' 1 ∧ 2 ≤ mL M' := by
  unfold vt7_72 at h
  by_cases q1 : ci = 1
  · subst q1; simp at h; subst h; exact ⟨⟨_, rfl, Or.inr ⟨_, _, k7_72_1⟩⟩, by decide⟩
  rw [if_neg q1] at h
  by_cases q7 : ci = 7
  · subst q7; simp at h; subst h; exact ⟨⟨_, rfl, Or.inr ⟨_, _, k7_72_7⟩⟩, by decide⟩
  rw [if_neg q7] at h
  cases h
def vt7_76 (ci : Nat) : Option AM := if ci = 1 then some mX1_finds else if ci = 2 then some mX3_finds else if ci = 3 then some mX3_finds else if ci = 4 then some mX3_finds else if ci = 5 then some mX5_finds else if ci = 6 then some mX3_finds else if ci = 7 then some mX7_finds else if ci = 10 then some mX5_finds else none
theorem kx7_76 {ci : Nat} {M' : AM} (h : vt7_76 ci = some M') : kX RX7 76 ci M' 1 ∧ 2 ≤ mL M' := by
  unfold vt7_76 at h
  by_cases q1 : ci = 1
  · subst q1; simp at h; subst h; exact ⟨⟨_, rfl, Or.inr ⟨_, _, k7_76_1⟩⟩, by decide⟩
  rw [if_neg q1] at h
  by_cases q2 : ci = 2
  · subst q2; simp at h; subst h; exact ⟨⟨_, rfl, Or.inr ⟨_, _, k7_76_2⟩⟩, by decide⟩
  rw [if_neg q2] at h
  by_cases q3 : ci = 3
  · subst q3; simp at h; subst h; exact ⟨⟨_, rfl, Or.inr ⟨_, _, k7_76_3⟩⟩, by decide⟩
  rw [if_neg q3] at h
  by_cases q4 : ci = 4
  · subst q4; simp at h; subst h; exact ⟨⟨_, rfl, Or.inr ⟨_, _, k7_76_4⟩⟩, by decide⟩
  rw [if_neg q4] at h
  by_cases q5 : ci = 5
  · subst q5; simp at h; subst h; exact ⟨⟨_, rfl, Or.inl k7_76_5⟩, by decide⟩
  rw [if_neg q5] at h
  by_cases q6 : ci = 6
  · subst q6; simp at h; subst h; exact ⟨⟨_, rfl, Or.inr ⟨_, _, k7_76_6⟩⟩, by decide⟩
  rw [if_neg q6] at h
  by_cases q7 : ci = 7
  · subst q7; simp at h; subst h; exact ⟨⟨_, rfl, Or.inr ⟨_, _, k7_76_7⟩⟩, by decide⟩
  rw [if_neg q7] at h
  by_cases q10 : ci = 10
  · subst q10; simp at h; subst h; exact ⟨⟨_, rfl, Or.inr ⟨_, _, k7_76_10⟩⟩, by decide⟩
  rw [if_neg q10] at h
  cases h
def vt10_84 (ci : Nat) : Option AM := if ci = 1 then some mX5_tells else if ci = 2 then some mX5_tells else if ci = 3 then some mX5_tells else if ci = 4 then some mX5_tells else if ci = 5 then some mX5_tells else if ci = 6 then some mX5_tells else if ci = 7 then some mX5_tells else if ci = 10 then some mX10_tells else none
theorem kx10_84 {ci : Nat} {M' : AM} (h : vt10_84 ci = some M') : kX RX10 84 ci M' 1 ∧ 2 ≤ mL M' := by
  unfold vt10_84 at h
  by_cases q1 : ci = 1
  · subst q1; simp at h; subst h; exact ⟨⟨_, rfl, Or.inr ⟨_, _, k10_84_1⟩⟩, by decide⟩
  rw [if_neg q1] at h
  by_cases q2 : ci = 2
  · subst q2; simp at h; subst h; exact ⟨⟨_, rfl, Or.inr ⟨_, _, k10_84_2⟩⟩, by decide⟩
  rw [if_neg q2] at h
  by_cases q3 : ci = 3
  · subst q3; simp at h; subst h; exact ⟨⟨_, rfl, Or.inr ⟨_, _, k10_84_3⟩⟩, by decide⟩
  rw [if_neg q3] at h
  by_cases q4 : ci = 4
  · subst q4; simp at h; subst h; exact ⟨⟨_, rfl, Or.inr ⟨_, _, k10_84_4⟩⟩, by decide⟩
  rw [if_neg q4] at h
  by_cases q5 : ci = 5
  · subst q5; simp at h; subst h; exact ⟨⟨_, rfl, Or.inl k10_84_5⟩, by decide⟩
  rw [if_neg q5] at h
  by_cases q6 : ci = 6
  · subst q6; simp at h; subst h; exact ⟨⟨_, rfl, Or.inr ⟨_, _, k10_84_6⟩⟩, by decide⟩
  rw [if_neg q6] at h
  by_cases q7 : ci = 7
  · subst q7; simp at h; subst h; exact ⟨⟨_, rfl, Or.inr ⟨_, _, k10_84_7⟩⟩, by decide⟩
  rw [if_neg q7] at h
  by_cases q10 : ci = 10
  · subst q10; simp at h; subst h; exact ⟨⟨_, rfl, Or.inr ⟨_, _, k10_84_10⟩⟩, by decide⟩
  rw [if_neg q10] at h
  cases h
def vt11_89 (ci : Nat) : Option AM := if ci = 1 then some mX5_enter else if ci = 2 then some mX5_enter else if ci = 3 then some mX5_enter else if ci = 4 then some mX5_enter else if ci = 5 then some mX5_enter else if ci = 6 then some mX5_enter else if ci = 7 then some mX5_enter else if ci = 10 then some mX5_enter else none
theorem kx11_89 {ci : Nat} {M' : AM} (h : vt11_89 ci = some M') : kX RX11 89 ci M' 1 ∧ 2 ≤ mL M' := by
  unfold vt11_89 at h
  by_cases q1 : ci = 1
  · subst q1; simp at h; subst h; exact ⟨⟨_, rfl, Or.inr ⟨_, _, k11_89_1⟩⟩, by decide⟩
  rw [if_neg q1] at h
  by_cases q2 : ci = 2
  · subst q2; simp at h; subst h; exact ⟨⟨_, rfl, Or.inr ⟨_, _, k11_89_2⟩⟩, by decide⟩
  rw [if_neg q2] at h
  by_cases q3 : ci = 3
  · subst q3; simp at h; subst h; exact ⟨⟨_, rfl, Or.inr ⟨_, _, k11_89_3⟩⟩, by decide⟩
  rw [if_neg q3] at h
  by_cases q4 : ci = 4
  · subst q4; simp at h; subst h; exact ⟨⟨_, rfl, Or.inr ⟨_, _, k11_89_4⟩⟩, by decide⟩
  rw [if_neg q4] at h
  by_cases q5 : ci = 5
  · subst q5; simp at h; subst h; exact ⟨⟨_, rfl, Or.inl k11_89_5⟩, by decide⟩
  rw [if_neg q5] at h
  by_cases q6 : ci = 6
  · subst q6; simp at h; subst h; exact ⟨⟨_, rfl, Or.inr ⟨_, _, k11_89_6⟩⟩, by decide⟩
  rw [if_neg q6] at h
  by_cases q7 : ci = 7
  · subst q7; simp at h; subst h; exact ⟨⟨_, rfl, Or.inr ⟨_, _, k11_89_7⟩⟩, by decide⟩
  rw [if_neg q7] at h
  by_cases q10 : ci = 10
  · subst q10; simp at h; subst h; exact ⟨⟨_, rfl, Or.inr ⟨_, _, k11_89_10⟩⟩, by decide⟩
  rw [if_neg q10] at h
  cases h
def vt11_102 (ci : Nat) : Option AM := if ci = 1 then some mX5_leave else if ci = 2 then some mX5_leave else if ci = 3 then some mX5_leave else if ci = 4 then some mX5_leave else if ci = 5 then some mX5_leave else if ci = 6 then some mX5_leave else if ci = 7 then some mX5_leave else if ci = 10 then some mX5_leave else none
theorem kx11_102 {ci : Nat} {M' : AM} (h : vt11_102 ci = some M') : kX RX11 102 ci M' 1 ∧ 2 ≤ mL M' := by
  unfold vt11_102 at h
  by_cases q1 : ci = 1
  · subst q1; simp at h; subst h; exact ⟨⟨_, rfl, Or.inr ⟨_, _, k11_102_1⟩⟩, by decide⟩
  rw [if_neg q1] at h
  by_cases q2 : ci = 2
  · subst q2; simp at h; subst h; exact ⟨⟨_, rfl, Or.inr ⟨_, _, k11_102_2⟩⟩, by decide⟩
  rw [if_neg q2] at h
  by_cases q3 : ci = 3
  · subst q3; simp at h; subst h; exact ⟨⟨_, rfl, Or.inr ⟨_, _, k11_102_3⟩⟩, by decide⟩
  rw [if_neg q3] at h
  by_cases q4 : ci = 4
  · subst q4; simp at h; subst h; exact ⟨⟨_, rfl, Or.inr ⟨_, _, k11_102_4⟩⟩, by decide⟩
  rw [if_neg q4] at h
  by_cases q5 : ci = 5
  · subst q5; simp at h; subst h; exact ⟨⟨_, rfl, Or.inl k11_102_5⟩, by decide⟩
  rw [if_neg q5] at h
  by_cases q6 : ci = 6
  · subst q6; simp at h; subst h; exact ⟨⟨_, rfl, Or.inr ⟨_, _, k11_102_6⟩⟩, by decide⟩
  rw [if_neg q6] at h
  by_cases q7 : ci = 7
  · subst q7; simp at h; subst h; exact ⟨⟨_, rfl, Or.inr ⟨_, _, k11_102_7⟩⟩, by decide⟩
  rw [if_neg q7] at h
  by_cases q10 : ci = 10
  · subst q10; simp at h; subst h; exact ⟨⟨_, rfl, Or.inr ⟨_, _, k11_102_10⟩⟩, by decide⟩
  rw [if_neg q10] at h
  cases h
def vt11_198 (ci : Nat) : Option AM := if ci = 1 then some mX1_kind else if ci = 2 then some mX2_kind else if ci = 3 then some mX3_kind else if ci = 4 then some mX4_kind else if ci = 5 then some mX5_kind else if ci = 6 then some mX6_kind else if ci = 7 then some mX7_kind else if ci = 10 then some mX10_kind else none
theorem kx11_198 {ci : Nat} {M' : AM} (h : vt11_198 ci = some M') : kX RX11 198 ci M' 0 ∧ 1 ≤ mL M' := by
  unfold vt11_198 at h
  by_cases q1 : ci = 1
  · subst q1; simp at h; subst h; exact ⟨⟨_, rfl, Or.inr ⟨_, _, k11_198_1⟩⟩, by decide⟩
  rw [if_neg q1] at h
  by_cases q2 : ci = 2
  · subst q2; simp at h; subst h; exact ⟨⟨_, rfl, Or.inr ⟨_, _, k11_198_2⟩⟩, by decide⟩
  rw [if_neg q2] at h
  by_cases q3 : ci = 3
  · subst q3; simp at h; subst h; exact ⟨⟨_, rfl, Or.inr ⟨_, _, k11_198_3⟩⟩, by decide⟩
  rw [if_neg q3] at h
  by_cases q4 : ci = 4
  · subst q4; simp at h; subst h; exact ⟨⟨_, rfl, Or.inr ⟨_, _, k11_198_4⟩⟩, by decide⟩
  rw [if_neg q4] at h
  by_cases q5 : ci = 5
  · subst q5; simp at h; subst h; exact ⟨⟨_, rfl, Or.inl k11_198_5⟩, by decide⟩
  rw [if_neg q5] at h
  by_cases q6 : ci = 6
  · subst q6; simp at h; subst h; exact ⟨⟨_, rfl, Or.inr ⟨_, _, k11_198_6⟩⟩, by decide⟩
  rw [if_neg q6] at h
  by_cases q7 : ci = 7
  · subst q7; simp at h; subst h; exact ⟨⟨_, rfl, Or.inr ⟨_, _, k11_198_7⟩⟩, by decide⟩
  rw [if_neg q7] at h
  by_cases q10 : ci = 10
  · subst q10; simp at h; subst h; exact ⟨⟨_, rfl, Or.inr ⟨_, _, k11_198_10⟩⟩, by decide⟩
  rw [if_neg q10] at h
  cases h
def vt11_204 (ci : Nat) : Option AM := if ci = 1 then some mX1_howMany else if ci = 2 then some mX3_howMany else if ci = 3 then some mX3_howMany else if ci = 4 then some mX3_howMany else if ci = 5 then some mX5_howMany else if ci = 6 then some mX3_howMany else if ci = 7 then some mX7_howMany else if ci = 10 then some mX10_howMany else none
theorem kx11_204 {ci : Nat} {M' : AM} (h : vt11_204 ci = some M') : kX RX11 204 ci M' 0 ∧ 1 ≤ mL M' := by
  unfold vt11_204 at h
  by_cases q1 : ci = 1
  · subst q1; simp at h; subst h; exact ⟨⟨_, rfl, Or.inr ⟨_, _, k11_204_1⟩⟩, by decide⟩
  rw [if_neg q1] at h
  by_cases q2 : ci = 2
  · subst q2; simp at h; subst h; exact ⟨⟨_, rfl, Or.inr ⟨_, _, k11_204_2⟩⟩, by decide⟩
  rw [if_neg q2] at h
  by_cases q3 : ci = 3
  · subst q3; simp at h; subst h; exact ⟨⟨_, rfl, Or.inr ⟨_, _, k11_204_3⟩⟩, by decide⟩
  rw [if_neg q3] at h
  by_cases q4 : ci = 4
  · subst q4; simp at h; subst h; exact ⟨⟨_, rfl, Or.inr ⟨_, _, k11_204_4⟩⟩, by decide⟩
  rw [if_neg q4] at h
  by_cases q5 : ci = 5
  · subst q5; simp at h; subst h; exact ⟨⟨_, rfl, Or.inl k11_204_5⟩, by decide⟩
  rw [if_neg q5] at h
  by_cases q6 : ci = 6
  · subst q6; simp at h; subst h; exact ⟨⟨_, rfl, Or.inr ⟨_, _, k11_204_6⟩⟩, by decide⟩
  rw [if_neg q6] at h
  by_cases q7 : ci = 7
  · subst q7; simp at h; subst h; exact ⟨⟨_, rfl, Or.inr ⟨_, _, k11_204_7⟩⟩, by decide⟩
  rw [if_neg q7] at h
  by_cases q10 : ci = 10
  · subst q10; simp at h; subst h; exact ⟨⟨_, rfl, Or.inr ⟨_, _, k11_204_10⟩⟩, by decide⟩
  rw [if_neg q10] at h
  cases h
def vt11_213 (ci : Nat) : Option AM := if ci = 1 then some mX1_nameIn else if ci = 2 then some mX3_nameIn else if ci = 3 then some mX3_nameIn else if ci = 4 then some mX3_nameIn else if ci = 5 then some mX5_nameIn else if ci = 6 then some mX3_nameIn else if ci = 7 then some mX7_nameIn else if ci = 10 then some mX10_nameIn else none
theorem kx11_213 {ci : Nat} {M' : AM} (h : vt11_213 ci = some M') : kX RX11 213 ci M' 1 ∧ 2 ≤ mL M' := by
  unfold vt11_213 at h
  by_cases q1 : ci = 1
  · subst q1; simp at h; subst h; exact ⟨⟨_, rfl, Or.inr ⟨_, _, k11_213_1⟩⟩, by decide⟩
  rw [if_neg q1] at h
  by_cases q2 : ci = 2
  · subst q2; simp at h; subst h; exact ⟨⟨_, rfl, Or.inr ⟨_, _, k11_213_2⟩⟩, by decide⟩
  rw [if_neg q2] at h
  by_cases q3 : ci = 3
  · subst q3; simp at h; subst h; exact ⟨⟨_, rfl, Or.inr ⟨_, _, k11_213_3⟩⟩, by decide⟩
  rw [if_neg q3] at h
  by_cases q4 : ci = 4
  · subst q4; simp at h; subst h; exact ⟨⟨_, rfl, Or.inr ⟨_, _, k11_213_4⟩⟩, by decide⟩
  rw [if_neg q4] at h
  by_cases q5 : ci = 5
  · subst q5; simp at h; subst h; exact ⟨⟨_, rfl, Or.inl k11_213_5⟩, by decide⟩
  rw [if_neg q5] at h
  by_cases q6 : ci = 6
  · subst q6; simp at h; subst h; exact ⟨⟨_, rfl, Or.inr ⟨_, _, k11_213_6⟩⟩, by decide⟩
  rw [if_neg q6] at h
  by_cases q7 : ci = 7
  · subst q7; simp at h; subst h; exact ⟨⟨_, rfl, Or.inr ⟨_, _, k11_213_7⟩⟩, by decide⟩
  rw [if_neg q7] at h
  by_cases q10 : ci = 10
  · subst q10; simp at h; subst h; exact ⟨⟨_, rfl, Or.inr ⟨_, _, k11_213_10⟩⟩, by decide⟩
  rw [if_neg q10] at h
  cases h
def vt11_226 (ci : Nat) : Option AM := if ci = 1 then some mX1_run else if ci = 2 then some mX2_run else if ci = 3 then some mX3_run else if ci = 4 then some mX4_run else if ci = 5 then some mX5_run else if ci = 6 then some mX6_run else if ci = 7 then some mX7_run else if ci = 10 then some mX10_run else none
theorem kx11_226 {ci : Nat} {M' : AM} (h : vt11_226 ci = some M') : kX RX11 226 ci M' 1 ∧ 2 ≤ mL M' := by
  unfold vt11_226 at h
  by_cases q1 : ci = 1
  · subst q1; simp at h; subst h; exact ⟨⟨_, rfl, Or.inr ⟨_, _, k11_226_1⟩⟩, by decide⟩
  rw [if_neg q1] at h
  by_cases q2 : ci = 2
  · subst q2; simp at h; subst h; exact ⟨⟨_, rfl, Or.inr ⟨_, _, k11_226_2⟩⟩, by decide⟩
  rw [if_neg q2] at h
  by_cases q3 : ci = 3
  · subst q3; simp at h; subst h; exact ⟨⟨_, rfl, Or.inr ⟨_, _, k11_226_3⟩⟩, by decide⟩
  rw [if_neg q3] at h
  by_cases q4 : ci = 4
  · subst q4; simp at h; subst h; exact ⟨⟨_, rfl, Or.inr ⟨_, _, k11_226_4⟩⟩, by decide⟩
  rw [if_neg q4] at h
  by_cases q5 : ci = 5
  · subst q5; simp at h; subst h; exact ⟨⟨_, rfl, Or.inl k11_226_5⟩, by decide⟩
  rw [if_neg q5] at h
  by_cases q6 : ci = 6
  · subst q6; simp at h; subst h; exact ⟨⟨_, rfl, Or.inr ⟨_, _, k11_226_6⟩⟩, by decide⟩
  rw [if_neg q6] at h
  by_cases q7 : ci = 7
  · subst q7; simp at h; subst h; exact ⟨⟨_, rfl, Or.inr ⟨_, _, k11_226_7⟩⟩, by decide⟩
  rw [if_neg q7] at h
  by_cases q10 : ci = 10
  · subst q10; simp at h; subst h; exact ⟨⟨_, rfl, Or.inr ⟨_, _, k11_226_10⟩⟩, by decide⟩
  rw [if_neg q10] at h
  cases h
def vt11_233 (ci : Nat) : Option AM := if ci = 1 then some mX1_priceFor else if ci = 2 then some mX2_priceFor else if ci = 3 then some mX3_priceFor else if ci = 4 then some mX4_priceFor else if ci = 5 then some mX5_priceFor else if ci = 6 then some mX6_priceFor else if ci = 7 then some mX7_priceFor else if ci = 10 then some mX10_priceFor else none
theorem kx11_233 {ci : Nat} {M' : AM} (h : vt11_233 ci = some M') : kX RX11 233 ci M' 2 ∧ 3 ≤ mL M' := by
  unfold vt11_233 at h
  by_cases q1 : ci = 1
  · subst q1; simp at h; subst h; exact ⟨⟨_, rfl, Or.inr ⟨_, _, k11_233_1⟩⟩, by decide⟩
  rw [if_neg q1] at h
  by_cases q2 : ci = 2
  · subst q2; simp at h; subst h; exact ⟨⟨_, rfl, Or.inr ⟨_, _, k11_233_2⟩⟩, by decide⟩
  rw [if_neg q2] at h
  by_cases q3 : ci = 3
  · subst q3; simp at h; subst h; exact ⟨⟨_, rfl, Or.inr ⟨_, _, k11_233_3⟩⟩, by decide⟩
  rw [if_neg q3] at h
  by_cases q4 : ci = 4
  · subst q4; simp at h; subst h; exact ⟨⟨_, rfl, Or.inr ⟨_, _, k11_233_4⟩⟩, by decide⟩
  rw [if_neg q4] at h
  by_cases q5 : ci = 5
  · subst q5; simp at h; subst h; exact ⟨⟨_, rfl, Or.inl k11_233_5⟩, by decide⟩
  rw [if_neg q5] at h
  by_cases q6 : ci = 6
  · subst q6; simp at h; subst h; exact ⟨⟨_, rfl, Or.inr ⟨_, _, k11_233_6⟩⟩, by decide⟩
  rw [if_neg q6] at h
  by_cases q7 : ci = 7
  · subst q7; simp at h; subst h; exact ⟨⟨_, rfl, Or.inr ⟨_, _, k11_233_7⟩⟩, by decide⟩
  rw [if_neg q7] at h
  by_cases q10 : ci = 10
  · subst q10; simp at h; subst h; exact ⟨⟨_, rfl, Or.inr ⟨_, _, k11_233_10⟩⟩, by decide⟩
  rw [if_neg q10] at h
  cases h
def vt11_237 (ci : Nat) : Option AM := if ci = 1 then some mX1_priceOfPut else if ci = 2 then some mX2_priceOfPut else if ci = 3 then some mX3_priceOfPut else if ci = 4 then some mX4_priceOfPut else if ci = 5 then some mX5_priceOfPut else if ci = 6 then some mX4_priceOfPut else if ci = 7 then some mX7_priceOfPut else if ci = 10 then some mX10_priceOfPut else none
theorem kx11_237 {ci : Nat} {M' : AM} (h : vt11_237 ci = some M') : kX RX11 237 ci M' 1 ∧ 2 ≤ mL M' := by
  unfold vt11_237 at h
  by_cases q1 : ci = 1
  · subst q1; simp at h; subst h; exact ⟨⟨_, rfl, Or.inr ⟨_, _, k11_237_1⟩⟩, by decide⟩
  rw [if_neg q1] at h
  by_cases q2 : ci = 2
  · subst q2; simp at h; subst h; exact ⟨⟨_, rfl, Or.inr ⟨_, _, k11_237_2⟩⟩, by decide⟩
  rw [if_neg q2] at h
  by_cases q3 : ci = 3
  · subst q3; simp at h; subst h; exact ⟨⟨_, rfl, Or.inr ⟨_, _, k11_237_3⟩⟩, by decide⟩
  rw [if_neg q3] at h
  by_cases q4 : ci = 4
  · subst q4; simp at h; subst h; exact ⟨⟨_, rfl, Or.inr ⟨_, _, k11_237_4⟩⟩, by decide⟩
  rw [if_neg q4] at h
  by_cases q5 : ci = 5
  · subst q5; simp at h; subst h; exact ⟨⟨_, rfl, Or.inl k11_237_5⟩, by decide⟩
  rw [if_neg q5] at h
  by_cases q6 : ci = 6
  · subst q6; simp at h; subst h; exact ⟨⟨_, rfl, Or.inr ⟨_, _, k11_237_6⟩⟩, by decide⟩
  rw [if_neg q6] at h
  by_cases q7 : ci = 7
  · subst q7; simp at h; subst h; exact ⟨⟨_, rfl, Or.inr ⟨_, _, k11_237_7⟩⟩, by decide⟩
  rw [if_neg q7] at h
  by_cases q10 : ci = 10
  · subst q10; simp at h; subst h; exact ⟨⟨_, rfl, Or.inr ⟨_, _, k11_237_10⟩⟩, by decide⟩
  rw [if_neg q10] at h
  cases h
def vt11_322 (ci : Nat) : Option AM := if ci = 1 then some mX1_finds else if ci = 2 then some mX3_finds else if ci = 3 then some mX3_finds else if ci = 4 then some mX3_finds else if ci = 5 then some mX5_finds else if ci = 6 then some mX3_finds else if ci = 7 then some mX7_finds else if ci = 10 then some mX5_finds else none
theorem kx11_322 {ci : Nat} {M' : AM} (h : vt11_322 ci = some M') : kX RX11 322 ci M' 1 ∧ 2 ≤ mL M' := by
  unfold vt11_322 at h
  by_cases q1 : ci = 1
  · subst q1; simp at h; subst h; exact ⟨⟨_, rfl, Or.inr ⟨_, _, k11_322_1⟩⟩, by decide⟩
  rw [if_neg q1] at h
  by_cases q2 : ci = 2
  · subst q2; simp at h; subst h; exact ⟨⟨_, rfl, Or.inr ⟨_, _, k11_322_2⟩⟩, by decide⟩
  rw [if_neg q2] at h
  by_cases q3 : ci = 3
  · subst q3; simp at h; subst h; exact ⟨⟨_, rfl, Or.inr ⟨_, _, k11_322_3⟩⟩, by decide⟩
  rw [if_neg q3] at h
  by_cases q4 : ci = 4
  · subst q4; simp at h; subst h; exact ⟨⟨_, rfl, Or.inr ⟨_, _, k11_322_4⟩⟩, by decide⟩
  rw [if_neg q4] at h
  by_cases q5 : ci = 5
  · subst q5; simp at h; subst h; exact ⟨⟨_, rfl, Or.inl k11_322_5⟩, by decide⟩
  rw [if_neg q5] at h
  by_cases q6 : ci = 6
  · subst q6; simp at h; subst h; exact ⟨⟨_, rfl, Or.inr ⟨_, _, k11_322_6⟩⟩, by decide⟩
  rw [if_neg q6] at h
  by_cases q7 : ci = 7
  · subst q7; simp at h; subst h; exact ⟨⟨_, rfl, Or.inr ⟨_, _, k11_322_7⟩⟩, by decide⟩
  rw [if_neg q7] at h
  by_cases q10 : ci = 10
  · subst q10; simp at h; subst h; exact ⟨⟨_, rfl, Or.inr ⟨_, _, k11_322_10⟩⟩, by decide⟩
  rw [if_neg q10] at h
  cases h
def vt11_325 (ci : Nat) : Option AM := if ci = 1 then some mX5_mends else if ci = 2 then some mX5_mends else if ci = 3 then some mX5_mends else if ci = 4 then some mX4_mends else if ci = 5 then some mX5_mends else if ci = 6 then some mX6_mends else if ci = 7 then some mX5_mends else if ci = 10 then some mX5_mends else none
theorem kx11_325 {ci : Nat} {M' : AM} (h : vt11_325 ci = some M') : kX RX11 325 ci M' 1 ∧ 2 ≤ mL M' := by
  unfold vt11_325 at h
  by_cases q1 : ci = 1
  · subst q1; simp at h; subst h; exact ⟨⟨_, rfl, Or.inr ⟨_, _, k11_325_1⟩⟩, by decide⟩
  rw [if_neg q1] at h
  by_cases q2 : ci = 2
  · subst q2; simp at h; subst h; exact ⟨⟨_, rfl, Or.inr ⟨_, _, k11_325_2⟩⟩, by decide⟩
  rw [if_neg q2] at h
  by_cases q3 : ci = 3
  · subst q3; simp at h; subst h; exact ⟨⟨_, rfl, Or.inr ⟨_, _, k11_325_3⟩⟩, by decide⟩
  rw [if_neg q3] at h
  by_cases q4 : ci = 4
  · subst q4; simp at h; subst h; exact ⟨⟨_, rfl, Or.inr ⟨_, _, k11_325_4⟩⟩, by decide⟩
  rw [if_neg q4] at h
  by_cases q5 : ci = 5
  · subst q5; simp at h; subst h; exact ⟨⟨_, rfl, Or.inl k11_325_5⟩, by decide⟩
  rw [if_neg q5] at h
  by_cases q6 : ci = 6
  · subst q6; simp at h; subst h; exact ⟨⟨_, rfl, Or.inr ⟨_, _, k11_325_6⟩⟩, by decide⟩
  rw [if_neg q6] at h
  by_cases q7 : ci = 7
  · subst q7; simp at h; subst h; exact ⟨⟨_, rfl, Or.inr ⟨_, _, k11_325_7⟩⟩, by decide⟩
  rw [if_neg q7] at h
  by_cases q10 : ci = 10
  · subst q10; simp at h; subst h; exact ⟨⟨_, rfl, Or.inr ⟨_, _, k11_325_10⟩⟩, by decide⟩
  rw [if_neg q10] at h
  cases h
def vt11_328 (ci : Nat) : Option AM := if ci = 1 then some mX1_keeps else if ci = 2 then some mX2_keeps else if ci = 3 then some mX5_keeps else if ci = 4 then some mX5_keeps else if ci = 5 then some mX5_keeps else if ci = 6 then some mX5_keeps else if ci = 7 then some mX5_keeps else if ci = 10 then some mX5_keeps else none
theorem kx11_328 {ci : Nat} {M' : AM} (h : vt11_328 ci = some M') : kX RX11 328 ci M' 1 ∧ 2 ≤ mL M' := by
  unfold vt11_328 at h
  by_cases q1 : ci = 1
  · subst q1; simp at h; subst h; exact ⟨⟨_, rfl, Or.inr ⟨_, _, k11_328_1⟩⟩, by decide⟩
  rw [if_neg q1] at h
  by_cases q2 : ci = 2
  · subst q2; simp at h; subst h; exact ⟨⟨_, rfl, Or.inr ⟨_, _, k11_328_2⟩⟩, by decide⟩
  rw [if_neg q2] at h
  by_cases q3 : ci = 3
  · subst q3; simp at h; subst h; exact ⟨⟨_, rfl, Or.inr ⟨_, _, k11_328_3⟩⟩, by decide⟩
  rw [if_neg q3] at h
  by_cases q4 : ci = 4
  · subst q4; simp at h; subst h; exact ⟨⟨_, rfl, Or.inr ⟨_, _, k11_328_4⟩⟩, by decide⟩
  rw [if_neg q4] at h
  by_cases q5 : ci = 5
  · subst q5; simp at h; subst h; exact ⟨⟨_, rfl, Or.inl k11_328_5⟩, by decide⟩
  rw [if_neg q5] at h
  by_cases q6 : ci = 6
  · subst q6; simp at h; subst h; exact ⟨⟨_, rfl, Or.inr ⟨_, _, k11_328_6⟩⟩, by decide⟩
  rw [if_neg q6] at h
  by_cases q7 : ci = 7
  · subst q7; simp at h; subst h; exact ⟨⟨_, rfl, Or.inr ⟨_, _, k11_328_7⟩⟩, by decide⟩
  rw [if_neg q7] at h
  by_cases q10 : ci = 10
  · subst q10; simp at h; subst h; exact ⟨⟨_, rfl, Or.inr ⟨_, _, k11_328_10⟩⟩, by decide⟩
  rw [if_neg q10] at h
  cases h
def vt11_331 (ci : Nat) : Option AM := if ci = 1 then some mX5_tells else if ci = 2 then some mX5_tells else if ci = 3 then some mX5_tells else if ci = 4 then some mX5_tells else if ci = 5 then some mX5_tells else if ci = 6 then some mX5_tells else if ci = 7 then some mX5_tells else if ci = 10 then some mX10_tells else none
theorem kx11_331 {ci : Nat} {M' : AM} (h : vt11_331 ci = some M') : kX RX11 331 ci M' 1 ∧ 2 ≤ mL M' := by
  unfold vt11_331 at h
  by_cases q1 : ci = 1
  · subst q1; simp at h; subst h; exact ⟨⟨_, rfl, Or.inr ⟨_, _, k11_331_1⟩⟩, by decide⟩
  rw [if_neg q1] at h
  by_cases q2 : ci = 2
  · subst q2; simp at h; subst h; exact ⟨⟨_, rfl, Or.inr ⟨_, _, k11_331_2⟩⟩, by decide⟩
  rw [if_neg q2] at h
  by_cases q3 : ci = 3
  · subst q3; simp at h; subst h; exact ⟨⟨_, rfl, Or.inr ⟨_, _, k11_331_3⟩⟩, by decide⟩
  rw [if_neg q3] at h
  by_cases q4 : ci = 4
  · subst q4; simp at h; subst h; exact ⟨⟨_, rfl, Or.inr ⟨_, _, k11_331_4⟩⟩, by decide⟩
  rw [if_neg q4] at h
  by_cases q5 : ci = 5
  · subst q5; simp at h; subst h; exact ⟨⟨_, rfl, Or.inl k11_331_5⟩, by decide⟩
  rw [if_neg q5] at h
  by_cases q6 : ci = 6
  · subst q6; simp at h; subst h; exact ⟨⟨_, rfl, Or.inr ⟨_, _, k11_331_6⟩⟩, by decide⟩
  rw [if_neg q6] at h
  by_cases q7 : ci = 7
  · subst q7; simp at h; subst h; exact ⟨⟨_, rfl, Or.inr ⟨_, _, k11_331_7⟩⟩, by decide⟩
  rw [if_neg q7] at h
  by_cases q10 : ci = 10
  · subst q10; simp at h; subst h; exact ⟨⟨_, rfl, Or.inr ⟨_, _, k11_331_10⟩⟩, by decide⟩
  rw [if_neg q10] at h
  cases h
theorem iy11_168 {G : Gp} {d : Nat} {M : AM} {pc : Nat} {ls : AL} {st : List Value} {h : AH} {fin : Nat × Nat} {Q : Option Value → AH → Prop} {a ci : Nat} {fs : List Value} (hd : decode (mC M) pc = .ok (.instanceof 168, 3)) (hc : h.1 a = some (.inr (ci, fs))) (z : ci ∈ [2, 3, 4, 6]) (kk : wp G d M (pc + 3) ls (.int 1 :: st) h fin Q) (ho : (mY M).cls = RX11 := by rfl) : wp G d M pc ls (.ref a :: st) h fin Q := by
  simp only [List.mem_cons, List.not_mem_nil, or_false] at z
  rcases z with rfl | rfl | rfl | rfl <;> exact wp_instY (cj := 3) hd hc rfl rfl (by rw [ho]; exact l11_168) (by first | exact Or.inl rfl | exact Or.inr (by decide +kernel)) kk
theorem io11_168 {G : Gp} {d : Nat} {M : AM} {pc : Nat} {ls : AL} {st : List Value} {h : AH} {fin : Nat × Nat} {Q : Option Value → AH → Prop} {a ci : Nat} {fs : List Value} (hd : decode (mC M) pc = .ok (.instanceof 168, 3)) (hc : h.1 a = some (.inr (ci, fs))) (z : ci ∈ [1, 5, 7, 10]) (kk : wp G d M (pc + 3) ls (.int 0 :: st) h fin Q) (ho : (mY M).cls = RX11 := by rfl) : wp G d M pc ls (.ref a :: st) h fin Q := by
  simp only [List.mem_cons, List.not_mem_nil, or_false] at z
  rcases z with rfl | rfl | rfl | rfl <;> exact wp_instNo (cj := 3) hd hc rfl rfl (by rw [ho]; exact l11_168) (by decide +kernel) kk
theorem iy11_173 {G : Gp} {d : Nat} {M : AM} {pc : Nat} {ls : AL} {st : List Value} {h : AH} {fin : Nat × Nat} {Q : Option Value → AH → Prop} {a ci : Nat} {fs : List Value} (hd : decode (mC M) pc = .ok (.instanceof 173, 3)) (hc : h.1 a = some (.inr (ci, fs))) (z : ci ∈ [4, 6]) (kk : wp G d M (pc + 3) ls (.int 1 :: st) h fin Q) (ho : (mY M).cls = RX11 := by rfl) : wp G d M pc ls (.ref a :: st) h fin Q := by
  simp only [List.mem_cons, List.not_mem_nil, or_false] at z
  rcases z with rfl | rfl <;> exact wp_instY (cj := 4) hd hc rfl rfl (by rw [ho]; exact l11_173) (by first | exact Or.inl rfl | exact Or.inr (by decide +kernel)) kk
theorem io11_173 {G : Gp} {d : Nat} {M : AM} {pc : Nat} {ls : AL} {st : List Value} {h : AH} {fin : Nat × Nat} {Q : Option Value → AH → Prop} {a ci : Nat} {fs : List Value} (hd : decode (mC M) pc = .ok (.instanceof 173, 3)) (hc : h.1 a = some (.inr (ci, fs))) (z : ci ∈ [1, 2, 3, 5, 7, 10]) (kk : wp G d M (pc + 3) ls (.int 0 :: st) h fin Q) (ho : (mY M).cls = RX11 := by rfl) : wp G d M pc ls (.ref a :: st) h fin Q := by
  simp only [List.mem_cons, List.not_mem_nil, or_false] at z
  rcases z with rfl | rfl | rfl | rfl | rfl | rfl <;> exact wp_instNo (cj := 4) hd hc rfl rfl (by rw [ho]; exact l11_173) (by decide +kernel) kk
theorem iy11_176 {G : Gp} {d : Nat} {M : AM} {pc : Nat} {ls : AL} {st : List Value} {h : AH} {fin : Nat × Nat} {Q : Option Value → AH → Prop} {a ci : Nat} {fs : List Value} (hd : decode (mC M) pc = .ok (.instanceof 176, 3)) (hc : h.1 a = some (.inr (ci, fs))) (z : ci ∈ [2]) (kk : wp G d M (pc + 3) ls (.int 1 :: st) h fin Q) (ho : (mY M).cls = RX11 := by rfl) : wp G d M pc ls (.ref a :: st) h fin Q := by
  simp only [List.mem_cons, List.not_mem_nil, or_false] at z
  subst z
  exact wp_instY (cj := 2) hd hc rfl rfl (by rw [ho]; exact l11_176) (by first | exact Or.inl rfl | exact Or.inr (by decide +kernel)) kk
theorem io11_176 {G : Gp} {d : Nat} {M : AM} {pc : Nat} {ls : AL} {st : List Value} {h : AH} {fin : Nat × Nat} {Q : Option Value → AH → Prop} {a ci : Nat} {fs : List Value} (hd : decode (mC M) pc = .ok (.instanceof 176, 3)) (hc : h.1 a = some (.inr (ci, fs))) (z : ci ∈ [1, 3, 4, 5, 6, 7, 10]) (kk : wp G d M (pc + 3) ls (.int 0 :: st) h fin Q) (ho : (mY M).cls = RX11 := by rfl) : wp G d M pc ls (.ref a :: st) h fin Q := by
  simp only [List.mem_cons, List.not_mem_nil, or_false] at z
  rcases z with rfl | rfl | rfl | rfl | rfl | rfl | rfl <;> exact wp_instNo (cj := 2) hd hc rfl rfl (by rw [ho]; exact l11_176) (by decide +kernel) kk
theorem iy11_179 {G : Gp} {d : Nat} {M : AM} {pc : Nat} {ls : AL} {st : List Value} {h : AH} {fin : Nat × Nat} {Q : Option Value → AH → Prop} {a ci : Nat} {fs : List Value} (hd : decode (mC M) pc = .ok (.instanceof 179, 3)) (hc : h.1 a = some (.inr (ci, fs))) (z : ci ∈ [1, 7]) (kk : wp G d M (pc + 3) ls (.int 1 :: st) h fin Q) (ho : (mY M).cls = RX11 := by rfl) : wp G d M pc ls (.ref a :: st) h fin Q := by
  simp only [List.mem_cons, List.not_mem_nil, or_false] at z
  rcases z with rfl | rfl <;> exact wp_instY (cj := 7) hd hc rfl rfl (by rw [ho]; exact l11_179) (by first | exact Or.inl rfl | exact Or.inr (by decide +kernel)) kk
theorem io11_179 {G : Gp} {d : Nat} {M : AM} {pc : Nat} {ls : AL} {st : List Value} {h : AH} {fin : Nat × Nat} {Q : Option Value → AH → Prop} {a ci : Nat} {fs : List Value} (hd : decode (mC M) pc = .ok (.instanceof 179, 3)) (hc : h.1 a = some (.inr (ci, fs))) (z : ci ∈ [2, 3, 4, 5, 6, 10]) (kk : wp G d M (pc + 3) ls (.int 0 :: st) h fin Q) (ho : (mY M).cls = RX11 := by rfl) : wp G d M pc ls (.ref a :: st) h fin Q := by
  simp only [List.mem_cons, List.not_mem_nil, or_false] at z
  rcases z with rfl | rfl | rfl | rfl | rfl | rfl <;> exact wp_instNo (cj := 7) hd hc rfl rfl (by rw [ho]; exact l11_179) (by decide +kernel) kk
theorem iy11_184 {G : Gp} {d : Nat} {M : AM} {pc : Nat} {ls : AL} {st : List Value} {h : AH} {fin : Nat × Nat} {Q : Option Value → AH → Prop} {a ci : Nat} {fs : List Value} (hd : decode (mC M) pc = .ok (.instanceof 184, 3)) (hc : h.1 a = some (.inr (ci, fs))) (z : ci ∈ [10]) (kk : wp G d M (pc + 3) ls (.int 1 :: st) h fin Q) (ho : (mY M).cls = RX11 := by rfl) : wp G d M pc ls (.ref a :: st) h fin Q := by
  simp only [List.mem_cons, List.not_mem_nil, or_false] at z
  subst z
  exact wp_instY (cj := 10) hd hc rfl rfl (by rw [ho]; exact l11_184) (by first | exact Or.inl rfl | exact Or.inr (by decide +kernel)) kk
theorem io11_184 {G : Gp} {d : Nat} {M : AM} {pc : Nat} {ls : AL} {st : List Value} {h : AH} {fin : Nat × Nat} {Q : Option Value → AH → Prop} {a ci : Nat} {fs : List Value} (hd : decode (mC M) pc = .ok (.instanceof 184, 3)) (hc : h.1 a = some (.inr (ci, fs))) (z : ci ∈ [1, 2, 3, 4, 5, 6, 7]) (kk : wp G d M (pc + 3) ls (.int 0 :: st) h fin Q) (ho : (mY M).cls = RX11 := by rfl) : wp G d M pc ls (.ref a :: st) h fin Q := by
  simp only [List.mem_cons, List.not_mem_nil, or_false] at z
  rcases z with rfl | rfl | rfl | rfl | rfl | rfl | rfl <;> exact wp_instNo (cj := 10) hd hc rfl rfl (by rw [ho]; exact l11_184) (by decide +kernel) kk
theorem iy11_187 {G : Gp} {d : Nat} {M : AM} {pc : Nat} {ls : AL} {st : List Value} {h : AH} {fin : Nat × Nat} {Q : Option Value → AH → Prop} {a ci : Nat} {fs : List Value} (hd : decode (mC M) pc = .ok (.instanceof 187, 3)) (hc : h.1 a = some (.inr (ci, fs))) (z : ci ∈ [1]) (kk : wp G d M (pc + 3) ls (.int 1 :: st) h fin Q) (ho : (mY M).cls = RX11 := by rfl) : wp G d M pc ls (.ref a :: st) h fin Q := by
  simp only [List.mem_cons, List.not_mem_nil, or_false] at z
  subst z
  exact wp_instY (cj := 1) hd hc rfl rfl (by rw [ho]; exact l11_187) (by first | exact Or.inl rfl | exact Or.inr (by decide +kernel)) kk
theorem io11_187 {G : Gp} {d : Nat} {M : AM} {pc : Nat} {ls : AL} {st : List Value} {h : AH} {fin : Nat × Nat} {Q : Option Value → AH → Prop} {a ci : Nat} {fs : List Value} (hd : decode (mC M) pc = .ok (.instanceof 187, 3)) (hc : h.1 a = some (.inr (ci, fs))) (z : ci ∈ [2, 3, 4, 5, 6, 7, 10]) (kk : wp G d M (pc + 3) ls (.int 0 :: st) h fin Q) (ho : (mY M).cls = RX11 := by rfl) : wp G d M pc ls (.ref a :: st) h fin Q := by
  simp only [List.mem_cons, List.not_mem_nil, or_false] at z
  rcases z with rfl | rfl | rfl | rfl | rfl | rfl | rfl <;> exact wp_instNo (cj := 1) hd hc rfl rfl (by rw [ho]; exact l11_187) (by decide +kernel) kk
theorem iy11_190 {G : Gp} {d : Nat} {M : AM} {pc : Nat} {ls : AL} {st : List Value} {h : AH} {fin : Nat × Nat} {Q : Option Value → AH → Prop} {a ci : Nat} {fs : List Value} (hd : decode (mC M) pc = .ok (.instanceof 190, 3)) (hc : h.1 a = some (.inr (ci, fs))) (z : ci ∈ [6]) (kk : wp G d M (pc + 3) ls (.int 1 :: st) h fin Q) (ho : (mY M).cls = RX11 := by rfl) : wp G d M pc ls (.ref a :: st) h fin Q := by
  simp only [List.mem_cons, List.not_mem_nil, or_false] at z
  subst z
  exact wp_instY (cj := 6) hd hc rfl rfl (by rw [ho]; exact l11_190) (by first | exact Or.inl rfl | exact Or.inr (by decide +kernel)) kk
theorem io11_190 {G : Gp} {d : Nat} {M : AM} {pc : Nat} {ls : AL} {st : List Value} {h : AH} {fin : Nat × Nat} {Q : Option Value → AH → Prop} {a ci : Nat} {fs : List Value} (hd : decode (mC M) pc = .ok (.instanceof 190, 3)) (hc : h.1 a = some (.inr (ci, fs))) (z : ci ∈ [1, 2, 3, 4, 5, 7, 10]) (kk : wp G d M (pc + 3) ls (.int 0 :: st) h fin Q) (ho : (mY M).cls = RX11 := by rfl) : wp G d M pc ls (.ref a :: st) h fin Q := by
  simp only [List.mem_cons, List.not_mem_nil, or_false] at z
  rcases z with rfl | rfl | rfl | rfl | rfl | rfl | rfl <;> exact wp_instNo (cj := 6) hd hc rfl rfl (by rw [ho]; exact l11_190) (by decide +kernel) kk
