def NW (h : AH) (c : AC) (n : Nat) (fin : Nat × Nat) (P : Nat → AH → Prop) : Prop := h.2.1 + 1 ≤ fin.1 ∧ h.2.2 + n ≤ fin.2 ∧ P h.2.1 (hnew h c n)
theorem acls_at {ci : Nat} (h : ci < 13) : acls[ci]? = some (acls[ci]'h) := List.getElem?_eq_getElem h
def vt3_22 (ci : Nat) : Option AM := if ci = 2 then some mX3_insertAt else if ci = 3 then some mX3_insertAt else if ci = 4 then some mX3_insertAt else if ci = 6 then some mX3_insertAt else none
theorem kx3_22 {ci : Nat} {M' : AM} (h : vt3_22 ci = some M') : kX RX3 22 ci M' 2 ∧ 3 ≤ mL M' := by
  unfold vt3_22 at h
  by_cases q2 : ci = 2
  · subst q2; simp at h; subst h; exact ⟨⟨_, rfl, Or.inr ⟨_, _, k3_22_2⟩⟩, by decide⟩
  rw [if_neg q2] at h
  by_cases q3 : ci = 3
  · subst q3; simp at h; subst h; exact ⟨⟨_, rfl, Or.inl k3_22_3⟩, by decide⟩
  rw [if_neg q3] at h
  by_cases q4 : ci = 4
  · subst q4; simp at h; subst h; exact ⟨⟨_, rfl, Or.inr ⟨_, _, k3_22_4⟩⟩, by decide⟩
  rw [if_neg q4] at h
  by_cases q6 : ci = 6
  · subst q6; simp at h; subst h; exact ⟨⟨_, rfl, Or.inr ⟨_, _, k3_22_6⟩⟩, by decide⟩
  rw [if_neg q6] at h
  cases h
def vt3_26 (ci : Nat) : Option AM := if ci = 2 then some mX3_placeOf else if ci = 3 then some mX3_placeOf else if ci = 4 then some mX3_placeOf else if ci = 6 then some mX3_placeOf else none
theorem kx3_26 {ci : Nat} {M' : AM} (h : vt3_26 ci = some M') : kX RX3 26 ci M' 1 ∧ 2 ≤ mL M' := by
  unfold vt3_26 at h
  by_cases q2 : ci = 2
  · subst q2; simp at h; subst h; exact ⟨⟨_, rfl, Or.inr ⟨_, _, k3_26_2⟩⟩, by decide⟩
  rw [if_neg q2] at h
  by_cases q3 : ci = 3
  · subst q3; simp at h; subst h; exact ⟨⟨_, rfl, Or.inl k3_26_3⟩, by decide⟩
  rw [if_neg q3] at h
  by_cases q4 : ci = 4
  · subst q4; simp at h; subst h; exact ⟨⟨_, rfl, Or.inr ⟨_, _, k3_26_4⟩⟩, by decide⟩
  rw [if_neg q4] at h
  by_cases q6 : ci = 6
  · subst q6; simp at h; subst h; exact ⟨⟨_, rfl, Or.inr ⟨_, _, k3_26_6⟩⟩, by decide⟩
  rw [if_neg q6] at h
  cases h
def vt3_30 (ci : Nat) : Option AM := if ci = 2 then some mX3_removeAt else if ci = 3 then some mX3_removeAt else if ci = 4 then some mX3_removeAt else if ci = 6 then some mX3_removeAt else none
theorem kx3_30 {ci : Nat} {M' : AM} (h : vt3_30 ci = some M') : kX RX3 30 ci M' 1 ∧ 2 ≤ mL M' := by
  unfold vt3_30 at h
  by_cases q2 : ci = 2
  · subst q2; simp at h; subst h; exact ⟨⟨_, rfl, Or.inr ⟨_, _, k3_30_2⟩⟩, by decide⟩
  rw [if_neg q2] at h
  by_cases q3 : ci = 3
  · subst q3; simp at h; subst h; exact ⟨⟨_, rfl, Or.inl k3_30_3⟩, by decide⟩
  rw [if_neg q3] at h
  by_cases q4 : ci = 4
  · subst q4; simp at h; subst h; exact ⟨⟨_, rfl, Or.inr ⟨_, _, k3_30_4⟩⟩, by decide⟩
  rw [if_neg q4] at h
  by_cases q6 : ci = 6
  · subst q6; simp at h; subst h; exact ⟨⟨_, rfl, Or.inr ⟨_, _, k3_30_6⟩⟩, by decide⟩
  rw [if_neg q6] at h
  cases h
def vt3_58 (ci : Nat) : Option AM := if ci = 2 then some mX5_led else if ci = 3 then some mX5_led else if ci = 4 then some mX5_led else if ci = 6 then some mX5_led else none
theorem kx3_58 {ci : Nat} {M' : AM} (h : vt3_58 ci = some M') : kX RX3 58 ci M' 1 ∧ 2 ≤ mL M' := by
  unfold vt3_58 at h
  by_cases q2 : ci = 2
  · subst q2; simp at h; subst h; exact ⟨⟨_, rfl, Or.inr ⟨_, _, k3_58_2⟩⟩, by decide⟩
  rw [if_neg q2] at h
  by_cases q3 : ci = 3
  · subst q3; simp at h; subst h; exact ⟨⟨_, rfl, Or.inr ⟨_, _, k3_58_3⟩⟩, by decide⟩
  rw [if_neg q3] at h
  by_cases q4 : ci = 4
  · subst q4; simp at h; subst h; exact ⟨⟨_, rfl, Or.inr ⟨_, _, k3_58_4⟩⟩, by decide⟩
  rw [if_neg q4] at h
  by_cases q6 : ci = 6
  · subst q6; simp at h; subst h; exact ⟨⟨_, rfl, Or.inr ⟨_, _, k3_58_6⟩⟩, by decide⟩
  rw [if_neg q6] at h
  cases h
def vt3_61 (ci : Nat) : Option AM := if ci = 1 then some mX1_finds else if ci = 2 then some mX3_finds else if ci = 3 then some mX3_finds else if ci = 4 then some mX3_finds else if ci = 5 then some mX5_finds else if ci = 6 then some mX3_finds else if ci = 7 then some mX7_finds else if ci = 10 then some mX5_finds else none
theorem kx3_61 {ci : Nat} {M' : AM} (h : vt3_61 ci = some M') : kX RX3 61 ci M' 1 ∧ 2 ≤ mL M' := by
  unfold vt3_61 at h
  by_cases q1 : ci = 1
  · subst q1; simp at h; subst h; exact ⟨⟨_, rfl, Or.inr ⟨_, _, k3_61_1⟩⟩, by decide⟩
  rw [if_neg q1] at h
  by_cases q2 : ci = 2
  · subst q2; simp at h; subst h; exact ⟨⟨_, rfl, Or.inr ⟨_, _, k3_61_2⟩⟩, by decide⟩
  rw [if_neg q2] at h
  by_cases q3 : ci = 3
  · subst q3; simp at h; subst h; exact ⟨⟨_, rfl, Or.inr ⟨_, _, k3_61_3⟩⟩, by decide⟩
  rw [if_neg q3] at h
  by_cases q4 : ci = 4
  · subst q4; simp at h; subst h; exact ⟨⟨_, rfl, Or.inr ⟨_, _, k3_61_4⟩⟩, by decide⟩
  rw [if_neg q4] at h
  by_cases q5 : ci = 5
  · subst q5; simp at h; subst h; exact ⟨⟨_, rfl, Or.inl k3_61_5⟩, by decide⟩
  rw [if_neg q5] at h
  by_cases q6 : ci = 6
  · subst q6; simp at h; subst h; exact ⟨⟨_, rfl, Or.inr ⟨_, _, k3_61_6⟩⟩, by decide⟩
  rw [if_neg q6] at h
  by_cases q7 : ci = 7
  · subst q7; simp at h; subst h; exact ⟨⟨_, rfl, Or.inr ⟨_, _, k3_61_7⟩⟩, by decide⟩
  rw [if_neg q7] at h
  by_cases q10 : ci = 10
  · subst q10; simp at h; subst h; exact ⟨⟨_, rfl, Or.inr ⟨_, _, k3_61_10⟩⟩, by decide⟩
  rw [if_neg q10] at h
  cases h
def vt4_22 (ci : Nat) : Option AM := if ci = 4 then some mX5_comesAhead else if ci = 6 then some mX5_comesAhead else none
theorem kx4_22 {ci : Nat} {M' : AM} (h : vt4_22 ci = some M') : kX RX4 22 ci M' 3 ∧ 4 ≤ mL M' := by
  unfold vt4_22 at h
  by_cases q4 : ci = 4
  · subst q4; simp at h; subst h; exact ⟨⟨_, rfl, Or.inr ⟨_, _, k4_22_4⟩⟩, by decide⟩
  rw [if_neg q4] at h
  by_cases q6 : ci = 6
  · subst q6; simp at h; subst h; exact ⟨⟨_, rfl, Or.inr ⟨_, _, k4_22_6⟩⟩, by decide⟩
  rw [if_neg q6] at h
  cases h
def vt4_29 (ci : Nat) : Option AM := if ci = 4 then some mX4_placeFor else if ci = 6 then some mX4_placeFor else none
theorem kx4_29 {ci : Nat} {M' : AM} (h : vt4_29 ci = some M') : kX RX4 29 ci M' 2 ∧ 3 ≤ mL M' := by
  unfold vt4_29 at h
  by_cases q4 : ci = 4
  · subst q4; simp at h; subst h; exact ⟨⟨_, rfl, Or.inl k4_29_4⟩, by decide⟩
  rw [if_neg q4] at h
  by_cases q6 : ci = 6
  · subst q6; simp at h; subst h; exact ⟨⟨_, rfl, Or.inr ⟨_, _, k4_29_6⟩⟩, by decide⟩
  rw [if_neg q6] at h
  cases h
def vt4_33 (ci : Nat) : Option AM := if ci = 4 then some mX3_insertAt else if ci = 6 then some mX3_insertAt else none
theorem kx4_33 {ci : Nat} {M' : AM} (h : vt4_33 ci = some M') : kX RX4 33 ci M' 2 ∧ 3 ≤ mL M' := by
  unfold vt4_33 at h
  by_cases q4 : ci = 4
  · subst q4; simp at h; subst h; exact ⟨⟨_, rfl, Or.inr ⟨_, _, k4_33_4⟩⟩, by decide⟩
  rw [if_neg q4] at h
  by_cases q6 : ci = 6
  · subst q6; simp at h; subst h; exact ⟨⟨_, rfl, Or.inr ⟨_, _, k4_33_6⟩⟩, by decide⟩
  rw [if_neg q6] at h
  cases h
def vt4_37 (ci : Nat) : Option AM := if ci = 4 then some mX3_removeAt else if ci = 6 then some mX3_removeAt else none
theorem kx4_37 {ci : Nat} {M' : AM} (h : vt4_37 ci = some M') : kX RX4 37 ci M' 1 ∧ 2 ≤ mL M' := by
  unfold vt4_37 at h
  by_cases q4 : ci = 4
  · subst q4; simp at h; subst h; exact ⟨⟨_, rfl, Or.inr ⟨_, _, k4_37_4⟩⟩, by decide⟩
  rw [if_neg q4] at h
  by_cases q6 : ci = 6
  · subst q6; simp at h; subst h; exact ⟨⟨_, rfl, Or.inr ⟨_, _, k4_37_6⟩⟩, by decide⟩
  rw [if_neg q6] at h
  cases h
def vt4_72 (ci : Nat) : Option AM := if ci = 4 then some mX5_led else if ci = 6 then some mX5_led else none
theorem kx4_72 {ci : Nat} {M' : AM} (h : vt4_72 ci = some M') : kX RX4 72 ci M' 1 ∧ 2 ≤ mL M' := by
  unfold vt4_72 at h
  by_cases q4 : ci = 4
  · subst q4; simp at h; subst h; exact ⟨⟨_, rfl, Or.inr ⟨_, _, k4_72_4⟩⟩, by decide⟩
  rw [if_neg q4] at h
  by_cases q6 : ci = 6
  · subst q6; simp at h; subst h; exact ⟨⟨_, rfl, Or.inr ⟨_, _, k4_72_6⟩⟩, by decide⟩
  rw [if_neg q6] at h
  cases h
def vt5_38 (ci : Nat) : Option AM := if ci = 1 then some mX1_putName else if ci = 2 then some mX2_putName else if ci = 3 then some mX3_putName else if ci = 4 then some mX4_putName else if ci = 5 then some mX5_putName else if ci = 6 then some mX6_putName else if ci = 7 then some mX7_putName else if ci = 10 then some mX10_putName else none
theorem kx5_38 {ci : Nat} {M' : AM} (h : vt5_38 ci = some M') : kX RX5 38 ci M' 1 ∧ 2 ≤ mL M' := by
  unfold vt5_38 at h
  by_cases q1 : ci = 1
  · subst q1; simp at h; subst h; exact ⟨⟨_, rfl, Or.inr ⟨_, _, k5_38_1⟩⟩, by decide⟩
  rw [if_neg q1] at h
  by_cases q2 : ci = 2
  · subst q2; simp at h; subst h; exact ⟨⟨_, rfl, Or.inr ⟨_, _, k5_38_2⟩⟩, by decide⟩
  rw [if_neg q2] at h
  by_cases q3 : ci = 3
  · subst q3; simp at h; subst h; exact ⟨⟨_, rfl, Or.inr ⟨_, _, k5_38_3⟩⟩, by decide⟩
  rw [if_neg q3] at h
  by_cases q4 : ci = 4
  · subst q4; simp at h; subst h; exact ⟨⟨_, rfl, Or.inr ⟨_, _, k5_38_4⟩⟩, by decide⟩
  rw [if_neg q4] at h
  by_cases q5 : ci = 5
  · subst q5; simp at h; subst h; exact ⟨⟨_, rfl, Or.inl k5_38_5⟩, by decide⟩
  rw [if_neg q5] at h
  by_cases q6 : ci = 6
  · subst q6; simp at h; subst h; exact ⟨⟨_, rfl, Or.inr ⟨_, _, k5_38_6⟩⟩, by decide⟩
  rw [if_neg q6] at h
  by_cases q7 : ci = 7
  · subst q7; simp at h; subst h; exact ⟨⟨_, rfl, Or.inr ⟨_, _, k5_38_7⟩⟩, by decide⟩
  rw [if_neg q7] at h
  by_cases q10 : ci = 10
  · subst q10; simp at h; subst h; exact ⟨⟨_, rfl, Or.inr ⟨_, _, k5_38_10⟩⟩, by decide⟩
  rw [if_neg q10] at h
  cases h
def vt5_48 (ci : Nat) : Option AM := if ci = 1 then some mX1_takeName else if ci = 2 then some mX2_takeName else if ci = 3 then some mX3_takeName else if ci = 4 then some mX4_takeName else if ci = 5 then some mX5_takeName else if ci = 6 then some mX6_takeName else if ci = 7 then some mX7_takeName else if ci = 10 then some mX10_takeName else none
theorem kx5_48 {ci : Nat} {M' : AM} (h : vt5_48 ci = some M') : kX RX5 48 ci M' 1 ∧ 2 ≤ mL M' := by
  unfold vt5_48 at h
  by_cases q1 : ci = 1
  · subst q1; simp at h; subst h; exact ⟨⟨_, rfl, Or.inr ⟨_, _, k5_48_1⟩⟩, by decide⟩
  rw [if_neg q1] at h
  by_cases q2 : ci = 2
  · subst q2; simp at h; subst h; exact ⟨⟨_, rfl, Or.inr ⟨_, _, k5_48_2⟩⟩, by decide⟩
  rw [if_neg q2] at h
  by_cases q3 : ci = 3
  · subst q3; simp at h; subst h; exact ⟨⟨_, rfl, Or.inr ⟨_, _, k5_48_3⟩⟩, by decide⟩
  rw [if_neg q3] at h
  by_cases q4 : ci = 4
  · subst q4; simp at h; subst h; exact ⟨⟨_, rfl, Or.inr ⟨_, _, k5_48_4⟩⟩, by decide⟩
  rw [if_neg q4] at h
  by_cases q5 : ci = 5
  · subst q5; simp at h; subst h; exact ⟨⟨_, rfl, Or.inl k5_48_5⟩, by decide⟩
  rw [if_neg q5] at h
  by_cases q6 : ci = 6
  · subst q6; simp at h; subst h; exact ⟨⟨_, rfl, Or.inr ⟨_, _, k5_48_6⟩⟩, by decide⟩
  rw [if_neg q6] at h
  by_cases q7 : ci = 7
  · subst q7; simp at h; subst h; exact ⟨⟨_, rfl, Or.inr ⟨_, _, k5_48_7⟩⟩, by decide⟩
  rw [if_neg q7] at h
  by_cases q10 : ci = 10
  · subst q10; simp at h; subst h; exact ⟨⟨_, rfl, Or.inr ⟨_, _, k5_48_10⟩⟩, by decide⟩
  rw [if_neg q10] at h
  cases h
def vt5_67 (ci : Nat) : Option AM := if ci = 1 then some mX5_led else if ci = 2 then some mX5_led else if ci = 3 then some mX5_led else if ci = 4 then some mX5_led else if ci = 5 then some mX5_led else if ci = 6 then some mX5_led else if ci = 7 then some mX5_led else if ci = 10 then some mX5_led else none
theorem kx5_67 {ci : Nat} {M' : AM} (h : vt5_67 ci = some M') : kX RX5 67 ci M' 1 ∧ 2 ≤ mL M' := by
  unfold vt5_67 at h
  by_cases q1 : ci = 1
  · subst q1; simp at h; subst h; exact ⟨⟨_, rfl, Or.inr ⟨_, _, k5_67_1⟩⟩, by decide⟩
  rw [if_neg q1] at h
  by_cases q2 : ci = 2
  · subst q2; simp at h; subst h; exact ⟨⟨_, rfl, Or.inr ⟨_, _, k5_67_2⟩⟩, by decide⟩
  rw [if_neg q2] at h
  by_cases q3 : ci = 3
  · subst q3; simp at h; subst h; exact ⟨⟨_, rfl, Or.inr ⟨_, _, k5_67_3⟩⟩, by decide⟩
  rw [if_neg q3] at h
  by_cases q4 : ci = 4
  · subst q4; simp at h; subst h; exact ⟨⟨_, rfl, Or.inr ⟨_, _, k5_67_4⟩⟩, by decide⟩
  rw [if_neg q4] at h
  by_cases q5 : ci = 5
  · subst q5; simp at h; subst h; exact ⟨⟨_, rfl, Or.inl k5_67_5⟩, by decide⟩
  rw [if_neg q5] at h
  by_cases q6 : ci = 6
  · subst q6; simp at h; subst h; exact ⟨⟨_, rfl, Or.inr ⟨_, _, k5_67_6⟩⟩, by decide⟩
  rw [if_neg q6] at h
  by_cases q7 : ci = 7
  · subst q7; simp at h; subst h; exact ⟨⟨_, rfl, Or.inr ⟨_, _, k5_67_7⟩⟩, by decide⟩
  rw [if_neg q7] at h
  by_cases q10 : ci = 10
  · subst q10; simp at h; subst h; exact ⟨⟨_, rfl, Or.inr ⟨_, _, k5_67_10⟩⟩, by decide⟩
  rw [if_neg q10] at h
  cases h
def vt5_70 (ci : Nat) : Option AM := if ci = 1 then some mX1_finds else if ci = 2 then some mX3_finds else if ci = 3 then some mX3_finds else if ci = 4 then some mX3_finds else if ci = 5 then some mX5_finds else if ci = 6 then some mX3_finds else if ci = 7 then some mX7_finds else if ci = 10 then some mX5_finds else none
theorem kx5_70 {ci : Nat} {M' : AM} (h : vt5_70 ci = some M') : kX RX5 70 ci M' 1 ∧ 2 ≤ mL M' := by
  unfold vt5_70 at h
  by_cases q1 : ci = 1
  · subst q1; simp at h; subst h; exact ⟨⟨_, rfl, Or.inr ⟨_, _, k5_70_1⟩⟩, by decide⟩
  rw [if_neg q1] at h
  by_cases q2 : ci = 2
  · subst q2; simp at h; subst h; exact ⟨⟨_, rfl, Or.inr ⟨_, _, k5_70_2⟩⟩, by decide⟩
  rw [if_neg q2] at h
  by_cases q3 : ci = 3
  · subst q3; simp at h; subst h; exact ⟨⟨_, rfl, Or.inr ⟨_, _, k5_70_3⟩⟩, by decide⟩
  rw [if_neg q3] at h
  by_cases q4 : ci = 4
  · subst q4; simp at h; subst h; exact ⟨⟨_, rfl, Or.inr ⟨_, _, k5_70_4⟩⟩, by decide⟩
  rw [if_neg q4] at h
  by_cases q5 : ci = 5
  · subst q5; simp at h; subst h; exact ⟨⟨_, rfl, Or.inl k5_70_5⟩, by decide⟩
  rw [if_neg q5] at h
  by_cases q6 : ci = 6
  · subst q6; simp at h; subst h; exact ⟨⟨_, rfl, Or.inr ⟨_, _, k5_70_6⟩⟩, by decide⟩
  rw [if_neg q6] at h
  by_cases q7 : ci = 7
  · subst q7; simp at h; subst h; exact ⟨⟨_, rfl, Or.inr ⟨_, _, k5_70_7⟩⟩, by decide⟩
  rw [if_neg q7] at h
  by_cases q10 : ci = 10
  · subst q10; simp at h; subst h; exact ⟨⟨_, rfl, Or.inr ⟨_, _, k5_70_10⟩⟩, by decide⟩
  rw [if_neg q10] at h
  cases h
def vt5_73 (ci : Nat) : Option AM := if ci = 1 then some mX5_mends else if ci = 2 then some mX5_mends else if ci = 3 then some mX5_mends else if ci = 4 then some mX4_mends else if ci = 5 then some mX5_mends else if ci = 6 then some mX6_mends else if ci = 7 then some mX5_mends else if ci = 10 then some mX5_mends else none
theorem kx5_73 {ci : Nat} {M' : AM} (h : vt5_73 ci = some M') : kX RX5 73 ci M' 1 ∧ 2 ≤ mL M' := by
  unfold vt5_73 at h
  by_cases q1 : ci = 1
  · subst q1; simp at h; subst h; exact ⟨⟨_, rfl, Or.inr ⟨_, _, k5_73_1⟩⟩, by decide⟩
  rw [if_neg q1] at h
  by_cases q2 : ci = 2
  · subst q2; simp at h; subst h; exact ⟨⟨_, rfl, Or.inr ⟨_, _, k5_73_2⟩⟩, by decide⟩
  rw [if_neg q2] at h
  by_cases q3 : ci = 3
  · subst q3; simp at h; subst h; exact ⟨⟨_, rfl, Or.inr ⟨_, _, k5_73_3⟩⟩, by decide⟩
  rw [if_neg q3] at h
  by_cases q4 : ci = 4
  · subst q4; simp at h; subst h; exact ⟨⟨_, rfl, Or.inr ⟨_, _, k5_73_4⟩⟩, by decide⟩
  rw [if_neg q4] at h
  by_cases q5 : ci = 5
  · subst q5; simp at h; subst h; exact ⟨⟨_, rfl, Or.inl k5_73_5⟩, by decide⟩
  rw [if_neg q5] at h
  by_cases q6 : ci = 6
  · subst q6; simp at h; subst h; exact ⟨⟨_, rfl, Or.inr ⟨_, _, k5_73_6⟩⟩, by decide⟩
  rw [if_neg q6] at h
  by_cases q7 : ci = 7
  · subst q7; simp at h; subst h; exact ⟨⟨_, rfl, Or.inr ⟨_, _, k5_73_7⟩⟩, by decide⟩
  rw [if_neg q7] at h
  by_cases q10 : ci = 10
  · subst q10; simp at h; subst h; exact ⟨⟨_, rfl, Or.inr ⟨_, _, k5_73_10⟩⟩, by decide⟩
  rw [if_neg q10] at h
  cases h
def vt5_76 (ci : Nat) : Option AM := if ci = 1 then some mX1_keeps else if ci = 2 then some mX2_keeps else if ci = 3 then some mX5_keeps else if ci = 4 then some mX5_keeps else if ci = 5 then some mX5_keeps else if ci = 6 then some mX5_keeps else if ci = 7 then some mX5_keeps else if ci = 10 then some mX5_keeps else none
theorem kx5_76 {ci : Nat} {M' : AM} (h : vt5_76 ci = some M') : kX RX5 76 ci M' 1 ∧ 2 ≤ mL M' := by
  unfold vt5_76 at h
  by_cases q1 : ci = 1
  · subst q1; simp at h; subst h; exact ⟨⟨_, rfl, Or.inr ⟨_, _, k5_76_1⟩⟩, by decide⟩
  rw [if_neg q1] at h
  by_cases q2 : ci = 2
  · subst q2; simp at h; subst h; exact ⟨⟨_, rfl, Or.inr ⟨_, _, k5_76_2⟩⟩, by decide⟩
  rw [if_neg q2] at h
  by_cases q3 : ci = 3
  · subst q3; simp at h; subst h; exact ⟨⟨_, rfl, Or.inr ⟨_, _, k5_76_3⟩⟩, by decide⟩
  rw [if_neg q3] at h
  by_cases q4 : ci = 4
  · subst q4; simp at h; subst h; exact ⟨⟨_, rfl, Or.inr ⟨_, _, k5_76_4⟩⟩, by decide⟩
  rw [if_neg q4] at h
  by_cases q5 : ci = 5
  · subst q5; simp at h; subst h; exact ⟨⟨_, rfl, Or.inl k5_76_5⟩, by decide⟩
  rw [if_neg q5] at h
  by_cases q6 : ci = 6
  · subst q6; simp at h; subst h; exact ⟨⟨_, rfl, Or.inr ⟨_, _, k5_76_6⟩⟩, by decide⟩
  rw [if_neg q6] at h
  by_cases q7 : ci = 7
  · subst q7; simp at h; subst h; exact ⟨⟨_, rfl, Or.inr ⟨_, _, k5_76_7⟩⟩, by decide⟩
  rw [if_neg q7] at h
  by_cases q10 : ci = 10
  · subst q10; simp at h; subst h; exact ⟨⟨_, rfl, Or.inr ⟨_, _, k5_76_10⟩⟩, by decide⟩
  rw [if_neg q10] at h
  cases h
def vt7_72 (ci : Nat) : Option AM := if ci = 1 then some mX5_led else if ci = 7 then some mX5_led else none
theorem kx7_72 {ci : Nat} {M' : AM} (h : vt7_72 ci = some M') : kX RX7 72 ci M' 1 ∧ 2 ≤ mL M' := by
  unfold vt7_72 at h
  by_cases q1 : ci = 1
  · subst q1; simp at h; subst h; exact ⟨⟨_, rfl, Or.inr ⟨_, _, k7_72_1⟩⟩, by decide⟩
  rw [if_neg q1] at h
  by_cases q7 : ci = 7
  · subst q7; simp at h; subst h; exact ⟨⟨_, rfl, Or.inr ⟨_, _, k7_72_7⟩⟩, by decide⟩
  rw [if_neg q7] at h
  cases h
def vt7_76 (ci : Nat) : Option AM := if ci = 1 then some mX1_finds else if ci = 2 then some mX3_finds else if ci = 3 then some mX3_finds else if ci = 4 then some mX3_finds else if ci = 5 then some mX5_finds else if ci = 6 then some mX3_finds else if ci = 7 then some mX7_finds else if ci = 10 then some mX5_finds else none
theorem kx7_76 {ci : Nat} {M' : AM} (h : vt7_76 ci = some M') : kX RX7 76 ci M' 1 ∧ 2 ≤ mL M' := by
  unfold vt7_76 at h
  by_cases q1 : ci = 1
  · subst q1; simp at h; subst h; exact ⟨⟨_, rfl, Or.inr ⟨_, _, k7_76_1⟩⟩, by decide⟩
  rw [if_neg q1] at h
  by_cases q2 : ci = 2
  · subst q2; simp at h; subst h; exact ⟨⟨_, rfl, Or.inr ⟨_, _, k7_76_2⟩⟩, by decide⟩
  rw [if_neg q2] at h
  by_cases q3 : ci = 3
  · subst q3; simp at h; subst h; exact ⟨⟨_, rfl, Or.inr ⟨_, _, k7_76_3⟩⟩, by decide⟩
  rw [if_neg q3] at h
  by_cases q4 : ci = 4
  · subst q4; simp at h; subst h; exact ⟨⟨_, rfl, Or.inr ⟨_, _, k7_76_4⟩⟩, by decide⟩
  rw [if_neg q4] at h
  by_cases q5 : ci = 5
  · subst q5; simp at h; subst h; exact ⟨⟨_, rfl, Or.inl k7_76_5⟩, by decide⟩
  rw [if_neg q5] at h
  by_cases q6 : ci = 6
  · subst q6; simp at h; subst h; exact ⟨⟨_, rfl, Or.inr ⟨_, _, k7_76_6⟩⟩, by decide⟩
  rw [if_neg q6] at h
  by_cases q7 : ci = 7
  · subst q7; simp at h; subst h; exact ⟨⟨_, rfl, Or.inr ⟨_, _, k7_76_7⟩⟩, by decide⟩
  rw [if_neg q7] at h
  by_cases q10 : ci = 10
  · subst q10; simp at h; subst h; exact ⟨⟨_, rfl, Or.inr ⟨_, _, k7_76_10⟩⟩, by decide⟩
  rw [if_neg q10] at h
  cases h
def vt10_84 (ci : Nat) : Option AM := if ci = 1 then some mX5_tells else if ci = 2 then some mX5_tells else if ci = 3 then some mX5_tells else if ci = 4 then some mX5_tells else if ci = 5 then some mX5_tells else if ci = 6 then some mX5_tells else if ci = 7 then some mX5_tells else if ci = 10 then some mX10_tells else none
theorem kx10_84 {ci : Nat} {M' : AM} (h : vt10_84 ci = some M') : kX RX10 84 ci M' 1 ∧ 2 ≤ mL M' := by
  unfold vt10_84 at h
  by_cases q1 : ci = 1
  · subst q1; simp at h; subst h; exact ⟨⟨_, rfl, Or.inr ⟨_, _, k10_84_1⟩⟩, by decide⟩
  rw [if_neg q1] at h
  by_cases q2 : ci = 2
  · subst q2; simp at h; subst h; exact ⟨⟨_, rfl, Or.inr ⟨_, _, k10_84_2⟩⟩, by decide⟩
  rw [if_neg q2] at h
  by_cases q3 : ci = 3
  · subst q3; simp at h; subst h; exact ⟨⟨_, rfl, Or.inr ⟨_, _, k10_84_3⟩⟩, by decide⟩
  rw [if_neg q3] at h
  by_cases q4 : ci = 4
  · subst q4; simp at h; subst h; exact ⟨⟨_, rfl, Or.inr ⟨_, _, k10_84_4⟩⟩, by decide⟩
  rw [if_neg q4] at h
  by_cases q5 : ci = 5
  · subst q5; simp at h; subst h; exact ⟨⟨_, rfl, Or.inl k10_84_5⟩, by decide⟩
  rw [if_neg q5] at h
  by_cases q6 : ci = 6
  · subst q6; simp at h; subst h; exact ⟨⟨_, rfl, Or.inr ⟨_, _, k10_84_6⟩⟩, by decide⟩
  rw [if_neg q6] at h
  by_cases q7 : ci = 7
  · subst q7; simp at h; subst h; exact ⟨⟨_, rfl, Or.inr ⟨_, _, k10_84_7⟩⟩, by decide⟩
  rw [if_neg q7] at h
  by_cases q10 : ci = 10
  · subst q10; simp at h; subst h; exact ⟨⟨_, rfl, Or.inr ⟨_, _, k10_84_10⟩⟩, by decide⟩
  rw [if_neg q10] at h
  cases h
def vt11_94 (ci : Nat) : Option AM := if ci = 1 then some mX5_enter else if ci = 2 then some mX5_enter else if ci = 3 then some mX5_enter else if ci = 4 then some mX5_enter else if ci = 5 then some mX5_enter else if ci = 6 then some mX5_enter else if ci = 7 then some mX5_enter else if ci = 10 then some mX5_enter else none
theorem kx11_94 {ci : Nat} {M' : AM} (h : vt11_94 ci = some M') : kX RX11 94 ci M' 1 ∧ 2 ≤ mL M' := by
  unfold vt11_94 at h
  by_cases q1 : ci = 1
  · subst q1; simp at h; subst h; exact ⟨⟨_, rfl, Or.inr ⟨_, _, k11_94_1⟩⟩, by decide⟩
  rw [if_neg q1] at h
  by_cases q2 : ci = 2
  · subst q2; simp at h; subst h; exact ⟨⟨_, rfl, Or.inr ⟨_, _, k11_94_2⟩⟩, by decide⟩
  rw [if_neg q2] at h
  by_cases q3 : ci = 3
  · subst q3; simp at h; subst h; exact ⟨⟨_, rfl, Or.inr ⟨_, _, k11_94_3⟩⟩, by decide⟩
  rw [if_neg q3] at h
  by_cases q4 : ci = 4
  · subst q4; simp at h; subst h; exact ⟨⟨_, rfl, Or.inr ⟨_, _, k11_94_4⟩⟩, by decide⟩
  rw [if_neg q4] at h
  by_cases q5 : ci = 5
  · subst q5; simp at h; subst h; exact ⟨⟨_, rfl, Or.inl k11_94_5⟩, by decide⟩
  rw [if_neg q5] at h
  by_cases q6 : ci = 6
  · subst q6; simp at h; subst h; exact ⟨⟨_, rfl, Or.inr ⟨_, _, k11_94_6⟩⟩, by decide⟩
  rw [if_neg q6] at h
  by_cases q7 : ci = 7
  · subst q7; simp at h; subst h; exact ⟨⟨_, rfl, Or.inr ⟨_, _, k11_94_7⟩⟩, by decide⟩
  rw [if_neg q7] at h
  by_cases q10 : ci = 10
  · subst q10; simp at h; subst h; exact ⟨⟨_, rfl, Or.inr ⟨_, _, k11_94_10⟩⟩, by decide⟩
  rw [if_neg q10] at h
  cases h
def vt11_107 (ci : Nat) : Option AM := if ci = 1 then some mX5_leave else if ci = 2 then some mX5_leave else if ci = 3 then some mX5_leave else if ci = 4 then some mX5_leave else if ci = 5 then some mX5_leave else if ci = 6 then some mX5_leave else if ci = 7 then some mX5_leave else if ci = 10 then some mX5_leave else none
theorem kx11_107 {ci : Nat} {M' : AM} (h : vt11_107 ci = some M') : kX RX11 107 ci M' 1 ∧ 2 ≤ mL M' := by
  unfold vt11_107 at h
  by_cases q1 : ci = 1
  · subst q1; simp at h; subst h; exact ⟨⟨_, rfl, Or.inr ⟨_, _, k11_107_1⟩⟩, by decide⟩
  rw [if_neg q1] at h
  by_cases q2 : ci = 2
  · subst q2; simp at h; subst h; exact ⟨⟨_, rfl, Or.inr ⟨_, _, k11_107_2⟩⟩, by decide⟩
  rw [if_neg q2] at h
  by_cases q3 : ci = 3
  · subst q3; simp at h; subst h; exact ⟨⟨_, rfl, Or.inr ⟨_, _, k11_107_3⟩⟩, by decide⟩
  rw [if_neg q3] at h
  by_cases q4 : ci = 4
  · subst q4; simp at h; subst h; exact ⟨⟨_, rfl, Or.inr ⟨_, _, k11_107_4⟩⟩, by decide⟩
  rw [if_neg q4] at h
  by_cases q5 : ci = 5
  · subst q5; simp at h; subst h; exact ⟨⟨_, rfl, Or.inl k11_107_5⟩, by decide⟩
  rw [if_neg q5] at h
  by_cases q6 : ci = 6
  · subst q6; simp at h; subst h; exact ⟨⟨_, rfl, Or.inr ⟨_, _, k11_107_6⟩⟩, by decide⟩
  rw [if_neg q6] at h
  by_cases q7 : ci = 7
  · subst q7; simp at h; subst h; exact ⟨⟨_, rfl, Or.inr ⟨_, _, k11_107_7⟩⟩, by decide⟩
  rw [if_neg q7] at h
  by_cases q10 : ci = 10
  · subst q10; simp at h; subst h; exact ⟨⟨_, rfl, Or.inr ⟨_, _, k11_107_10⟩⟩, by decide⟩
  rw [if_neg q10] at h
  cases h
def vt11_202 (ci : Nat) : Option AM := if ci = 1 then some mX1_kind else if ci = 2 then some mX2_kind else if ci = 3 then some mX3_kind else if ci = 4 then some mX4_kind else if ci = 5 then some mX5_kind else if ci = 6 then some mX6_kind else if ci = 7 then some mX7_kind else if ci = 10 then some mX10_kind else none
theorem kx11_202 {ci : Nat} {M' : AM} (h : vt11_202 ci = some M') : kX RX11 202 ci M' 0 ∧ 1 ≤ mL M' := by
  unfold vt11_202 at h
  by_cases q1 : ci = 1
  · subst q1; simp at h; subst h; exact ⟨⟨_, rfl, Or.inr ⟨_, _, k11_202_1⟩⟩, by decide⟩
  rw [if_neg q1] at h
  by_cases q2 : ci = 2
  · subst q2; simp at h; subst h; exact ⟨⟨_, rfl, Or.inr ⟨_, _, k11_202_2⟩⟩, by decide⟩
  rw [if_neg q2] at h
  by_cases q3 : ci = 3
  · subst q3; simp at h; subst h; exact ⟨⟨_, rfl, Or.inr ⟨_, _, k11_202_3⟩⟩, by decide⟩
  rw [if_neg q3] at h
  by_cases q4 : ci = 4
  · subst q4; simp at h; subst h; exact ⟨⟨_, rfl, Or.inr ⟨_, _, k11_202_4⟩⟩, by decide⟩
  rw [if_neg q4] at h
  by_cases q5 : ci = 5
  · subst q5; simp at h; subst h; exact ⟨⟨_, rfl, Or.inl k11_202_5⟩, by decide⟩
  rw [if_neg q5] at h
  by_cases q6 : ci = 6
  · subst q6; simp at h; subst h; exact ⟨⟨_, rfl, Or.inr ⟨_, _, k11_202_6⟩⟩, by decide⟩
  rw [if_neg q6] at h
  by_cases q7 : ci = 7
  · subst q7; simp at h; subst h; exact ⟨⟨_, rfl, Or.inr ⟨_, _, k11_202_7⟩⟩, by decide⟩
  rw [if_neg q7] at h
  by_cases q10 : ci = 10
  · subst q10; simp at h; subst h; exact ⟨⟨_, rfl, Or.inr ⟨_, _, k11_202_10⟩⟩, by decide⟩
  rw [if_neg q10] at h
  cases h
def vt11_208 (ci : Nat) : Option AM := if ci = 1 then some mX1_howMany else if ci = 2 then some mX3_howMany else if ci = 3 then some mX3_howMany else if ci = 4 then some mX3_howMany else if ci = 5 then some mX5_howMany else if ci = 6 then some mX3_howMany else if ci = 7 then some mX7_howMany else if ci = 10 then some mX10_howMany else none
theorem kx11_208 {ci : Nat} {M' : AM} (h : vt11_208 ci = some M') : kX RX11 208 ci M' 0 ∧ 1 ≤ mL M' := by
  unfold vt11_208 at h
  by_cases q1 : ci = 1
  · subst q1; simp at h; subst h; exact ⟨⟨_, rfl, Or.inr ⟨_, _, k11_208_1⟩⟩, by decide⟩
  rw [if_neg q1] at h
  by_cases q2 : ci = 2
  · subst q2; simp at h; subst h; exact ⟨⟨_, rfl, Or.inr ⟨_, _, k11_208_2⟩⟩, by decide⟩
  rw [if_neg q2] at h
  by_cases q3 : ci = 3
  · subst q3; simp at h; subst h; exact ⟨⟨_, rfl, Or.inr ⟨_, _, k11_208_3⟩⟩, by decide⟩
  rw [if_neg q3] at h
  by_cases q4 : ci = 4
  · subst q4; simp at h; subst h; exact ⟨⟨_, rfl, Or.inr ⟨_, _, k11_208_4⟩⟩, by decide⟩
  rw [if_neg q4] at h
  by_cases q5 : ci = 5
  · subst q5; simp at h; subst h; exact ⟨⟨_, rfl, Or.inl k11_208_5⟩, by decide⟩
  rw [if_neg q5] at h
  by_cases q6 : ci = 6
  · subst q6; simp at h; subst h; exact ⟨⟨_, rfl, Or.inr ⟨_, _, k11_208_6⟩⟩, by decide⟩
  rw [if_neg q6] at h
  by_cases q7 : ci = 7
  · subst q7; simp at h; subst h; exact ⟨⟨_, rfl, Or.inr ⟨_, _, k11_208_7⟩⟩, by decide⟩
  rw [if_neg q7] at h
  by_cases q10 : ci = 10
  · subst q10; simp at h; subst h; exact ⟨⟨_, rfl, Or.inr ⟨_, _, k11_208_10⟩⟩, by decide⟩
  rw [if_neg q10] at h
  cases h
def vt11_217 (ci : Nat) : Option AM := if ci = 1 then some mX1_nameIn else if ci = 2 then some mX3_nameIn else if ci = 3 then some mX3_nameIn else if ci = 4 then some mX3_nameIn else if ci = 5 then some mX5_nameIn else if ci = 6 then some mX3_nameIn else if ci = 7 then some mX7_nameIn else if ci = 10 then some mX10_nameIn else none
theorem kx11_217 {ci : Nat} {M' : AM} (h : vt11_217 ci = some M') : kX RX11 217 ci M' 1 ∧ 2 ≤ mL M' := by
  unfold vt11_217 at h
  by_cases q1 : ci = 1
  · subst q1; simp at h; subst h; exact ⟨⟨_, rfl, Or.inr ⟨_, _, k11_217_1⟩⟩, by decide⟩
  rw [if_neg q1] at h
  by_cases q2 : ci = 2
  · subst q2; simp at h; subst h; exact ⟨⟨_, rfl, Or.inr ⟨_, _, k11_217_2⟩⟩, by decide⟩
  rw [if_neg q2] at h
  by_cases q3 : ci = 3
  · subst q3; simp at h; subst h; exact ⟨⟨_, rfl, Or.inr ⟨_, _, k11_217_3⟩⟩, by decide⟩
  rw [if_neg q3] at h
  by_cases q4 : ci = 4
  · subst q4; simp at h; subst h; exact ⟨⟨_, rfl, Or.inr ⟨_, _, k11_217_4⟩⟩, by decide⟩
  rw [if_neg q4] at h
  by_cases q5 : ci = 5
  · subst q5; simp at h; subst h; exact ⟨⟨_, rfl, Or.inl k11_217_5⟩, by decide⟩
  rw [if_neg q5] at h
  by_cases q6 : ci = 6
  · subst q6; simp at h; subst h; exact ⟨⟨_, rfl, Or.inr ⟨_, _, k11_217_6⟩⟩, by decide⟩
  rw [if_neg q6] at h
  by_cases q7 : ci = 7
  · subst q7; simp at h; subst h; exact ⟨⟨_, rfl, Or.inr ⟨_, _, k11_217_7⟩⟩, by decide⟩
  rw [if_neg q7] at h
  by_cases q10 : ci = 10
  · subst q10; simp at h; subst h; exact ⟨⟨_, rfl, Or.inr ⟨_, _, k11_217_10⟩⟩, by decide⟩
  rw [if_neg q10] at h
  cases h
def vt11_230 (ci : Nat) : Option AM := if ci = 1 then some mX1_run else if ci = 2 then some mX2_run else if ci = 3 then some mX3_run else if ci = 4 then some mX4_run else if ci = 5 then some mX5_run else if ci = 6 then some mX6_run else if ci = 7 then some mX7_run else if ci = 10 then some mX10_run else none
theorem kx11_230 {ci : Nat} {M' : AM} (h : vt11_230 ci = some M') : kX RX11 230 ci M' 1 ∧ 2 ≤ mL M' := by
  unfold vt11_230 at h
  by_cases q1 : ci = 1
  · subst q1; simp at h; subst h; exact ⟨⟨_, rfl, Or.inr ⟨_, _, k11_230_1⟩⟩, by decide⟩
  rw [if_neg q1] at h
  by_cases q2 : ci = 2
  · subst q2; simp at h; subst h; exact ⟨⟨_, rfl, Or.inr ⟨_, _, k11_230_2⟩⟩, by decide⟩
  rw [if_neg q2] at h
  by_cases q3 : ci = 3
  · subst q3; simp at h; subst h; exact ⟨⟨_, rfl, Or.inr ⟨_, _, k11_230_3⟩⟩, by decide⟩
  rw [if_neg q3] at h
  by_cases q4 : ci = 4
  · subst q4; simp at h; subst h; exact ⟨⟨_, rfl, Or.inr ⟨_, _, k11_230_4⟩⟩, by decide⟩
  rw [if_neg q4] at h
  by_cases q5 : ci = 5
  · subst q5; simp at h; subst h; exact ⟨⟨_, rfl, Or.inl k11_230_5⟩, by decide⟩
  rw [if_neg q5] at h
  by_cases q6 : ci = 6
  · subst q6; simp at h; subst h; exact ⟨⟨_, rfl, Or.inr ⟨_, _, k11_230_6⟩⟩, by decide⟩
  rw [if_neg q6] at h
  by_cases q7 : ci = 7
  · subst q7; simp at h; subst h; exact ⟨⟨_, rfl, Or.inr ⟨_, _, k11_230_7⟩⟩, by decide⟩
  rw [if_neg q7] at h
  by_cases q10 : ci = 10
  · subst q10; simp at h; subst h; exact ⟨⟨_, rfl, Or.inr ⟨_, _, k11_230_10⟩⟩, by decide⟩
  rw [if_neg q10] at h
  cases h
def vt11_237 (ci : Nat) : Option AM := if ci = 1 then some mX1_priceFor else if ci = 2 then some mX2_priceFor else if ci = 3 then some mX3_priceFor else if ci = 4 then some mX4_priceFor else if ci = 5 then some mX5_priceFor else if ci = 6 then some mX6_priceFor else if ci = 7 then some mX7_priceFor else if ci = 10 then some mX10_priceFor else none
theorem kx11_237 {ci : Nat} {M' : AM} (h : vt11_237 ci = some M') : kX RX11 237 ci M' 2 ∧ 3 ≤ mL M' := by
  unfold vt11_237 at h
  by_cases q1 : ci = 1
  · subst q1; simp at h; subst h; exact ⟨⟨_, rfl, Or.inr ⟨_, _, k11_237_1⟩⟩, by decide⟩
  rw [if_neg q1] at h
  by_cases q2 : ci = 2
  · subst q2; simp at h; subst h; exact ⟨⟨_, rfl, Or.inr ⟨_, _, k11_237_2⟩⟩, by decide⟩
  rw [if_neg q2] at h
  by_cases q3 : ci = 3
  · subst q3; simp at h; subst h; exact ⟨⟨_, rfl, Or.inr ⟨_, _, k11_237_3⟩⟩, by decide⟩
  rw [if_neg q3] at h
  by_cases q4 : ci = 4
  · subst q4; simp at h; subst h; exact ⟨⟨_, rfl, Or.inr ⟨_, _, k11_237_4⟩⟩, by decide⟩
  rw [if_neg q4] at h
  by_cases q5 : ci = 5
  · subst q5; simp at h; subst h; exact ⟨⟨_, rfl, Or.inl k11_237_5⟩, by decide⟩
  rw [if_neg q5] at h
  by_cases q6 : ci = 6
  · subst q6; simp at h; subst h; exact ⟨⟨_, rfl, Or.inr ⟨_, _, k11_237_6⟩⟩, by decide⟩
  rw [if_neg q6] at h
  by_cases q7 : ci = 7
  · subst q7; simp at h; subst h; exact ⟨⟨_, rfl, Or.inr ⟨_, _, k11_237_7⟩⟩, by decide⟩
  rw [if_neg q7] at h
  by_cases q10 : ci = 10
  · subst q10; simp at h; subst h; exact ⟨⟨_, rfl, Or.inr ⟨_, _, k11_237_10⟩⟩, by decide⟩
  rw [if_neg q10] at h
  cases h
def vt11_241 (ci : Nat) : Option AM := if ci = 1 then some mX1_priceOfPut else if ci = 2 then some mX2_priceOfPut else if ci = 3 then some mX3_priceOfPut else if ci = 4 then some mX4_priceOfPut else if ci = 5 then some mX5_priceOfPut else if ci = 6 then some mX4_priceOfPut else if ci = 7 then some mX7_priceOfPut else if ci = 10 then some mX10_priceOfPut else none
theorem kx11_241 {ci : Nat} {M' : AM} (h : vt11_241 ci = some M') : kX RX11 241 ci M' 1 ∧ 2 ≤ mL M' := by
  unfold vt11_241 at h
  by_cases q1 : ci = 1
  · subst q1; simp at h; subst h; exact ⟨⟨_, rfl, Or.inr ⟨_, _, k11_241_1⟩⟩, by decide⟩
  rw [if_neg q1] at h
  by_cases q2 : ci = 2
  · subst q2; simp at h; subst h; exact ⟨⟨_, rfl, Or.inr ⟨_, _, k11_241_2⟩⟩, by decide⟩
  rw [if_neg q2] at h
  by_cases q3 : ci = 3
  · subst q3; simp at h; subst h; exact ⟨⟨_, rfl, Or.inr ⟨_, _, k11_241_3⟩⟩, by decide⟩
  rw [if_neg q3] at h
  by_cases q4 : ci = 4
  · subst q4; simp at h; subst h; exact ⟨⟨_, rfl, Or.inr ⟨_, _, k11_241_4⟩⟩, by decide⟩
  rw [if_neg q4] at h
  by_cases q5 : ci = 5
  · subst q5; simp at h; subst h; exact ⟨⟨_, rfl, Or.inl k11_241_5⟩, by decide⟩
  rw [if_neg q5] at h
  by_cases q6 : ci = 6
  · subst q6; simp at h; subst h; exact ⟨⟨_, rfl, Or.inr ⟨_, _, k11_241_6⟩⟩, by decide⟩
  rw [if_neg q6] at h
  by_cases q7 : ci = 7
  · subst q7; simp at h; subst h; exact ⟨⟨_, rfl, Or.inr ⟨_, _, k11_241_7⟩⟩, by decide⟩
  rw [if_neg q7] at h
  by_cases q10 : ci = 10
  · subst q10; simp at h; subst h; exact ⟨⟨_, rfl, Or.inr ⟨_, _, k11_241_10⟩⟩, by decide⟩
  rw [if_neg q10] at h
  cases h
def vt11_326 (ci : Nat) : Option AM := if ci = 1 then some mX1_finds else if ci = 2 then some mX3_finds else if ci = 3 then some mX3_finds else if ci = 4 then some mX3_finds else if ci = 5 then some mX5_finds else if ci = 6 then some mX3_finds else if ci = 7 then some mX7_finds else if ci = 10 then some mX5_finds else none
theorem kx11_326 {ci : Nat} {M' : AM} (h : vt11_326 ci = some M') : kX RX11 326 ci M' 1 ∧ 2 ≤ mL M' := by
  unfold vt11_326 at h
  by_cases q1 : ci = 1
  · subst q1; simp at h; subst h; exact ⟨⟨_, rfl, Or.inr ⟨_, _, k11_326_1⟩⟩, by decide⟩
  rw [if_neg q1] at h
  by_cases q2 : ci = 2
  · subst q2; simp at h; subst h; exact ⟨⟨_, rfl, Or.inr ⟨_, _, k11_326_2⟩⟩, by decide⟩
  rw [if_neg q2] at h
  by_cases q3 : ci = 3
  · subst q3; simp at h; subst h; exact ⟨⟨_, rfl, Or.inr ⟨_, _, k11_326_3⟩⟩, by decide⟩
  rw [if_neg q3] at h
  by_cases q4 : ci = 4
  · subst q4; simp at h; subst h; exact ⟨⟨_, rfl, Or.inr ⟨_, _, k11_326_4⟩⟩, by decide⟩
  rw [if_neg q4] at h
  by_cases q5 : ci = 5
  · subst q5; simp at h; subst h; exact ⟨⟨_, rfl, Or.inl k11_326_5⟩, by decide⟩
  rw [if_neg q5] at h
  by_cases q6 : ci = 6
  · subst q6; simp at h; subst h; exact ⟨⟨_, rfl, Or.inr ⟨_, _, k11_326_6⟩⟩, by decide⟩
  rw [if_neg q6] at h
  by_cases q7 : ci = 7
  · subst q7; simp at h; subst h; exact ⟨⟨_, rfl, Or.inr ⟨_, _, k11_326_7⟩⟩, by decide⟩
  rw [if_neg q7] at h
  by_cases q10 : ci = 10
  · subst q10; simp at h; subst h; exact ⟨⟨_, rfl, Or.inr ⟨_, _, k11_326_10⟩⟩, by decide⟩
  rw [if_neg q10] at h
  cases h
def vt11_329 (ci : Nat) : Option AM := if ci = 1 then some mX5_mends else if ci = 2 then some mX5_mends else if ci = 3 then some mX5_mends else if ci = 4 then some mX4_mends else if ci = 5 then some mX5_mends else if ci = 6 then some mX6_mends else if ci = 7 then some mX5_mends else if ci = 10 then some mX5_mends else none
theorem kx11_329 {ci : Nat} {M' : AM} (h : vt11_329 ci = some M') : kX RX11 329 ci M' 1 ∧ 2 ≤ mL M' := by
  unfold vt11_329 at h
  by_cases q1 : ci = 1
  · subst q1; simp at h; subst h; exact ⟨⟨_, rfl, Or.inr ⟨_, _, k11_329_1⟩⟩, by decide⟩
  rw [if_neg q1] at h
  by_cases q2 : ci = 2
  · subst q2; simp at h; subst h; exact ⟨⟨_, rfl, Or.inr ⟨_, _, k11_329_2⟩⟩, by decide⟩
  rw [if_neg q2] at h
  by_cases q3 : ci = 3
  · subst q3; simp at h; subst h; exact ⟨⟨_, rfl, Or.inr ⟨_, _, k11_329_3⟩⟩, by decide⟩
  rw [if_neg q3] at h
  by_cases q4 : ci = 4
  · subst q4; simp at h; subst h; exact ⟨⟨_, rfl, Or.inr ⟨_, _, k11_329_4⟩⟩, by decide⟩
  rw [if_neg q4] at h
  by_cases q5 : ci = 5
  · subst q5; simp at h; subst h; exact ⟨⟨_, rfl, Or.inl k11_329_5⟩, by decide⟩
  rw [if_neg q5] at h
  by_cases q6 : ci = 6
  · subst q6; simp at h; subst h; exact ⟨⟨_, rfl, Or.inr ⟨_, _, k11_329_6⟩⟩, by decide⟩
  rw [if_neg q6] at h
  by_cases q7 : ci = 7
  · subst q7; simp at h; subst h; exact ⟨⟨_, rfl, Or.inr ⟨_, _, k11_329_7⟩⟩, by decide⟩
  rw [if_neg q7] at h
  by_cases q10 : ci = 10
  · subst q10; simp at h; subst h; exact ⟨⟨_, rfl, Or.inr ⟨_, _, k11_329_10⟩⟩, by decide⟩
  rw [if_neg q10] at h
  cases h
def vt11_332 (ci : Nat) : Option AM := if ci = 1 then some mX1_keeps else if ci = 2 then some mX2_keeps else if ci = 3 then some mX5_keeps else if ci = 4 then some mX5_keeps else if ci = 5 then some mX5_keeps else if ci = 6 then some mX5_keeps else if ci = 7 then some mX5_keeps else if ci = 10 then some mX5_keeps else none
theorem kx11_332 {ci : Nat} {M' : AM} (h : vt11_332 ci = some M') : kX RX11 332 ci M' 1 ∧ 2 ≤ mL M' := by
  unfold vt11_332 at h
  by_cases q1 : ci = 1
  · subst q1; simp at h; subst h; exact ⟨⟨_, rfl, Or.inr ⟨_, _, k11_332_1⟩⟩, by decide⟩
  rw [if_neg q1] at h
  by_cases q2 : ci = 2
  · subst q2; simp at h; subst h; exact ⟨⟨_, rfl, Or.inr ⟨_, _, k11_332_2⟩⟩, by decide⟩
  rw [if_neg q2] at h
  by_cases q3 : ci = 3
  · subst q3; simp at h; subst h; exact ⟨⟨_, rfl, Or.inr ⟨_, _, k11_332_3⟩⟩, by decide⟩
  rw [if_neg q3] at h
  by_cases q4 : ci = 4
  · subst q4; simp at h; subst h; exact ⟨⟨_, rfl, Or.inr ⟨_, _, k11_332_4⟩⟩, by decide⟩
  rw [if_neg q4] at h
  by_cases q5 : ci = 5
  · subst q5; simp at h; subst h; exact ⟨⟨_, rfl, Or.inl k11_332_5⟩, by decide⟩
  rw [if_neg q5] at h
  by_cases q6 : ci = 6
  · subst q6; simp at h; subst h; exact ⟨⟨_, rfl, Or.inr ⟨_, _, k11_332_6⟩⟩, by decide⟩
  rw [if_neg q6] at h
  by_cases q7 : ci = 7
  · subst q7; simp at h; subst h; exact ⟨⟨_, rfl, Or.inr ⟨_, _, k11_332_7⟩⟩, by decide⟩
  rw [if_neg q7] at h
  by_cases q10 : ci = 10
  · subst q10; simp at h; subst h; exact ⟨⟨_, rfl, Or.inr ⟨_, _, k11_332_10⟩⟩, by decide⟩
  rw [if_neg q10] at h
  cases h
def vt11_335 (ci : Nat) : Option AM := if ci = 1 then some mX5_tells else if ci = 2 then some mX5_tells else if ci = 3 then some mX5_tells else if ci = 4 then some mX5_tells else if ci = 5 then some mX5_tells else if ci = 6 then some mX5_tells else if ci = 7 then some mX5_tells else if ci = 10 then some mX10_tells else none
theorem kx11_335 {ci : Nat} {M' : AM} (h : vt11_335 ci = some M') : kX RX11 335 ci M' 1 ∧ 2 ≤ mL M' := by
  unfold vt11_335 at h
  by_cases q1 : ci = 1
  · subst q1; simp at h; subst h; exact ⟨⟨_, rfl, Or.inr ⟨_, _, k11_335_1⟩⟩, by decide⟩
  rw [if_neg q1] at h
  by_cases q2 : ci = 2
  · subst q2; simp at h; subst h; exact ⟨⟨_, rfl, Or.inr ⟨_, _, k11_335_2⟩⟩, by decide⟩
  rw [if_neg q2] at h
  by_cases q3 : ci = 3
  · subst q3; simp at h; subst h; exact ⟨⟨_, rfl, Or.inr ⟨_, _, k11_335_3⟩⟩, by decide⟩
  rw [if_neg q3] at h
  by_cases q4 : ci = 4
  · subst q4; simp at h; subst h; exact ⟨⟨_, rfl, Or.inr ⟨_, _, k11_335_4⟩⟩, by decide⟩
  rw [if_neg q4] at h
  by_cases q5 : ci = 5
  · subst q5; simp at h; subst h; exact ⟨⟨_, rfl, Or.inl k11_335_5⟩, by decide⟩
  rw [if_neg q5] at h
  by_cases q6 : ci = 6
  · subst q6; simp at h; subst h; exact ⟨⟨_, rfl, Or.inr ⟨_, _, k11_335_6⟩⟩, by decide⟩
  rw [if_neg q6] at h
  by_cases q7 : ci = 7
  · subst q7; simp at h; subst h; exact ⟨⟨_, rfl, Or.inr ⟨_, _, k11_335_7⟩⟩, by decide⟩
  rw [if_neg q7] at h
  by_cases q10 : ci = 10
  · subst q10; simp at h; subst h; exact ⟨⟨_, rfl, Or.inr ⟨_, _, k11_335_10⟩⟩, by decide⟩
  rw [if_neg q10] at h
  cases h
theorem iy11_172 {G : Gp} {d : Nat} {M : AM} {pc : Nat} {ls : AL} {st : List Value} {h : AH} {fin : Nat × Nat} {Q : Option Value → AH → Prop} {a ci : Nat} {fs : List Value} (hd : decode (mC M) pc = .ok (.instanceof 172, 3)) (hc : h.1 a = some (.inr (ci, fs))) (z : ci ∈ [2, 3, 4, 6]) (kk : wp G d M (pc + 3) ls (.int 1 :: st) h fin Q) (ho : (mY M).cls = RX11 := by rfl) : wp G d M pc ls (.ref a :: st) h fin Q := by
  simp only [List.mem_cons, List.not_mem_nil, or_false] at z
  rcases z with rfl | rfl | rfl | rfl <;> exact wp_instY (cj := 3) hd hc rfl rfl (by rw [ho]; exact l11_172) (by first | exact Or.inl rfl | exact Or.inr (by decide +kernel)) kk
theorem io11_172 {G : Gp} {d : Nat} {M : AM} {pc : Nat} {ls : AL} {st : List Value} {h : AH} {fin : Nat × Nat} {Q : Option Value → AH → Prop} {a ci : Nat} {fs : List Value} (hd : decode (mC M) pc = .ok (.instanceof 172, 3)) (hc : h.1 a = some (.inr (ci, fs))) (z : ci ∈ [1, 5, 7, 10]) (kk : wp G d M (pc + 3) ls (.int 0 :: st) h fin Q) (ho : (mY M).cls = RX11 := by rfl) : wp G d M pc ls (.ref a :: st) h fin Q := by
  simp only [List.mem_cons, List.not_mem_nil, or_false] at z
  rcases z with rfl | rfl | rfl | rfl <;> exact wp_instNo (cj := 3) hd hc rfl rfl (by rw [ho]; exact l11_172) (by decide +kernel) kk
theorem iy11_177 {G : Gp} {d : Nat} {M : AM} {pc : Nat} {ls : AL} {st : List Value} {h : AH} {fin : Nat × Nat} {Q : Option Value → AH → Prop} {a ci : Nat} {fs : List Value} (hd : decode (mC M) pc = .ok (.instanceof 177, 3)) (hc : h.1 a = some (.inr (ci, fs))) (z : ci ∈ [4, 6]) (kk : wp G d M (pc + 3) ls (.int 1 :: st) h fin Q) (ho : (mY M).cls = RX11 := by rfl) : wp G d M pc ls (.ref a :: st) h fin Q := by
  simp only [List.mem_cons, List.not_mem_nil, or_false] at z
  rcases z with rfl | rfl <;> exact wp_instY (cj := 4) hd hc rfl rfl (by rw [ho]; exact l11_177) (by first | exact Or.inl rfl | exact Or.inr (by decide +kernel)) kk
theorem io11_177 {G : Gp} {d : Nat} {M : AM} {pc : Nat} {ls : AL} {st : List Value} {h : AH} {fin : Nat × Nat} {Q : Option Value → AH → Prop} {a ci : Nat} {fs : List Value} (hd : decode (mC M) pc = .ok (.instanceof 177, 3)) (hc : h.1 a = some (.inr (ci, fs))) (z : ci ∈ [1, 2, 3, 5, 7, 10]) (kk : wp G d M (pc + 3) ls (.int 0 :: st) h fin Q) (ho : (mY M).cls = RX11 := by rfl) : wp G d M pc ls (.ref a :: st) h fin Q := by
  simp only [List.mem_cons, List.not_mem_nil, or_false] at z
  rcases z with rfl | rfl | rfl | rfl | rfl | rfl <;> exact wp_instNo (cj := 4) hd hc rfl rfl (by rw [ho]; exact l11_177) (by decide +kernel) kk
theorem iy11_180 {G : Gp} {d : Nat} {M : AM} {pc : Nat} {ls : AL} {st : List Value} {h : AH} {fin : Nat × Nat} {Q : Option Value → AH → Prop} {a ci : Nat} {fs : List Value} (hd : decode (mC M) pc = .ok (.instanceof 180, 3)) (hc : h.1 a = some (.inr (ci, fs))) (z : ci ∈ [2]) (kk : wp G d M (pc + 3) ls (.int 1 :: st) h fin Q) (ho : (mY M).cls = RX11 := by rfl) : wp G d M pc ls (.ref a :: st) h fin Q := by
  simp only [List.mem_cons, List.not_mem_nil, or_false] at z
  subst z
  exact wp_instY (cj := 2) hd hc rfl rfl (by rw [ho]; exact l11_180) (by first | exact Or.inl rfl | exact Or.inr (by decide +kernel)) kk
theorem io11_180 {G : Gp} {d : Nat} {M : AM} {pc : Nat} {ls : AL} {st : List Value} {h : AH} {fin : Nat × Nat} {Q : Option Value → AH → Prop} {a ci : Nat} {fs : List Value} (hd : decode (mC M) pc = .ok (.instanceof 180, 3)) (hc : h.1 a = some (.inr (ci, fs))) (z : ci ∈ [1, 3, 4, 5, 6, 7, 10]) (kk : wp G d M (pc + 3) ls (.int 0 :: st) h fin Q) (ho : (mY M).cls = RX11 := by rfl) : wp G d M pc ls (.ref a :: st) h fin Q := by
  simp only [List.mem_cons, List.not_mem_nil, or_false] at z
  rcases z with rfl | rfl | rfl | rfl | rfl | rfl | rfl <;> exact wp_instNo (cj := 2) hd hc rfl rfl (by rw [ho]; exact l11_180) (by decide +kernel) kk
theorem iy11_183 {G : Gp} {d : Nat} {M : AM} {pc : Nat} {ls : AL} {st : List Value} {h : AH} {fin : Nat × Nat} {Q : Option Value → AH → Prop} {a ci : Nat} {fs : List Value} (hd : decode (mC M) pc = .ok (.instanceof 183, 3)) (hc : h.1 a = some (.inr (ci, fs))) (z : ci ∈ [1, 7]) (kk : wp G d M (pc + 3) ls (.int 1 :: st) h fin Q) (ho : (mY M).cls = RX11 := by rfl) : wp G d M pc ls (.ref a :: st) h fin Q := by
  simp only [List.mem_cons, List.not_mem_nil, or_false] at z
  rcases z with rfl | rfl <;> exact wp_instY (cj := 7) hd hc rfl rfl (by rw [ho]; exact l11_183) (by first | exact Or.inl rfl | exact Or.inr (by decide +kernel)) kk
theorem io11_183 {G : Gp} {d : Nat} {M : AM} {pc : Nat} {ls : AL} {st : List Value} {h : AH} {fin : Nat × Nat} {Q : Option Value → AH → Prop} {a ci : Nat} {fs : List Value} (hd : decode (mC M) pc = .ok (.instanceof 183, 3)) (hc : h.1 a = some (.inr (ci, fs))) (z : ci ∈ [2, 3, 4, 5, 6, 10]) (kk : wp G d M (pc + 3) ls (.int 0 :: st) h fin Q) (ho : (mY M).cls = RX11 := by rfl) : wp G d M pc ls (.ref a :: st) h fin Q := by
  simp only [List.mem_cons, List.not_mem_nil, or_false] at z
  rcases z with rfl | rfl | rfl | rfl | rfl | rfl <;> exact wp_instNo (cj := 7) hd hc rfl rfl (by rw [ho]; exact l11_183) (by decide +kernel) kk
theorem iy11_188 {G : Gp} {d : Nat} {M : AM} {pc : Nat} {ls : AL} {st : List Value} {h : AH} {fin : Nat × Nat} {Q : Option Value → AH → Prop} {a ci : Nat} {fs : List Value} (hd : decode (mC M) pc = .ok (.instanceof 188, 3)) (hc : h.1 a = some (.inr (ci, fs))) (z : ci ∈ [10]) (kk : wp G d M (pc + 3) ls (.int 1 :: st) h fin Q) (ho : (mY M).cls = RX11 := by rfl) : wp G d M pc ls (.ref a :: st) h fin Q := by
  simp only [List.mem_cons, List.not_mem_nil, or_false] at z
  subst z
  exact wp_instY (cj := 10) hd hc rfl rfl (by rw [ho]; exact l11_188) (by first | exact Or.inl rfl | exact Or.inr (by decide +kernel)) kk
theorem io11_188 {G : Gp} {d : Nat} {M : AM} {pc : Nat} {ls : AL} {st : List Value} {h : AH} {fin : Nat × Nat} {Q : Option Value → AH → Prop} {a ci : Nat} {fs : List Value} (hd : decode (mC M) pc = .ok (.instanceof 188, 3)) (hc : h.1 a = some (.inr (ci, fs))) (z : ci ∈ [1, 2, 3, 4, 5, 6, 7]) (kk : wp G d M (pc + 3) ls (.int 0 :: st) h fin Q) (ho : (mY M).cls = RX11 := by rfl) : wp G d M pc ls (.ref a :: st) h fin Q := by
  simp only [List.mem_cons, List.not_mem_nil, or_false] at z
  rcases z with rfl | rfl | rfl | rfl | rfl | rfl | rfl <;> exact wp_instNo (cj := 10) hd hc rfl rfl (by rw [ho]; exact l11_188) (by decide +kernel) kk
theorem iy11_191 {G : Gp} {d : Nat} {M : AM} {pc : Nat} {ls : AL} {st : List Value} {h : AH} {fin : Nat × Nat} {Q : Option Value → AH → Prop} {a ci : Nat} {fs : List Value} (hd : decode (mC M) pc = .ok (.instanceof 191, 3)) (hc : h.1 a = some (.inr (ci, fs))) (z : ci ∈ [1]) (kk : wp G d M (pc + 3) ls (.int 1 :: st) h fin Q) (ho : (mY M).cls = RX11 := by rfl) : wp G d M pc ls (.ref a :: st) h fin Q := by
  simp only [List.mem_cons, List.not_mem_nil, or_false] at z
  subst z
  exact wp_instY (cj := 1) hd hc rfl rfl (by rw [ho]; exact l11_191) (by first | exact Or.inl rfl | exact Or.inr (by decide +kernel)) kk
theorem io11_191 {G : Gp} {d : Nat} {M : AM} {pc : Nat} {ls : AL} {st : List Value} {h : AH} {fin : Nat × Nat} {Q : Option Value → AH → Prop} {a ci : Nat} {fs : List Value} (hd : decode (mC M) pc = .ok (.instanceof 191, 3)) (hc : h.1 a = some (.inr (ci, fs))) (z : ci ∈ [2, 3, 4, 5, 6, 7, 10]) (kk : wp G d M (pc + 3) ls (.int 0 :: st) h fin Q) (ho : (mY M).cls = RX11 := by rfl) : wp G d M pc ls (.ref a :: st) h fin Q := by
  simp only [List.mem_cons, List.not_mem_nil, or_false] at z
  rcases z with rfl | rfl | rfl | rfl | rfl | rfl | rfl <;> exact wp_instNo (cj := 1) hd hc rfl rfl (by rw [ho]; exact l11_191) (by decide +kernel) kk
theorem iy11_194 {G : Gp} {d : Nat} {M : AM} {pc : Nat} {ls : AL} {st : List Value} {h : AH} {fin : Nat × Nat} {Q : Option Value → AH → Prop} {a ci : Nat} {fs : List Value} (hd : decode (mC M) pc = .ok (.instanceof 194, 3)) (hc : h.1 a = some (.inr (ci, fs))) (z : ci ∈ [6]) (kk : wp G d M (pc + 3) ls (.int 1 :: st) h fin Q) (ho : (mY M).cls = RX11 := by rfl) : wp G d M pc ls (.ref a :: st) h fin Q := by
  simp only [List.mem_cons, List.not_mem_nil, or_false] at z
  subst z
  exact wp_instY (cj := 6) hd hc rfl rfl (by rw [ho]; exact l11_194) (by first | exact Or.inl rfl | exact Or.inr (by decide +kernel)) kk
theorem io11_194 {G : Gp} {d : Nat} {M : AM} {pc : Nat} {ls : AL} {st : List Value} {h : AH} {fin : Nat × Nat} {Q : Option Value → AH → Prop} {a ci : Nat} {fs : List Value} (hd : decode (mC M) pc = .ok (.instanceof 194, 3)) (hc : h.1 a = some (.inr (ci, fs))) (z : ci ∈ [1, 2, 3, 4, 5, 7, 10]) (kk : wp G d M (pc + 3) ls (.int 0 :: st) h fin Q) (ho : (mY M).cls = RX11 := by rfl) : wp G d M pc ls (.ref a :: st) h fin Q := by
  simp only [List.mem_cons, List.not_mem_nil, or_false] at z
  rcases z with rfl | rfl | rfl | rfl | rfl | rfl | rfl <;> exact wp_instNo (cj := 6) hd hc rfl rfl (by rw [ho]; exact l11_194) (by decide +kernel) kk
