theorem lt13 {ci : Nat} (h : ci ∈ [1, 2, 3, 4, 5, 6, 7, 10]) : ci < 13 := (show ∀ c ∈ [1, 2, 3, 4, 5, 6, 7, 10], c < 13 by decide) ci h
theorem vs11_107_all {ci : Nat} (h : ci ∈ [1, 2, 3, 4, 5, 6, 7, 10]) : vt11_107 ci = some mX5_leave := by simp only [List.mem_cons, List.not_mem_nil, or_false] at h; rcases h with rfl | rfl | rfl | rfl | rfl | rfl | rfl | rfl <;> rfl
theorem vs11_94_all {ci : Nat} (h : ci ∈ [1, 2, 3, 4, 5, 6, 7, 10]) : vt11_94 ci = some mX5_enter := by simp only [List.mem_cons, List.not_mem_nil, or_false] at h; rcases h with rfl | rfl | rfl | rfl | rfl | rfl | rfl | rfl <;> rfl
theorem vs3_22_row {ci : Nat} (h : ci ∈ [2, 3, 4, 6]) : vt3_22 ci = some mX3_insertAt := by simp only [List.mem_cons, List.not_mem_nil, or_false] at h; rcases h with rfl | rfl | rfl | rfl <;> rfl
theorem vs3_26_row {ci : Nat} (h : ci ∈ [2, 3, 4, 6]) : vt3_26 ci = some mX3_placeOf := by simp only [List.mem_cons, List.not_mem_nil, or_false] at h; rcases h with rfl | rfl | rfl | rfl <;> rfl
theorem vs3_30_row {ci : Nat} (h : ci ∈ [2, 3, 4, 6]) : vt3_30 ci = some mX3_removeAt := by simp only [List.mem_cons, List.not_mem_nil, or_false] at h; rcases h with rfl | rfl | rfl | rfl <;> rfl
theorem vs3_58_row {ci : Nat} (h : ci ∈ [2, 3, 4, 6]) : vt3_58 ci = some mX5_led := by simp only [List.mem_cons, List.not_mem_nil, or_false] at h; rcases h with rfl | rfl | rfl | rfl <;> rfl
theorem vs4_22_srt {ci : Nat} (h : ci ∈ [4, 6]) : vt4_22 ci = some mX5_comesAhead := by simp only [List.mem_cons, List.not_mem_nil, or_false] at h; rcases h with rfl | rfl <;> rfl
theorem vs4_29_srt {ci : Nat} (h : ci ∈ [4, 6]) : vt4_29 ci = some mX4_placeFor := by simp only [List.mem_cons, List.not_mem_nil, or_false] at h; rcases h with rfl | rfl <;> rfl
theorem vs4_33_srt {ci : Nat} (h : ci ∈ [4, 6]) : vt4_33 ci = some mX3_insertAt := by simp only [List.mem_cons, List.not_mem_nil, or_false] at h; rcases h with rfl | rfl <;> rfl
theorem vs4_37_srt {ci : Nat} (h : ci ∈ [4, 6]) : vt4_37 ci = some mX3_removeAt := by simp only [List.mem_cons, List.not_mem_nil, or_false] at h; rcases h with rfl | rfl <;> rfl
theorem vs4_72_srt {ci : Nat} (h : ci ∈ [4, 6]) : vt4_72 ci = some mX5_led := by simp only [List.mem_cons, List.not_mem_nil, or_false] at h; rcases h with rfl | rfl <;> rfl
theorem vs5_67_all {ci : Nat} (h : ci ∈ [1, 2, 3, 4, 5, 6, 7, 10]) : vt5_67 ci = some mX5_led := by simp only [List.mem_cons, List.not_mem_nil, or_false] at h; rcases h with rfl | rfl | rfl | rfl | rfl | rfl | rfl | rfl <;> rfl
theorem vs7_72_tab {ci : Nat} (h : ci ∈ [1, 7]) : vt7_72 ci = some mX5_led := by simp only [List.mem_cons, List.not_mem_nil, or_false] at h; rcases h with rfl | rfl <;> rfl
