/-! ===== the script's places ===== -/
section
variable {G : Gp} {i : Nat}
theorem inL_of (hL : gL G < 100000) (h : i + 6 ≤ gL G) : vp_in (nI i) (gL G) ∧ inL G (nI i) := by
  have e : ∀ k, k ≤ 5 → vp_in (nI i + nI k) (gL G) := fun k hk => by
    rw [nI_add]
    exact nI_v (by omega) (by omega)
  exact ⟨nI_v (by omega) (by omega), e 1 (by decide), e 2 (by decide), e 3 (by decide), e 4 (by decide), e 5 (by decide)⟩
/-- whether the law is at its end -/
theorem law_end (hL : gL G < 100000) (hi : i < 100000) : Int32.ofNat (gL G) - 6 < nI i ↔ gL G < i + 6 := by
  rw [Int32.lt_iff_toInt_lt, show Int32.ofNat (gL G) - 6 = nI (gL G) - nI 6 from rfl, sub_ti hL (by decide), nI_ti hi]
  omega
theorem law_up : nI i + 6 = nI (i + 6) := nI_add i 6
end
