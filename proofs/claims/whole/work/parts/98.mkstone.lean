/-! ===== a new stone ===== -/
/-- a heap, with an object made at a and the cells after it -/
def mkH (h0 : Nat → Option AC) (a ci : Nat) (fs : List Value) (cs : List AC) (sz : Nat) : AH := (fun b => if b = a then some (.inr (ci, fs)) else if a < b ∧ b < a + 1 + cs.length then cs[b - (a + 1)]? else h0 b, a + 1 + cs.length, sz)
section
variable {G : Gp} {d : Nat} {K : SK} {n : Nat × Nat} {V V' : SV} {J : SJV} {O : SO} {r : Option Value} {a b ci k sz N i ky : Nat} {S : List Nat} {fs rest : List Value} {cs : List AC} {h0 : Nat → Option AC} {c : AC}
theorem mkH_at : (mkH h0 a ci fs cs sz).1 a = some (.inr (ci, fs)) := if_pos rfl
theorem mkH_o (h : b < a) : (mkH h0 a ci fs cs sz).1 b = h0 b := by
  show (if b = a then _ else if a < b ∧ b < a + 1 + cs.length then _ else h0 b) = _
  rw [if_neg (by omega), if_neg (by omega)]
theorem mkH_new : hnew (mkH h0 a ci fs cs sz) c N = mkH h0 a ci fs (cs ++ [c]) (sz + N) := by
  refine Prod.ext (funext fun b => ?_) (Prod.ext ?_ rfl)
  · show (if b = a + 1 + cs.length then some c else if b = a then some (.inr (ci, fs)) else if a < b ∧ b < a + 1 + cs.length then cs[b - (a + 1)]? else h0 b) = (if b = a then some (.inr (ci, fs)) else if a < b ∧ b < a + 1 + (cs ++ [c]).length then (cs ++ [c])[b - (a + 1)]? else h0 b)
    rw [List.length_append, List.length_singleton]
    by_cases e : b = a
    · rw [if_neg (by omega), if_pos e, if_pos e]
    · rw [if_neg e, if_neg e]
      by_cases e2 : b = a + 1 + cs.length
      · rw [if_pos e2, if_pos (by omega), e2, show a + 1 + cs.length - (a + 1) = cs.length by omega]
        simp
      · rw [if_neg e2]
        by_cases e3 : a < b ∧ b < a + 1 + cs.length
        · rw [if_pos e3, if_pos (by omega), List.getElem?_append_left (by omega)]
        · rw [if_neg e3, if_neg (by omega)]
  · show a + 1 + cs.length + 1 = a + 1 + (cs ++ [c]).length
    rw [List.length_append, List.length_singleton]
    omega
theorem mkH_set {fs' : List Value} : hset (mkH h0 a ci fs cs sz) a (.inr (ci, fs')) = mkH h0 a ci fs' cs sz := by
  refine Prod.ext (funext fun b => ?_) rfl
  show (if b = a then (some (.inr (ci, fs')) : Option AC) else if b = a then (some (.inr (ci, fs)) : Option AC) else _) = (if b = a then (some (.inr (ci, fs')) : Option AC) else _)
  by_cases e : b = a
  · rw [if_pos e, if_pos e]
  · rw [if_neg e, if_neg e, if_neg e]
theorem mkH_start {h : AH} : hnew h (.inr (ci, fs)) N = mkH h.1 h.2.1 ci fs [] (h.2.2 + N) := by
  refine Prod.ext (funext fun b => ?_) rfl
  show (if b = h.2.1 then some (.inr (ci, fs)) else h.1 b) = (if b = h.2.1 then some (.inr (ci, fs)) else if h.2.1 < b ∧ b < h.2.1 + 1 + 0 then _ else h.1 b)
  by_cases e : b = h.2.1
  · rw [if_pos e, if_pos e]
  · rw [if_neg e, if_neg e, if_neg (by omega)]
theorem FS_mk {v : Value} {P : AH → Prop} (hs : ci ∈ S) (hk : k < fs.length) (h : P (mkH h0 a ci (fs.set k v) cs sz)) : FS S (mkH h0 a ci fs cs sz) a k v P := ⟨ci, fs, mkH_at, hs, hk, by rw [mkH_set]; exact h⟩
theorem NW_mk {fin : Nat × Nat} {P : Nat → AH → Prop} (h1 : a + 1 + cs.length + 1 ≤ fin.1) (h2 : sz + N ≤ fin.2) (h : P (a + 1 + cs.length) (mkH h0 a ci fs (cs ++ [c]) (sz + N))) : NW (mkH h0 a ci fs cs sz) c N fin P := ⟨h1, h2, by rw [mkH_new]; exact h⟩
/-- what a stone of any kind makes first -/
theorem x5_mk {Q : Option Value → AH → Prop} {x2 : Int32} (hK : StK K) (h96 : 96 ≤ a) (hky : ky < 4) (hs : ci ∈ [1, 2, 3, 4, 5, 6, 7, 10]) (hq : Q none (mkH (cz (K, n, V, J, O)).1 a ci (.ref 1 :: .int x2 :: .int (nI ky) :: .ref (4 + 1 + ky) :: .ref (a + 1) :: rest) [arI 24] (sz + 24))) : wp G d mX5_init 0 [(0, .ref a), (1, .ref 1), (2, .int x2), (3, .int (nI ky))] [] (mkH (cz (K, n, V, J, O)).1 a ci (.null :: .int 0 :: .int 0 :: .null :: .null :: rest) [] sz) (a + 2, sz + 24) Q := by
  have hl : ∀ {x y z u v : Value}, 4 < (x :: y :: z :: u :: v :: rest).length := by
    intro x y z u v
    simp only [List.length_cons]
    omega
  refine vX5_init_0 (NW_mk (Nat.le_refl _) (Nat.le_refl _) (FS_mk hs hl (FS_mk hs (Nat.lt_of_lt_of_le (by decide) hl) (FS_mk hs (Nat.lt_of_lt_of_le (by decide) hl) (FS_mk hs (Nat.lt_of_lt_of_le (by decide) hl) ?_)))))
  refine ⟨8, _, 4, (mkH_o (show 1 < a by omega)).trans (cz_obj (k1 hK)), by decide, cfill_ref (b := 4) rfl, ?_⟩
  refine ⟨3, 4, _, 4 + 1 + ky, (mkH_o (show 4 < a by omega)).trans (cz_arr (k4 hK)), by decide, nI_v hky (by omega), ?_, FS_mk hs (Nat.lt_of_lt_of_le (by decide) hl) ⟨rfl, hq⟩⟩
  rw [nI_c (by omega)]
  show (if (3 : Nat) < 5 then (fun j => if j < 4 then some (4 + 1 + j) else none) else O 4) ky = some (4 + 1 + ky)
  rw [if_pos (by decide), if_pos hky]
variable {x2 : Int32} {z1 z2 z3 z4 z5 : Value}
theorem x3_mk {Q : Option Value → AH → Prop} (hK : StK K) (h96 : 96 ≤ a) (hky : ky < 4) (hs : ci ∈ [2, 3, 4, 6]) (hq : Q none (mkH (cz (K, n, V, J, O)).1 a ci (.ref 1 :: .int x2 :: .int (nI ky) :: .ref (4 + 1 + ky) :: .ref (a + 1) :: z1 :: z2 :: z3 :: z4 :: .ref (a + 2) :: rest) [arI 24, arI 80] (sz + 104))) : wp G (d + 1) mX3_init 0 [(0, .ref a), (1, .ref 1), (2, .int x2), (3, .int (nI ky))] [] (mkH (cz (K, n, V, J, O)).1 a ci (.null :: .int 0 :: .int 0 :: .null :: .null :: z1 :: z2 :: z3 :: z4 :: .null :: rest) [] sz) (a + 3, sz + 104) Q := by
  refine vX3_init_0 ⟨(a + 2, sz + 24), ⟨⟨by show a + 1 + 0 ≤ a + 2; omega, by show sz ≤ sz + 24; omega⟩, by show a + 2 ≤ a + 3; omega, by show sz + 24 ≤ sz + 104; omega⟩, x5_mk hK h96 hky (sb_row_all hs) (fun _ => ⟨rfl, NW_mk (Nat.le_refl _) (Nat.le_refl _) (FS_mk hs ?_ ⟨rfl, hq⟩)⟩)⟩
  simp only [List.length_cons]
  omega
theorem x4_mk {Q : Option Value → AH → Prop} (hK : StK K) (h96 : 96 ≤ a) (hky : ky < 4) (hs : ci ∈ [2, 3, 4, 6]) (hq : Q none (mkH (cz (K, n, V, J, O)).1 a ci (.ref 1 :: .int x2 :: .int (nI ky) :: .ref (4 + 1 + ky) :: .ref (a + 1) :: z1 :: z2 :: z3 :: z4 :: .ref (a + 2) :: rest) [arI 24, arI 80] (sz + 104))) : wp G (d + 2) mX4_init 0 [(0, .ref a), (1, .ref 1), (2, .int x2), (3, .int (nI ky))] [] (mkH (cz (K, n, V, J, O)).1 a ci (.null :: .int 0 :: .int 0 :: .null :: .null :: z1 :: z2 :: z3 :: z4 :: .null :: rest) [] sz) (a + 3, sz + 104) Q := vX4_init_0 ⟨(a + 3, sz + 104), ⟨⟨by show a + 1 + 0 ≤ a + 3; omega, by show sz ≤ sz + 104; omega⟩, Nat.le_refl _, Nat.le_refl _⟩, x3_mk hK h96 hky hs (fun _ => ⟨rfl, rfl, hq⟩)⟩
theorem x2_mk {Q : Option Value → AH → Prop} (hK : StK K) (h96 : 96 ≤ a) (hky : ky < 4) (hs : ci ∈ [2, 3, 4, 6]) (hq : Q none (mkH (cz (K, n, V, J, O)).1 a ci (.ref 1 :: .int x2 :: .int (nI ky) :: .ref (4 + 1 + ky) :: .ref (a + 1) :: z1 :: z2 :: z3 :: z4 :: .ref (a + 2) :: rest) [arI 24, arI 80] (sz + 104))) : wp G (d + 2) mX2_init 0 [(0, .ref a), (1, .ref 1), (2, .int x2), (3, .int (nI ky))] [] (mkH (cz (K, n, V, J, O)).1 a ci (.null :: .int 0 :: .int 0 :: .null :: .null :: z1 :: z2 :: z3 :: z4 :: .null :: rest) [] sz) (a + 3, sz + 104) Q := vX2_init_0 ⟨(a + 3, sz + 104), ⟨⟨by show a + 1 + 0 ≤ a + 3; omega, by show sz ≤ sz + 104; omega⟩, Nat.le_refl _, Nat.le_refl _⟩, x3_mk hK h96 hky hs (fun _ => ⟨rfl, rfl, hq⟩)⟩
theorem x6_mk {Q : Option Value → AH → Prop} (hK : StK K) (h96 : 96 ≤ a) (hky : ky < 4) (hq : Q none (mkH (cz (K, n, V, J, O)).1 a 6 (.ref 1 :: .int x2 :: .int (nI ky) :: .ref (4 + 1 + ky) :: .ref (a + 1) :: z1 :: z2 :: z3 :: z4 :: .ref (a + 2) :: z5 :: .ref (a + 3) :: rest) [arI 24, arI 80, arI 81] (sz + 185))) : wp G (d + 3) mX6_init 0 [(0, .ref a), (1, .ref 1), (2, .int x2), (3, .int (nI ky))] [] (mkH (cz (K, n, V, J, O)).1 a 6 (.null :: .int 0 :: .int 0 :: .null :: .null :: z1 :: z2 :: z3 :: z4 :: .null :: z5 :: .null :: rest) [] sz) (a + 4, sz + 185) Q := by
  refine vX6_init_0 ⟨(a + 3, sz + 104), ⟨⟨by show a + 1 + 0 ≤ a + 3; omega, by show sz ≤ sz + 104; omega⟩, by show a + 3 ≤ a + 4; omega, by show sz + 104 ≤ sz + 185; omega⟩, x4_mk hK h96 hky (by decide) (fun _ => ⟨rfl, NW_mk (Nat.le_refl _) (Nat.le_refl _) (FS_mk (by decide) ?_ ⟨rfl, hq⟩)⟩)⟩
  simp only [List.length_cons]
  omega
theorem x7_mk {Q : Option Value → AH → Prop} {N : Nat} (hN : N ≤ 1000) (hK : StK K) (h96 : 96 ≤ a) (hky : ky < 4) (hs : ci ∈ [1, 7]) (hq : Q none (mkH (cz (K, n, V, J, O)).1 a ci (.ref 1 :: .int x2 :: .int (nI ky) :: .ref (4 + 1 + ky) :: .ref (a + 1) :: z1 :: z2 :: z3 :: z4 :: .ref (a + 2) :: rest) [arI 24, arI N] (sz + 24 + N))) : wp G (d + 1) mX7_init 0 [(0, .ref a), (1, .ref 1), (2, .int x2), (3, .int (nI ky)), (4, .int (nI N))] [] (mkH (cz (K, n, V, J, O)).1 a ci (.null :: .int 0 :: .int 0 :: .null :: .null :: z1 :: z2 :: z3 :: z4 :: .null :: rest) [] sz) (a + 3, sz + 24 + N) Q := by
  have e : (if nI N < (0 : Int32) then (0 : Int32) else nI N) = nI N := if_neg (nI_pos (by omega))
  have ec : (nI N).toNatClampNeg = N := nI_c (by omega)
  refine vX7_init_0 ⟨(a + 2, sz + 24), ⟨⟨by show a + 1 + 0 ≤ a + 2; omega, by show sz ≤ sz + 24; omega⟩, by show a + 2 ≤ a + 3; omega, by show sz + 24 ≤ sz + 24 + N; omega⟩, x5_mk hK h96 hky (sb_tab_all hs) (fun _ => ⟨rfl, ⟨by show a + 1 + 1 ≤ a + 3; omega, by show sz + 24 ≤ sz + 24 + N; omega⟩, ?_⟩)⟩
  rw [e, ec]
  refine ⟨nI_pos (by omega), by omega, NW_mk (Nat.le_refl _) (Nat.le_refl _) (FS_mk hs ?_ ⟨rfl, hq⟩)⟩
  simp only [List.length_cons]
  omega
theorem x1_mk {Q : Option Value → AH → Prop} (hK : StK K) (h96 : 96 ≤ a) (hky : ky < 4) (hq : Q none (mkH (cz (K, n, V, J, O)).1 a 1 (.ref 1 :: .int x2 :: .int (nI ky) :: .ref (4 + 1 + ky) :: .ref (a + 1) :: z1 :: z2 :: z3 :: z4 :: .ref (a + 2) :: rest) [arI 24, arI 0] (sz + 24))) : wp G (d + 2) mX1_init 0 [(0, .ref a), (1, .ref 1), (2, .int x2), (3, .int (nI ky))] [] (mkH (cz (K, n, V, J, O)).1 a 1 (.null :: .int 0 :: .int 0 :: .null :: .null :: z1 :: z2 :: z3 :: z4 :: .null :: rest) [] sz) (a + 3, sz + 24) Q := vX1_init_0 ⟨(a + 3, sz + 24), ⟨⟨by show a + 1 + 0 ≤ a + 3; omega, by show sz ≤ sz + 24; omega⟩, Nat.le_refl _, Nat.le_refl _⟩, x7_mk (N := 0) (by decide) hK h96 hky (by decide) (fun _ => ⟨rfl, rfl, hq⟩)⟩
theorem x10_mk {Q : Option Value → AH → Prop} (hK : StK K) (h96 : 96 ≤ a) (hky : ky < 4) (hq : Q none (mkH (cz (K, n, V, J, O)).1 a 10 (.ref 1 :: .int x2 :: .int (nI ky) :: .ref (4 + 1 + ky) :: .ref (a + 1) :: z1 :: z2 :: z3 :: z4 :: .ref (a + 2) :: .ref (a + 3) :: .ref (a + 4) :: .int (-1) :: rest) [arI 24, arI 80, arI 80, arI 80] (sz + 264))) : wp G (d + 1) mX10_init 0 [(0, .ref a), (1, .ref 1), (2, .int x2), (3, .int (nI ky))] [] (mkH (cz (K, n, V, J, O)).1 a 10 (.null :: .int 0 :: .int 0 :: .null :: .null :: z1 :: z2 :: z3 :: z4 :: .null :: .null :: .null :: .int 0 :: rest) [] sz) (a + 5, sz + 264) Q := by
  have hl : ∀ {y1 y2 y3 y4 y5 y6 y7 y8 y9 y10 y11 y12 y13 : Value}, 12 < (y1 :: y2 :: y3 :: y4 :: y5 :: y6 :: y7 :: y8 :: y9 :: y10 :: y11 :: y12 :: y13 :: rest).length := by
    intros
    simp only [List.length_cons]
    omega
  exact vX10_init_0 ⟨(a + 2, sz + 24), ⟨⟨by show a + 1 + 0 ≤ a + 2; omega, by show sz ≤ sz + 24; omega⟩, by show a + 2 ≤ a + 5; omega, by show sz + 24 ≤ sz + 264; omega⟩, x5_mk hK h96 hky (by decide) (fun _ => ⟨rfl, NW_mk (by show a + 1 + 1 + 1 ≤ a + 5; omega) (by show sz + 24 + 80 ≤ sz + 264; omega) (FS_mk (by decide) (Nat.lt_of_lt_of_le (by decide) hl) (NW_mk (by show a + 1 + 2 + 1 ≤ a + 5; omega) (by show sz + 24 + 80 + 80 ≤ sz + 264; omega) (FS_mk (by decide) (Nat.lt_of_lt_of_le (by decide) hl) (NW_mk (by show a + 1 + 3 + 1 ≤ a + 5; omega) (by show sz + 24 + 80 + 80 + 80 ≤ sz + 264; omega) (FS_mk (by decide) (Nat.lt_of_lt_of_le (by decide) hl) (FS_mk (by decide) hl ⟨rfl, hq⟩))))))⟩)⟩
end
