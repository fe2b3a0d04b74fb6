/-! ===== put ===== -/
def fl4 (fl : Nat → Nat → Nat) (nT a b c e : Nat) : Nat → Nat → Nat := fun f u => if u = nT then (if f = 0 then a else if f = 1 then b else if f = 2 then c else e) else fl f u
theorem inS_in {nT : Nat} {ins : Nat → Bool} : (fun u => u = nT ∨ inS nT ins u) = inS (nT + 1) (insT ins nT true) := by
  funext u
  unfold inS insT
  apply propext
  by_cases e : u = nT
  · simp [e]
  · simp only [e, false_or, if_false]
    constructor
    · exact fun h => ⟨by omega, h.2⟩
    · exact fun h => ⟨by omega, h.2⟩
theorem cn_in {p : Nat → Bool} {k : Nat} : cn (insT p k true) (k + 1) = cn p k + 1 := by
  show cn (insT p k true) k + (if insT p k true k = true then 1 else 0) = _
  rw [cn_eq (p := insT p k true) (q := p) (fun u hu => by unfold insT; rw [if_neg (by omega)])]
  have e : insT p k true k = true := if_pos rfl
  rw [if_pos e]
theorem seg_c {ke ke' : Nat → Nat} {L : List Nat} (h : ∀ u, u ∈ L → ke' u = ke u) : ∀ {k b : Nat}, seg ke' L b k = seg ke L b k
  | 0, b => rfl
  | k + 1, b => by
    show L.filter (fun t => bk ke' t == b) ++ seg ke' L (b + 1) k = L.filter (fun t => bk ke t == b) ++ seg ke L (b + 1) k
    rw [seg_c h, List.filter_congr (q := fun t => bk ke t == b) (fun u hu => by unfold bk; rw [h u hu])]
theorem psum_c {ke ke' nm : Nat → Nat} : ∀ {j : Nat}, (∀ i, i < j → ke' (nm i) = ke (nm i)) → psum ke' nm j = psum ke nm j
  | 0, _ => rfl
  | j + 1, h => by
    show psum ke' nm j + ke' (nm j) = psum ke nm j + ke (nm j)
    rw [psum_c (fun i hi => h i (by omega)), h j (by omega)]
theorem srt_c {ke ke' : Nat → Nat} {L : List Nat} (h : ∀ u, u ∈ L → ke' u = ke u) (hs : srt ke L) : srt ke' L := List.Pairwise.imp_of_mem (fun {a b} ha hb q => by unfold lts at *; rw [h a ha, h b hb]; exact q) hs
theorem gI_c {kd : Nat} {ke ke' : Nat → Nat} {S : Nat → Prop} {g : GS} (hkd : kd ≤ 7) (h : ∀ u, S u → ke' u = ke u) (hg : gI kd ke S g) : gI kd ke' S g := by
  rcases kd_cases hkd with rfl | rfl | rfl | rfl | rfl | rfl | rfl | rfl
  · trivial
  · exact hg
  · exact ⟨hg.1, srt_c (fun u hu => h u ((hg.1.2 u).mp hu)) hg.2⟩
  · exact hg
  · exact hg
  · exact ⟨hg.1, srt_c (fun u hu => h u ((hg.1.2 u).mp hu)) hg.2.1, hg.2.2⟩
  · trivial
  · exact ⟨hg.1, srt_c (fun u hu => h u ((hg.1.2 u).mp hu)) hg.2⟩
theorem CR_c {kd b : Nat} {ke ke' : Nat → Nat} {S : Nat → Prop} {g : GS} {V : SV} (hkd : kd ≤ 7) (h : ∀ u, S u → ke' u = ke u) (hg : gI kd ke S g) (hR : CR kd b ke g V) : CR kd b ke' g V := by
  rcases kd_cases hkd with rfl | rfl | rfl | rfl | rfl | rfl | rfl | rfl
  · trivial
  · exact hR
  · exact hR
  · exact hR
  · show RowC b (CL ke' g.1).length (nmL (CL ke' g.1)) V
    unfold CL
    rw [seg_c (ke := ke) (fun u hu => h u ((hg.2 u).mp hu))]
    exact hR
  · exact hR
  · exact hR
  · refine ⟨hR.1, fun j hj => ?_⟩
    rw [hR.2 j hj, psum_c (ke := ke) (ke' := ke') (fun i hi => h _ ((hg.1.2 _).mp (nmL_mem (by omega))))]
section
variable {G : Gp} {d : Nat} {K : SK} {n : Nat × Nat} {V V' : SV} {J : SJV} {O : SO} {r : Option Value}
variable {nS nT nG t : Nat} {ad kd ky : Nat → Nat} {fl : Nat → Nat → Nat} {ins : Nat → Bool} {wt : Nat → Nat} {x : Nat → SX} {un : Nat → Bool} {mo : Nat → Option Nat}
theorem c8_add (hK : StK K) (h12 : V 1 2 = nI nT) (hT : nT < 80) {x1 x2 x3 x4 : Int32} : Ev G d mX8_add 0 [(0, .ref 1), (1, .int x1), (2, .int x2), (3, .int x3), (4, .int x4)] (K, n, V, J, O) (some (.int (nI nT))) (K, n, up2 (up2 (up2 (up2 (up2 (up2 V 5 nT x1) 6 nT x2) 7 nT x3) 8 nT x4) 9 nT 1000) 1 2 (nI (nT + 1)), J, O) := by
  have e0 : (0 : Int32).toNatClampNeg = 0 := by decide
  have e1 : (1 : Int32).toNatClampNeg = 1 := by decide
  have e2 : (2 : Int32).toNatClampNeg = 2 := by decide
  have e3 : (3 : Int32).toNatClampNeg = 3 := by decide
  refine wX8_add_0 hK ?_
  rw [e0, e1, e2, e3]
  rw [show (4 + 1 + 0 : Nat) = 5 from rfl, show (4 + 1 + 1 : Nat) = 6 from rfl, show (4 + 1 + 2 : Nat) = 7 from rfl, show (4 + 1 + 3 : Nat) = 8 from rfl]
  simp only [up2_a (show (1 : Nat) ≠ 5 by decide), up2_a (show (1 : Nat) ≠ 6 by decide), up2_a (show (1 : Nat) ≠ 7 by decide), up2_a (show (1 : Nat) ≠ 8 by decide), h12, nI_c (show nT < 100000 by omega), nI_1]
  have hv := nI_v hT (by decide)
  refine ⟨nI_v (a := 0) (N := 4) (by decide) (by decide), hv, nI_v (a := 1) (N := 4) (by decide) (by decide), hv, nI_v (a := 2) (N := 4) (by decide) (by decide), hv, nI_v (a := 3) (N := 4) (by decide) (by decide), hv, hv, ?_, trivial⟩
  rw [nI_m1 (by omega), Nat.add_sub_cancel]
theorem c11_putE (hK : StK K) (hc : cT nT nG fl ins wt V) (hL : LW un mo (V 2) (V 3)) {a b c e : Nat} (ha : a ≤ 99) (hb : b ≤ 99) (hcc : c ≤ 99) (he : e ≤ 99) (hv : if (brk nT fl ins un mo 0 a || brk nT fl ins un mo 1 b || brk nT fl ins un mo 2 c || brk nT fl ins un mo 3 e) = true then (r = some (.int (-5)) ∧ V' = V) else (((V 1 2) < 80 → (∃ (v10 : Int32) (V9 : SV), Ev G (d + 6) mX8_add 0 [(0, .ref 1), (1, .int (nI a)), (2, .int (nI b)), (3, .int (nI c)), (4, .int (nI e))] (K, n, V, J, O) (some (.int v10)) (K, n, V9, J, O) ∧ Ev G (d + 7) mX11_put 115 [(0, .ref 0), (1, .int (nI a)), (2, .int (nI b)), (3, .int (nI c)), (4, .int (nI e)), (5, .int v10), (6, .int 0)] (K, n, V9, J, O) r (K, n, V', J, O))) ∧ (¬ (V 1 2) < 80 → (r = some (.int (-3)) ∧ V' = V)))) : Ev G (d + 7) mX11_put 0 [(0, .ref 0), (1, .int (nI a)), (2, .int (nI b)), (3, .int (nI c)), (4, .int (nI e))] (K, n, V, J, O) r (K, n, V', J, O) := by
  have iv : ∀ {k : Nat}, k ≤ 99 → Ev G (d + 6) mX11_isValue 0 [(0, .int (nI k))] (K, n, V, J, O) (some (.int 1)) (K, n, V, J, O) := fun {k} h => ev_b (c11_isValue hK) ((btw_iff (N := 99) (by decide)).mpr ⟨k, h, rfl⟩)
  refine wX11_put_0 hK ⟨_, iv ha, bf one0 ⟨_, iv hb, bf one0 ⟨_, iv hcc, bf one0 ⟨_, iv he, nt one0 ⟨_, c8_wouldBreak (d := d + 4) (f := 0) hK hc hL (by decide) (show a < 100 by omega), ?_⟩⟩⟩⟩⟩
  cases q1 : brk nT fl ins un mo 0 a with
  | true =>
    rw [q1] at hv
    exact nt (by decide) (by simpa using hv)
  | false =>
    refine nf rfl ⟨_, c8_wouldBreak (d := d + 4) (f := 1) hK hc hL (by decide) (show b < 100 by omega), ?_⟩
    cases q2 : brk nT fl ins un mo 1 b with
    | true =>
      rw [q1, q2] at hv
      exact nt (by decide) (by simpa using hv)
    | false =>
      refine nf rfl ⟨_, c8_wouldBreak (d := d + 4) (f := 2) hK hc hL (by decide) (show c < 100 by omega), ?_⟩
      cases q3 : brk nT fl ins un mo 2 c with
      | true =>
        rw [q1, q2, q3] at hv
        exact nt (by decide) (by simpa using hv)
      | false =>
        refine nf rfl ⟨_, c8_wouldBreak (d := d + 4) (f := 3) hK hc hL (by decide) (show e < 100 by omega), ?_⟩
        cases q4 : brk nT fl ins un mo 3 e with
        | true =>
          rw [q1, q2, q3, q4] at hv
          exact bf (by decide) (by simpa using hv)
        | false =>
          rw [q1, q2, q3, q4, if_neg (by decide)] at hv
          exact bt rfl hv
theorem c12_putE (hK : StK K) (hm : mT nT fl ins V) (hL : LW un mo (V 60) (V 61)) {a b c e : Nat} (ha : a ≤ 99) (hb : b ≤ 99) (hcc : c ≤ 99) (he : e ≤ 99) (hT : nT ≤ 80) (hv : if (brk nT fl ins un mo 0 a || brk nT fl ins un mo 1 b || brk nT fl ins un mo 2 c || brk nT fl ins un mo 3 e) = true then (r = some (.int (-5)) ∧ V' = V) else ((nT < 80 → Ev G (d + 7) mX12_put 161 [(0, .ref 57), (1, .int (nI a)), (2, .int (nI b)), (3, .int (nI c)), (4, .int (nI e)), (5, .int 0)] (K, n, up2 (up2 (up2 (up2 (up2 (up2 V 58 (4 * nT) (nI a)) 58 (4 * nT + 1) (nI b)) 58 (4 * nT + 2) (nI c)) 58 (4 * nT + 3) (nI e)) 59 nT 1) 57 2 (nI (nT + 1)), J, O) r (K, n, V', J, O)) ∧ (¬ nT < 80 → (r = some (.int (-3)) ∧ V' = V)))) : Ev G (d + 7) mX12_put 0 [(0, .ref 57), (1, .int (nI a)), (2, .int (nI b)), (3, .int (nI c)), (4, .int (nI e))] (K, n, V, J, O) r (K, n, V', J, O) := by
  have iv : ∀ {k : Nat}, k ≤ 99 → Ev G (d + 6) mX12_isValue 0 [(0, .int (nI k))] (K, n, V, J, O) (some (.int 1)) (K, n, V, J, O) := fun {k} h => ev_b (c12_isValue hK) ((btw_iff (N := 99) (by decide)).mpr ⟨k, h, rfl⟩)
  refine wX12_put_0 hK ⟨_, iv ha, bf one0 ⟨_, iv hb, bf one0 ⟨_, iv hcc, bf one0 ⟨_, iv he, nt one0 ⟨_, c12_breaks (d := d + 5) (f := 0) hK hm hL (by decide) (show a < 100 by omega), ?_⟩⟩⟩⟩⟩
  cases q1 : brk nT fl ins un mo 0 a with
  | true =>
    rw [q1] at hv
    exact nt (by decide) (by simpa using hv)
  | false =>
    refine nf rfl ⟨_, c12_breaks (d := d + 5) (f := 1) hK hm hL (by decide) (show b < 100 by omega), ?_⟩
    cases q2 : brk nT fl ins un mo 1 b with
    | true =>
      rw [q1, q2] at hv
      exact nt (by decide) (by simpa using hv)
    | false =>
      refine nf rfl ⟨_, c12_breaks (d := d + 5) (f := 2) hK hm hL (by decide) (show c < 100 by omega), ?_⟩
      cases q3 : brk nT fl ins un mo 2 c with
      | true =>
        rw [q1, q2, q3] at hv
        exact nt (by decide) (by simpa using hv)
      | false =>
        refine nf rfl ⟨_, c12_breaks (d := d + 5) (f := 3) hK hm hL (by decide) (show e < 100 by omega), ?_⟩
        cases q4 : brk nT fl ins un mo 3 e with
        | true =>
          rw [q1, q2, q3, q4] at hv
          exact bf (by decide) (by simpa using hv)
        | false =>
          rw [q1, q2, q3, q4, if_neg (by decide)] at hv
          refine bt rfl ?_
          have ex : ∀ f, (4 : Int32) * nI nT + nI f = nI (4 * nT + f) := fun f => ix4 nT f
          have ex0 : (4 : Int32) * nI nT = nI (4 * nT) := nI_mul 4 nT
          have ex1 : (4 : Int32) * nI nT + 1 = nI (4 * nT + 1) := ix4 nT 1
          have ex2 : (4 : Int32) * nI nT + 2 = nI (4 * nT + 2) := ix4 nT 2
          have ex3 : (4 : Int32) * nI nT + 3 = nI (4 * nT + 3) := ix4 nT 3
          rw [hm.2.1, ex1, ex2, ex3, ex0, nar1, nI_1, nI_c (show 4 * nT < 100000 by omega), nI_c (show 4 * nT + 1 < 100000 by omega), nI_c (show 4 * nT + 2 < 100000 by omega), nI_c (show 4 * nT + 3 < 100000 by omega), nI_c (show nT < 100000 by omega)]
          by_cases q : nT < 80
          · exact nt (by show ¬ nI nT = nI 80; rw [nI_e' (by omega) (by omega)]; omega) ⟨nI_v (by omega) (by omega), nI_v (by omega) (by omega), nI_v (by omega) (by omega), nI_v (by omega) (by omega), nI_v q (by omega), hv.1 q⟩
          · exact nf (by rw [show nT = 80 by omega]; rfl) (hv.2 q)
end
