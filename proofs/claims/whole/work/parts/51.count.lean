/-! ===== count ===== -/
theorem sv_0 {x : Int32} {A0 A1 A2 A3 A4 A5 A6 A7 : Prop} (e : x = 0) (h : A0) : (x = 0 → A0) ∧ (x = 1 → A1) ∧ (x = 2 → A2) ∧ (x = 3 → A3) ∧ (x = 4 → A4) ∧ (x = 5 → A5) ∧ (x = 6 → A6) ∧ ((¬ x = 0 ∧ ¬ x = 1 ∧ ¬ x = 2 ∧ ¬ x = 3 ∧ ¬ x = 4 ∧ ¬ x = 5 ∧ ¬ x = 6) → A7) := by
  subst e
  exact ⟨fun _ => h, fun e => absurd e (by decide), fun e => absurd e (by decide), fun e => absurd e (by decide), fun e => absurd e (by decide), fun e => absurd e (by decide), fun e => absurd e (by decide), fun e => absurd rfl (e.1)⟩
theorem sv_1 {x : Int32} {A0 A1 A2 A3 A4 A5 A6 A7 : Prop} (e : x = 1) (h : A1) : (x = 0 → A0) ∧ (x = 1 → A1) ∧ (x = 2 → A2) ∧ (x = 3 → A3) ∧ (x = 4 → A4) ∧ (x = 5 → A5) ∧ (x = 6 → A6) ∧ ((¬ x = 0 ∧ ¬ x = 1 ∧ ¬ x = 2 ∧ ¬ x = 3 ∧ ¬ x = 4 ∧ ¬ x = 5 ∧ ¬ x = 6) → A7) := by
  subst e
  exact ⟨fun e => absurd e (by decide), fun _ => h, fun e => absurd e (by decide), fun e => absurd e (by decide), fun e => absurd e (by decide), fun e => absurd e (by decide), fun e => absurd e (by decide), fun e => absurd rfl (e.2.1)⟩
theorem sv_2 {x : Int32} {A0 A1 A2 A3 A4 A5 A6 A7 : Prop} (e : x = 2) (h : A2) : (x = 0 → A0) ∧ (x = 1 → A1) ∧ (x = 2 → A2) ∧ (x = 3 → A3) ∧ (x = 4 → A4) ∧ (x = 5 → A5) ∧ (x = 6 → A6) ∧ ((¬ x = 0 ∧ ¬ x = 1 ∧ ¬ x = 2 ∧ ¬ x = 3 ∧ ¬ x = 4 ∧ ¬ x = 5 ∧ ¬ x = 6) → A7) := by
  subst e
  exact ⟨fun e => absurd e (by decide), fun e => absurd e (by decide), fun _ => h, fun e => absurd e (by decide), fun e => absurd e (by decide), fun e => absurd e (by decide), fun e => absurd e (by decide), fun e => absurd rfl (e.2.2.1)⟩
theorem sv_3 {x : Int32} {A0 A1 A2 A3 A4 A5 A6 A7 : Prop} (e : x = 3) (h : A3) : (x = 0 → A0) ∧ (x = 1 → A1) ∧ (x = 2 → A2) ∧ (x = 3 → A3) ∧ (x = 4 → A4) ∧ (x = 5 → A5) ∧ (x = 6 → A6) ∧ ((¬ x = 0 ∧ ¬ x = 1 ∧ ¬ x = 2 ∧ ¬ x = 3 ∧ ¬ x = 4 ∧ ¬ x = 5 ∧ ¬ x = 6) → A7) := by
  subst e
  exact ⟨fun e => absurd e (by decide), fun e => absurd e (by decide), fun e => absurd e (by decide), fun _ => h, fun e => absurd e (by decide), fun e => absurd e (by decide), fun e => absurd e (by decide), fun e => absurd rfl (e.2.2.2.1)⟩
theorem sv_4 {x : Int32} {A0 A1 A2 A3 A4 A5 A6 A7 : Prop} (e : x = 4) (h : A4) : (x = 0 → A0) ∧ (x = 1 → A1) ∧ (x = 2 → A2) ∧ (x = 3 → A3) ∧ (x = 4 → A4) ∧ (x = 5 → A5) ∧ (x = 6 → A6) ∧ ((¬ x = 0 ∧ ¬ x = 1 ∧ ¬ x = 2 ∧ ¬ x = 3 ∧ ¬ x = 4 ∧ ¬ x = 5 ∧ ¬ x = 6) → A7) := by
  subst e
  exact ⟨fun e => absurd e (by decide), fun e => absurd e (by decide), fun e => absurd e (by decide), fun e => absurd e (by decide), fun _ => h, fun e => absurd e (by decide), fun e => absurd e (by decide), fun e => absurd rfl (e.2.2.2.2.1)⟩
theorem sv_5 {x : Int32} {A0 A1 A2 A3 A4 A5 A6 A7 : Prop} (e : x = 5) (h : A5) : (x = 0 → A0) ∧ (x = 1 → A1) ∧ (x = 2 → A2) ∧ (x = 3 → A3) ∧ (x = 4 → A4) ∧ (x = 5 → A5) ∧ (x = 6 → A6) ∧ ((¬ x = 0 ∧ ¬ x = 1 ∧ ¬ x = 2 ∧ ¬ x = 3 ∧ ¬ x = 4 ∧ ¬ x = 5 ∧ ¬ x = 6) → A7) := by
  subst e
  exact ⟨fun e => absurd e (by decide), fun e => absurd e (by decide), fun e => absurd e (by decide), fun e => absurd e (by decide), fun e => absurd e (by decide), fun _ => h, fun e => absurd e (by decide), fun e => absurd rfl (e.2.2.2.2.2.1)⟩
theorem sv_6 {x : Int32} {A0 A1 A2 A3 A4 A5 A6 A7 : Prop} (e : x = 6) (h : A6) : (x = 0 → A0) ∧ (x = 1 → A1) ∧ (x = 2 → A2) ∧ (x = 3 → A3) ∧ (x = 4 → A4) ∧ (x = 5 → A5) ∧ (x = 6 → A6) ∧ ((¬ x = 0 ∧ ¬ x = 1 ∧ ¬ x = 2 ∧ ¬ x = 3 ∧ ¬ x = 4 ∧ ¬ x = 5 ∧ ¬ x = 6) → A7) := by
  subst e
  exact ⟨fun e => absurd e (by decide), fun e => absurd e (by decide), fun e => absurd e (by decide), fun e => absurd e (by decide), fun e => absurd e (by decide), fun e => absurd e (by decide), fun _ => h, fun e => absurd rfl (e.2.2.2.2.2.2)⟩
theorem sv_n {x : Int32} {A0 A1 A2 A3 A4 A5 A6 A7 : Prop} (h0 : ¬ x = 0) (h1 : ¬ x = 1) (h2 : ¬ x = 2) (h3 : ¬ x = 3) (h4 : ¬ x = 4) (h5 : ¬ x = 5) (h6 : ¬ x = 6) (h : A7) : (x = 0 → A0) ∧ (x = 1 → A1) ∧ (x = 2 → A2) ∧ (x = 3 → A3) ∧ (x = 4 → A4) ∧ (x = 5 → A5) ∧ (x = 6 → A6) ∧ ((¬ x = 0 ∧ ¬ x = 1 ∧ ¬ x = 2 ∧ ¬ x = 3 ∧ ¬ x = 4 ∧ ¬ x = 5 ∧ ¬ x = 6) → A7) := ⟨fun e => absurd e h0, fun e => absurd e h1, fun e => absurd e h2, fun e => absurd e h3, fun e => absurd e h4, fun e => absurd e h5, fun e => absurd e h6, fun _ => h⟩
/-- how many parts of the latest act ran, in both -/
def TrR (K : SK) (O : SO) (V : SV) : Prop := (O 0 9 = none ∧ V 57 51 = 0) ∨ ∃ (b c y : Nat), O 0 9 = some b ∧ IsSt K b c y ∧ c ∈ [1, 2, 3, 4, 5, 6, 7, 10] ∧ V b 5 = V 57 51
section
variable {G : Gp} {d : Nat} {K : SK} {n : Nat × Nat} {V : SV} {J : SJV} {O : SO} {r : Option Value}
variable {nT nG : Nat} {fl : Nat → Nat → Nat} {ins : Nat → Bool} {wt : Nat → Nat}
theorem c11_bodiesRun (hK : StK K) (h : TrR K O V) : Ev G d mX11_bodiesRun 0 [(0, .ref 0)] (K, n, V, J, O) (some (.int (V 57 51))) (K, n, V, J, O) := by
  refine wX11_bodiesRun_0 hK ?_
  rcases h with ⟨h1, h2⟩ | ⟨b, c, y, h1, h2, h3, h4⟩
  · exact Or.inl ⟨h1, by rw [h2]⟩
  · exact Or.inr ⟨b, c, y, h1, h2, h3, Or.inr ⟨b, c, y, h1, h2, h3, by rw [h4]⟩⟩
theorem c12_count4 (hK : StK K) (hm : mT nT fl ins V) {x1 : Int32} (hfin : (x1 = 0 → r = some (.int (V 57 2))) ∧ (x1 = 1 → r = some (.int (nI (cn ins nT)))) ∧ (x1 = 2 → r = some (.int (V 57 14))) ∧ (x1 = 3 → r = some (.int (V 57 25))) ∧ (x1 = 4 → r = some (.int (V 57 6))) ∧ (x1 = 5 → r = some (.int (V 57 49))) ∧ (x1 = 6 → r = some (.int (V 57 51))) ∧ ((¬ x1 = 0 ∧ ¬ x1 = 1 ∧ ¬ x1 = 2 ∧ ¬ x1 = 3 ∧ ¬ x1 = 4 ∧ ¬ x1 = 5 ∧ ¬ x1 = 6) → r = some (.int (-1)))) : ∀ (k i : Nat), i + k = nT → Ev G d mX12_count 4 [(0, .ref 57), (1, .int x1), (2, .int (nI (cn ins i))), (3, .int (nI i))] (K, n, V, J, O) r (K, n, V, J, O) := by
  have h80 := hm.1
  intro k
  induction k with
  | zero =>
    intro i e
    obtain rfl : i = nT := by omega
    exact wX12_count_4 hK (bt (lp_out hm.2.1 (by omega) (by omega)) hfin)
  | succ k ih =>
    intro i e
    refine wX12_count_4 hK (bf (lp_in hm.2.1 (by omega) (by omega)) ⟨nI_v (by omega) (by omega), ?_⟩)
    rw [nI_c (by omega), hm.2.2.2 i (by omega)]
    have h2 := ih (i + 1) (by omega)
    unfold cn at h2
    cases q : ins i with
    | true =>
      rw [q, if_pos rfl] at h2
      refine bf (by decide) ?_
      rw [nI_1, nI_1]
      exact h2
    | false =>
      rw [q, if_neg (by decide), Nat.add_zero] at h2
      refine bt rfl ?_
      rw [nI_1, nI_a0]
      exact h2
theorem p_count (hK : StK K) (hc : cT nT nG fl ins wt V) (hm : mT nT fl ins V) (hG : cn ins nT + nG = nT) (h2 : V 0 5 = V 57 14) (h3 : V 0 7 = V 57 25) (h4 : V 0 3 = V 57 6) (h5 : V 1 3 = V 57 49) (h6 : TrR K O V) {x1 : Int32} : ∃ r : Int32, Ev G (d + 1) mX11_count 0 [(0, .ref 0), (1, .int x1)] (K, n, V, J, O) (some (.int r)) (K, n, V, J, O) ∧ Ev G (d + 1) mX12_count 0 [(0, .ref 57), (1, .int x1)] (K, n, V, J, O) (some (.int r)) (K, n, V, J, O) := by
  have hr := fun (r : Option Value) h => wX12_count_0 (G := G) (d := d + 1) (n := n) (V := V) (J := J) (O := O) hK (c12_count4 (r := r) (x1 := x1) hK hm h nT 0 (by omega))
  have e1 : V 1 2 - V 1 6 = nI (cn ins nT) := by
    rw [hc.2.1, hc.2.2.1, nI_s hc.1.2]
    congr 1
    omega
  by_cases q0 : x1 = 0
  · exact ⟨V 57 2, wX11_count_0 hK (sv_0 q0 (by rw [hc.2.1, hm.2.1])), hr _ (sv_0 q0 rfl)⟩
  by_cases q1 : x1 = 1
  · exact ⟨nI (cn ins nT), wX11_count_0 hK (sv_1 q1 ⟨_, wX8_countIn_0 hK rfl, by rw [e1]⟩), hr _ (sv_1 q1 rfl)⟩
  by_cases q2 : x1 = 2
  · exact ⟨V 57 14, wX11_count_0 hK (sv_2 q2 (by rw [h2])), hr _ (sv_2 q2 rfl)⟩
  by_cases q3 : x1 = 3
  · exact ⟨V 57 25, wX11_count_0 hK (sv_3 q3 (by rw [h3])), hr _ (sv_3 q3 rfl)⟩
  by_cases q4 : x1 = 4
  · exact ⟨V 57 6, wX11_count_0 hK (sv_4 q4 (by rw [h4])), hr _ (sv_4 q4 rfl)⟩
  by_cases q5 : x1 = 5
  · exact ⟨V 57 49, wX11_count_0 hK (sv_5 q5 (by rw [h5])), hr _ (sv_5 q5 rfl)⟩
  by_cases q6 : x1 = 6
  · exact ⟨V 57 51, wX11_count_0 hK (sv_6 q6 ⟨_, c11_bodiesRun hK h6, rfl⟩), hr _ (sv_6 q6 rfl)⟩
  exact ⟨-1, wX11_count_0 hK (sv_n q0 q1 q2 q3 q4 q5 q6 rfl), hr _ (sv_n q0 q1 q2 q3 q4 q5 q6 rfl)⟩
end
