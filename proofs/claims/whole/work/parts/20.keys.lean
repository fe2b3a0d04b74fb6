/-! ===== key, leastLooks, root ===== -/
theorem nI_lt' {a b : Nat} (ha : a < 100000) (hb : b < 100000) : (nI a < nI b) = (a < b) := propext (nI_l' ha hb)
/-- how often something is sought between a and b -/
def sght (kk gg : Nat → Nat) (a : Nat) : Nat → Nat
  | 0 => gg a
  | l + 1 => sght kk gg a l + (kk (a + l) + gg (a + l + 1))
/-- the first best of t .. t + k - 1 and the one known -/
def amin (g : Nat → Nat) : Nat → Nat → Nat → Nat
  | 0, _, b => b
  | k + 1, t, b => amin g k (t + 1) (if g t < g b then t else b)
theorem amin_eq {g h : Nat → Nat} : ∀ {k t b : Nat}, (∀ j, t ≤ j → j < t + k → g j = h j) → g b = h b → amin g k t b = amin h k t b
  | 0, _, _, _, _ => rfl
  | k + 1, t, b, h1, h2 => by
    show amin g k (t + 1) _ = amin h k (t + 1) _
    have e := h1 t (Nat.le_refl _) (by omega)
    rw [e, h2]
    split
    · exact amin_eq (fun j h3 h4 => h1 j (by omega) (by omega)) e
    · exact amin_eq (fun j h3 h4 => h1 j (by omega) (by omega)) h2
theorem amin_in {g : Nat → Nat} : ∀ {k t b lo : Nat}, lo ≤ b → b < t → (lo ≤ amin g k t b ∧ amin g k t b < t + k)
  | 0, t, b, lo, h1, h2 => ⟨h1, h2⟩
  | k + 1, t, b, lo, h1, h2 => by
    show lo ≤ amin g k (t + 1) _ ∧ amin g k (t + 1) _ < _
    split
    · have := amin_in (g := g) (k := k) (t := t + 1) (b := t) (lo := lo) (by omega) (by omega)
      omega
    · have := amin_in (g := g) (k := k) (t := t + 1) (b := b) (lo := lo) h1 (by omega)
      omega
def TF (kk gg : Nat → Nat) : Nat → Nat → Nat → Nat
  | 0, _, _ => 0
  | f + 1, a, b => if b ≤ a then 0 else (fun r => TF kk gg f a r + TF kk gg f (r + 1) b) (amin (fun r => TF kk gg f a r + TF kk gg f (r + 1) b) (b - a - 1) (a + 1) a) + sght kk gg a (b - a)
def TT (kk gg : Nat → Nat) (a b : Nat) : Nat := TF kk gg (b - a) a b
/-- the best root between a and b -/
def RT (kk gg : Nat → Nat) (a b : Nat) : Nat := amin (fun r => TT kk gg a r + TT kk gg (r + 1) b) (b - a - 1) (a + 1) a
theorem TF_st (kk gg : Nat → Nat) : ∀ f a b, b - a ≤ f → TF kk gg f a b = TF kk gg (b - a) a b := by
  intro f
  induction f using Nat.strongRecOn with
  | _ f ih =>
    intro a b h
    by_cases hb : b ≤ a
    · rw [show b - a = 0 by omega]
      cases f with
      | zero => rfl
      | succ f => exact if_pos hb
    · obtain ⟨l, hl⟩ : ∃ l, b - a = l + 1 := ⟨b - a - 1, by omega⟩
      cases f with
      | zero => omega
      | succ f =>
        rw [hl]
        show (if b ≤ a then 0 else _) = (if b ≤ a then 0 else _)
        rw [if_neg hb, if_neg hb]
        have key : ∀ r, a ≤ r → r < b → TF kk gg f a r + TF kk gg f (r + 1) b = TF kk gg l a r + TF kk gg l (r + 1) b := by
          intro r h1 h2
          rw [ih f (by omega) a r (by omega), ih f (by omega) (r + 1) b (by omega), ih l (by omega) a r (by omega), ih l (by omega) (r + 1) b (by omega)]
        have e := amin_eq (g := fun r => TF kk gg f a r + TF kk gg f (r + 1) b) (h := fun r => TF kk gg l a r + TF kk gg l (r + 1) b) (k := b - a - 1) (t := a + 1) (b := a) (fun j h1 h2 => key j (by omega) (by omega)) (key a (by omega) (by omega))
        have hin := amin_in (g := fun r => TF kk gg l a r + TF kk gg l (r + 1) b) (k := b - a - 1) (t := a + 1) (b := a) (lo := a) (Nat.le_refl _) (by omega)
        rw [e]
        show _ + _ + _ = _ + _ + _
        rw [key _ hin.1 (by omega)]
theorem TT_0 {kk gg : Nat → Nat} {a : Nat} : TT kk gg a a = 0 := by
  unfold TT
  rw [Nat.sub_self]
  rfl
theorem TT_s {kk gg : Nat → Nat} {a b : Nat} (h : a < b) : TT kk gg a b = TT kk gg a (RT kk gg a b) + TT kk gg (RT kk gg a b + 1) b + sght kk gg a (b - a) ∧ a ≤ RT kk gg a b ∧ RT kk gg a b < b := by
  obtain ⟨l, hl⟩ : ∃ l, b - a = l + 1 := ⟨b - a - 1, by omega⟩
  have key : ∀ r, a ≤ r → r < b → TF kk gg l a r + TF kk gg l (r + 1) b = TT kk gg a r + TT kk gg (r + 1) b := by
    intro r h1 h2
    rw [TF_st kk gg l a r (by omega), TF_st kk gg l (r + 1) b (by omega)]
    rfl
  have e := amin_eq (g := fun r => TF kk gg l a r + TF kk gg l (r + 1) b) (h := fun r => TT kk gg a r + TT kk gg (r + 1) b) (k := b - a - 1) (t := a + 1) (b := a) (fun j h1 h2 => key j (by omega) (by omega)) (key a (by omega) (by omega))
  have hin := amin_in (g := fun r => TT kk gg a r + TT kk gg (r + 1) b) (k := b - a - 1) (t := a + 1) (b := a) (lo := a) (Nat.le_refl _) (by omega)
  have hin2 : a ≤ RT kk gg a b ∧ RT kk gg a b < b := ⟨hin.1, by have := hin.2; unfold RT; omega⟩
  refine ⟨?_, hin2⟩
  rw [← key _ hin2.1 hin2.2]
  conv => lhs; unfold TT; rw [hl]
  show (if b ≤ a then 0 else _) = _
  rw [if_neg (by omega), e]
  rfl
theorem sght_le {kk gg : Nat → Nat} {m a : Nat} (hk : ∀ k, k < m → kk k ≤ 99) (hg : ∀ k, k ≤ m → gg k ≤ 99) : ∀ l, a + l ≤ m → sght kk gg a l ≤ 99 + 198 * l
  | 0, h => by have := hg a (by omega); show gg a ≤ _; omega
  | l + 1, h => by
    have h1 := sght_le (m := m) (a := a) hk hg l (by omega)
    have h2 := hk (a + l) (by omega)
    have h3 := hg (a + l + 1) (by omega)
    show sght kk gg a l + _ ≤ _
    omega
theorem TT_le {kk gg : Nat → Nat} {m : Nat} (hm : m ≤ 9) (hk : ∀ k, k < m → kk k ≤ 99) (hg : ∀ k, k ≤ m → gg k ≤ 99) : ∀ l a b, b - a = l → b ≤ m → TT kk gg a b ≤ 1881 * l := by
  intro l
  induction l using Nat.strongRecOn with
  | _ l ih =>
    intro a b h1 h2
    by_cases hab : a < b
    · obtain ⟨e, h3, h4⟩ := TT_s (kk := kk) (gg := gg) hab
      have i1 := ih (RT kk gg a b - a) (by omega) a (RT kk gg a b) rfl (by omega)
      have i2 := ih (b - (RT kk gg a b + 1)) (by omega) (RT kk gg a b + 1) b rfl h2
      have i3 := sght_le (m := m) (a := a) hk hg (b - a) (by omega)
      rw [e]
      have e2 : RT kk gg a b - a + (b - (RT kk gg a b + 1)) + 1 = l := by omega
      have e3 : b - a ≤ 9 := by omega
      omega
    · rw [show TT kk gg a b = 0 from by unfold TT; rw [show b - a = 0 by omega]; rfl]
      exact Nat.zero_le _
section
variable {G : Gp} {dd : Nat} {K : SK} {n : Nat × Nat} {V V' : SV} {J J' : SJV} {O O' : SO} {r : Option Value}
variable {m : Nat} {kk gg : Nat → Nat}
/-- the keys and what lies between them, while the least is sought -/
def SCL (m : Nat) (kk gg : Nat → Nat) (V : SV) : Prop := (m ≤ 9 ∧ (∀ k, k < m → kk k ≤ 99) ∧ ∀ k, k ≤ m → gg k ≤ 99) ∧ V 13 2 = nI m ∧ (∀ k, k < m → V 18 k = nI (kk k)) ∧ ∀ k, k ≤ m → V 19 k = nI (gg k)
def SML (m : Nat) (kk gg : Nat → Nat) (V : SV) : Prop := (m ≤ 9 ∧ (∀ k, k < m → kk k ≤ 99) ∧ ∀ k, k ≤ m → gg k ≤ 99) ∧ V 57 43 = nI m ∧ (∀ k, k < m → V 85 k = nI (kk k)) ∧ ∀ k, k ≤ m → V 86 k = nI (gg k)
theorem c9_sought (hK : StK K) (h : SCL m kk gg V) {a : Nat} : ∀ (k l : Nat), a + l + k ≤ m → Ev G dd mX9_soughtIn 10 [(0, .ref 13), (1, .int (nI a)), (2, .int (nI (a + l + k))), (3, .int (nI (sght kk gg a l))), (4, .int (nI (a + l)))] (K, n, V, J, O) (some (.int (nI (sght kk gg a (l + k))))) (K, n, V, J, O)
  | 0, l, e => by
    have h9 := h.1.1
    exact wX9_soughtIn_10 hK (bt (lp_out rfl (by omega) (by omega)) rfl)
  | k + 1, l, e => by
    have h9 := h.1.1
    have ih := c9_sought hK h (a := a) k (l + 1) (by omega)
    rw [show a + (l + 1) + k = a + l + (k + 1) by omega, show l + 1 + k = l + (k + 1) by omega] at ih
    refine wX9_soughtIn_10 hK (bf (lp_in rfl (by omega) (by omega)) ⟨nI_v (by omega) (by omega), ?_⟩)
    rw [nI_1, nI_c (show a + l < 100000 by omega), nI_c (show a + l + 1 < 100000 by omega), h.2.2.1 (a + l) (by omega), h.2.2.2 (a + l + 1) (by omega), nI_add, nI_add]
    exact ⟨nI_v (by omega) (by omega), ih⟩
theorem c9_soughtIn (hK : StK K) (h : SCL m kk gg V) {a b : Nat} (hab : a ≤ b) (hb : b ≤ m) : Ev G dd mX9_soughtIn 0 [(0, .ref 13), (1, .int (nI a)), (2, .int (nI b))] (K, n, V, J, O) (some (.int (nI (sght kk gg a (b - a))))) (K, n, V, J, O) := by
  have h9 := h.1.1
  have := c9_sought (G := G) (dd := dd) (n := n) (J := J) (O := O) hK h (a := a) (b - a) 0 (by omega)
  rw [show a + 0 + (b - a) = b by omega, Nat.zero_add] at this
  refine wX9_soughtIn_0 hK ⟨nI_v (by omega) (by omega), ?_⟩
  rw [nI_c (by omega), h.2.2.2 a (by omega)]
  exact this
theorem c12_sought (hK : StK K) (h : SML m kk gg V) {a : Nat} : ∀ (k l : Nat), a + l + k ≤ m → Ev G dd mX12_soughtIn 10 [(0, .ref 57), (1, .int (nI a)), (2, .int (nI (a + l + k))), (3, .int (nI (sght kk gg a l))), (4, .int (nI (a + l)))] (K, n, V, J, O) (some (.int (nI (sght kk gg a (l + k))))) (K, n, V, J, O)
  | 0, l, e => by
    have h9 := h.1.1
    exact wX12_soughtIn_10 hK (bt (lp_out rfl (by omega) (by omega)) rfl)
  | k + 1, l, e => by
    have h9 := h.1.1
    have ih := c12_sought hK h (a := a) k (l + 1) (by omega)
    rw [show a + (l + 1) + k = a + l + (k + 1) by omega, show l + 1 + k = l + (k + 1) by omega] at ih
    refine wX12_soughtIn_10 hK (bf (lp_in rfl (by omega) (by omega)) ⟨nI_v (by omega) (by omega), ?_⟩)
    rw [nI_1, nI_c (show a + l < 100000 by omega), nI_c (show a + l + 1 < 100000 by omega), h.2.2.1 (a + l) (by omega), h.2.2.2 (a + l + 1) (by omega), nI_add, nI_add]
    exact ⟨nI_v (by omega) (by omega), ih⟩
theorem c12_soughtIn (hK : StK K) (h : SML m kk gg V) {a b : Nat} (hab : a ≤ b) (hb : b ≤ m) : Ev G dd mX12_soughtIn 0 [(0, .ref 57), (1, .int (nI a)), (2, .int (nI b))] (K, n, V, J, O) (some (.int (nI (sght kk gg a (b - a))))) (K, n, V, J, O) := by
  have h9 := h.1.1
  have := c12_sought (G := G) (dd := dd) (n := n) (J := J) (O := O) hK h (a := a) (b - a) 0 (by omega)
  rw [show a + 0 + (b - a) = b by omega, Nat.zero_add] at this
  refine wX12_soughtIn_0 hK ⟨nI_v (by omega) (by omega), ?_⟩
  rw [nI_c (by omega), h.2.2.2 a (by omega)]
  exact this
/-- the class's table holds for shorter stretches, and for those of length l that begin before c -/
def TabC (m : Nat) (kk gg : Nat → Nat) (l c : Nat) (V : SV) : Prop := ∀ a b, a ≤ b → b ≤ m → (b - a < l ∨ (b - a = l ∧ a < c)) → V (20 + 1 + a) b = nI (TT kk gg a b)
def TabM (m : Nat) (kk gg : Nat → Nat) (l c : Nat) (V : SV) : Prop := ∀ a b, a ≤ b → b ≤ m → (b - a < l ∨ (b - a = l ∧ a < c)) → V 87 (10 * a + b) = nI (TT kk gg a b)
theorem c9_withRoot (hK : StK K) (h : SCL m kk gg V) {l c a b q : Nat} (hT : TabC m kk gg l c V) (hq : a ≤ q) (hb : q < b) (hbm : b ≤ m) (hl : b - a ≤ l) : Ev G dd mX9_withRoot 0 [(0, .ref 13), (1, .int (nI a)), (2, .int (nI b)), (3, .int (nI q))] (K, n, V, J, O) (some (.int (nI (TT kk gg a q + TT kk gg (q + 1) b)))) (K, n, V, J, O) := by
  have h9 := h.1.1
  refine wX9_withRoot_0 hK ⟨nI_v (by omega) (by omega), nI_v (by omega) (by omega), ?_⟩
  rw [nI_1, nI_c (show a < 100000 by omega), nI_c (show q < 100000 by omega), nI_c (show q + 1 < 100000 by omega), nI_c (show b < 100000 by omega), hT a q hq (by omega) (by omega), hT (q + 1) b (by omega) hbm (by omega), nI_add]
  exact ⟨nI_v (by omega) (by omega), nI_v (by omega) (by omega), rfl⟩
theorem c9_bestR (hK : StK K) (h : SCL m kk gg V) {l c a b : Nat} (hT : TabC m kk gg l c V) (hbm : b ≤ m) (hl : b - a ≤ l) : ∀ (k t q : Nat), t + k = b → a ≤ q → q < t → Ev G (dd + 1) mX9_bestRoot 7 [(0, .ref 13), (1, .int (nI a)), (2, .int (nI b)), (3, .int (nI q)), (4, .int (nI t))] (K, n, V, J, O) (some (.int (nI (amin (fun r => TT kk gg a r + TT kk gg (r + 1) b) k t q)))) (K, n, V, J, O)
  | 0, t, q, e, h1, h2 => by
    have h9 := h.1.1
    exact wX9_bestRoot_7 hK (bt (lp_out rfl (by omega) (by omega)) rfl)
  | k + 1, t, q, e, h1, h2 => by
    have h9 := h.1.1
    have l1 := TT_le h9 h.1.2.1 h.1.2.2 (t - a) a t rfl (by omega)
    have l2 := TT_le h9 h.1.2.1 h.1.2.2 (b - (t + 1)) (t + 1) b rfl hbm
    have l3 := TT_le h9 h.1.2.1 h.1.2.2 (q - a) a q rfl (by omega)
    have l4 := TT_le h9 h.1.2.1 h.1.2.2 (b - (q + 1)) (q + 1) b rfl hbm
    refine wX9_bestRoot_7 hK (bf (lp_in rfl (by omega) (by omega)) ⟨_, c9_withRoot hK h hT (by omega) (by omega) hbm hl, _, c9_withRoot hK h hT h1 (by omega) hbm hl, ?_⟩)
    rw [nI_le' (by omega) (by omega), nI_1]
    unfold amin
    refine ⟨fun z => ?_, fun z => ?_⟩
    · rw [if_neg (Nat.not_lt.mpr z)]
      exact c9_bestR hK h hT hbm hl k (t + 1) q (by omega) h1 (by omega)
    · rw [if_pos (Nat.not_le.mp z)]
      exact c9_bestR hK h hT hbm hl k (t + 1) t (by omega) (by omega) (by omega)
theorem c9_bestRoot (hK : StK K) (h : SCL m kk gg V) {l c a b : Nat} (hT : TabC m kk gg l c V) (hab : a < b) (hbm : b ≤ m) (hl : b - a ≤ l) : Ev G (dd + 1) mX9_bestRoot 0 [(0, .ref 13), (1, .int (nI a)), (2, .int (nI b))] (K, n, V, J, O) (some (.int (nI (RT kk gg a b)))) (K, n, V, J, O) := by
  refine wX9_bestRoot_0 hK ?_
  rw [nI_1]
  exact c9_bestR hK h hT hbm hl (b - a - 1) (a + 1) a (by omega) (Nat.le_refl _) (by omega)
def PKc (a k : Nat) : Prop := (21 ≤ a ∧ a ≤ 30 ∧ a ≠ 21 + k) ∨ (a = 13 ∧ (k = 2 ∨ k = 3))
theorem SCL.fr (h : SCL m kk gg V) (hf : fr (fun a k => (21 ≤ a ∧ a ≤ 30 ∧ a ≠ 21 + k) ∨ (a = 13 ∧ k = 3)) V V') : SCL m kk gg V' := ⟨h.1, by rw [hf 13 2 (by omega)]; exact h.2.1, fun k hk => by rw [hf 18 k (by omega)]; exact h.2.2.1 k hk, fun k hk => by rw [hf 19 k (by omega)]; exact h.2.2.2 k hk⟩
theorem c9_in (hK : StK K) {l : Nat} (hl : 1 ≤ l) (hlm : l ≤ m) {x1 : Int32} {ret : Option Value} {P : SV → Prop} (hk : ∀ V1, SCL m kk gg V1 → TabC m kk gg (l + 1) 0 V1 → V1 13 3 = nI (RT kk gg (m - l) m) → ∃ V', Ev G (dd + 2) mX9_fewestLooks 12 [(0, .ref 13), (1, .int x1), (2, .int (nI (l + 1)))] (K, n, V1, J, O) ret (K, n, V', J, O) ∧ P V' ∧ fr PKc V1 V') : ∀ (k c : Nat) (V : SV), c + k = m + 1 - l → SCL m kk gg V → TabC m kk gg l c V → (k = 0 → V 13 3 = nI (RT kk gg (m - l) m)) → ∃ V', Ev G (dd + 2) mX9_fewestLooks 22 [(0, .ref 13), (1, .int x1), (2, .int (nI l)), (3, .int (nI c))] (K, n, V, J, O) ret (K, n, V', J, O) ∧ P V' ∧ fr PKc V V' := by
  intro k
  induction k with
  | zero =>
    intro c V e hS hT h0
    have h9 := hS.1.1
    obtain ⟨V', h1, h2, h3⟩ := hk V hS (fun a b h1 h2 h3 => hT a b h1 h2 (by omega)) (h0 rfl)
    refine ⟨V', wX9_fewestLooks_22 hK (bt ?_ ?_), h2, h3⟩
    · rw [hS.2.1, nI_add, nI_lt' (by omega) (by omega)]
      omega
    · rw [nI_1]
      exact h1
  | succ k ih =>
    intro c V e hS hT h0
    have h9 := hS.1.1
    obtain ⟨et, q1, q2⟩ := TT_s (kk := kk) (gg := gg) (a := c) (b := c + l) (by omega)
    have hf : fr (fun a k => (21 ≤ a ∧ a ≤ 30 ∧ a ≠ 21 + k) ∨ (a = 13 ∧ k = 3)) V (up2 (up2 V (20 + 1 + c) (c + l) (nI (TT kk gg c (c + l)))) 13 3 (nI (RT kk gg c (c + l)))) := fr_up (fr_up fr_rfl (Or.inl (by omega))) (Or.inr ⟨rfl, rfl⟩)
    obtain ⟨V', h1, h2, h3⟩ := ih (c + 1) _ (by omega) (hS.fr hf) (fun a b z1 z2 z3 => by
      rw [up2_a (by omega)]
      by_cases ea : a = c ∧ b = c + l
      · rw [ea.1, ea.2, up2_s]
      · have e9 : up2 V (20 + 1 + c) (c + l) (nI (TT kk gg c (c + l))) (20 + 1 + a) b = V (20 + 1 + a) b := if_neg (by omega)
        rw [e9]
        exact hT a b z1 z2 (by omega)) (fun hk0 => by
      rw [up2_s, show c = m - l by omega, show m - l + l = m by omega])
    refine ⟨V', wX9_fewestLooks_22 hK (bf ?_ ?_), h2, fr_mo (fr_tr hf h3) (fun a k q => by unfold PKc at *; omega)⟩
    · rw [hS.2.1, nI_add, nI_lt' (by omega) (by omega)]
      omega
    · rw [nI_add]
      refine ⟨_, c9_bestRoot hK hS hT (by omega) (by omega) (by omega), nI_v (by omega) (by omega), _, c9_withRoot hK hS hT q1 q2 (by omega) (by omega), _, c9_soughtIn hK hS (by omega) (by omega), nI_v (by omega) (by omega), ?_⟩
      rw [nI_c (show c < 100000 by omega), nI_c (show c + l < 100000 by omega), nI_add, ← et, nI_1]
      exact h1
theorem c9_out (hK : StK K) (hm0 : 0 < m) {x1 : Int32} : ∀ (k l : Nat) (V : SV), l + k = m + 1 → 1 ≤ l → SCL m kk gg V → TabC m kk gg l 0 V → (k = 0 → V 13 3 = nI (RT kk gg 0 m)) → ∃ V', Ev G (dd + 2) mX9_fewestLooks 12 [(0, .ref 13), (1, .int x1), (2, .int (nI l))] (K, n, V, J, O) (some (.int (nI (TT kk gg 0 m)))) (K, n, V', J, O) ∧ (V' 13 2 = 0 ∧ V' 13 3 = nI (RT kk gg 0 m)) ∧ fr PKc V V' := by
  intro k
  induction k with
  | zero =>
    intro l V e h1 hS hT h0
    have h9 := hS.1.1
    refine ⟨up2 V 13 2 0, wX9_fewestLooks_12 hK (bt ?_ ⟨nI_v (a := 0) (by omega) (by omega), ?_⟩), ⟨up2_s, by rw [up2_k (by decide)]; exact h0 rfl⟩, fr_up fr_rfl (Or.inr ⟨rfl, Or.inl rfl⟩)⟩
    · rw [hS.2.1, nI_lt' (by omega) (by omega)]
      omega
    · rw [hS.2.1, nI_c (by omega), show ((0 : Int32)).toNatClampNeg = 0 from nI_c (a := 0) (by omega), hT 0 m (by omega) (by omega) (by omega)]
      exact ⟨nI_v (by omega) (by omega), rfl, rfl⟩
  | succ k ih =>
    intro l V e h1 hS hT h0
    have h9 := hS.1.1
    obtain ⟨V', z1, z2, z3⟩ := c9_in (G := G) (dd := dd) (n := n) (J := J) (O := O) hK h1 (show l ≤ m by omega) (x1 := x1) (ret := some (.int (nI (TT kk gg 0 m)))) (P := fun V' => V' 13 2 = 0 ∧ V' 13 3 = nI (RT kk gg 0 m)) (fun V1 g1 g2 g3 => ih (l + 1) V1 (by omega) (by omega) g1 g2 (fun hk0 => by rw [g3, show m - l = 0 by omega])) (m + 1 - l) 0 V (by omega) hS (fun a b q1 q2 q3 => hT a b q1 q2 (by omega)) (fun q => by omega)
    refine ⟨V', wX9_fewestLooks_12 hK (bf ?_ z1), z2, z3⟩
    rw [hS.2.1, nI_lt' (by omega) (by omega)]
    omega
end
