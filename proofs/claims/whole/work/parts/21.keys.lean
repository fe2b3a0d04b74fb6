/-! ===== leastLooks of the reference; the calls ===== -/
section
variable {G : Gp} {dd : Nat} {K : SK} {n : Nat × Nat} {V V' : SV} {J J' : SJV} {O O' : SO} {r : Option Value}
variable {m : Nat} {kk gg : Nat → Nat}
def PKm (a k : Nat) : Prop := a = 87 ∨ (a = 57 ∧ (k = 43 ∨ k = 44))
theorem SML.fr (h : SML m kk gg V) (hf : fr (fun a k => a = 87 ∨ (a = 57 ∧ k = 44)) V V') : SML m kk gg V' := ⟨h.1, by rw [hf 57 43 (by omega)]; exact h.2.1, fun k hk => by rw [hf 85 k (by omega)]; exact h.2.2.1 k hk, fun k hk => by rw [hf 86 k (by omega)]; exact h.2.2.2 k hk⟩
theorem ix10 (a b : Nat) : (10 : Int32) * nI a + nI b = nI (10 * a + b) := by
  rw [show (10 : Int32) = nI 10 from rfl, nI_mul, nI_add]
theorem up2_self {α : Type} {V : Nat → Nat → α} {a k : Nat} : up2 V a k (V a k) = V := by
  funext b j
  unfold up2
  split
  · rename_i h
    rw [h.1, h.2]
  · rfl
theorem m_r (hK : StK K) {l a : Nat} (hl : 1 ≤ l) (ham : a + l ≤ m) {x1 : Int32} {ret : Option Value} {P : SV → Prop}
    (hend : ∀ V1, SML m kk gg V1 → TabM m kk gg l a V1 → (l = m → V1 57 44 = nI (RT kk gg a (a + l))) → ∃ V', Ev G (dd + 2) mX12_leastLooks 38 [(0, .ref 57), (1, .int x1), (2, .int (nI l)), (3, .int (nI (a + 1)))] (K, n, up2 V1 87 (10 * a + (a + l)) (nI (TT kk gg a (a + l))), J, O) ret (K, n, V', J, O) ∧ P V' ∧ fr PKm V1 V') :
    ∀ (k q best : Nat) (V : SV), q + k = a + l → a ≤ best → best < q → SML m kk gg V → TabM m kk gg l a V → amin (fun r => TT kk gg a r + TT kk gg (r + 1) (a + l)) k q best = RT kk gg a (a + l) → (l = m → V 57 44 = nI best) → ∃ V', Ev G (dd + 2) mX12_leastLooks 69 [(0, .ref 57), (1, .int x1), (2, .int (nI l)), (3, .int (nI a)), (4, .int (nI (a + l))), (5, .int (nI (TT kk gg a best + TT kk gg (best + 1) (a + l) + sght kk gg a l))), (6, .int (nI q))] (K, n, V, J, O) ret (K, n, V', J, O) ∧ P V' ∧ fr PKm V V' := by
  intro k
  induction k with
  | zero =>
    intro q best V e h1 h2 hS hT hA h44
    have h9 := hS.1.1
    have hb : best = RT kk gg a (a + l) := hA
    obtain ⟨et, -, -⟩ := TT_s (kk := kk) (gg := gg) (a := a) (b := a + l) (by omega)
    rw [show a + l - a = l by omega, ← hb] at et
    obtain ⟨V', z1, z2, z3⟩ := hend V hS hT (fun q => by rw [h44 q, hb])
    refine ⟨V', wX12_leastLooks_69 hK (bt (lp_out rfl (by omega) (by omega)) ?_), z2, z3⟩
    rw [ix10, nI_c (by omega), nI_1, ← et]
    exact ⟨nI_v (by omega) (by omega), z1⟩
  | succ k ih =>
    intro q best V e h1 h2 hS hT hA h44
    have h9 := hS.1.1
    have l1 := TT_le h9 hS.1.2.1 hS.1.2.2 (q - a) a q rfl (by omega)
    have l2 := TT_le h9 hS.1.2.1 hS.1.2.2 (a + l - (q + 1)) (q + 1) (a + l) rfl ham
    have l3 := TT_le h9 hS.1.2.1 hS.1.2.2 (best - a) a best rfl (by omega)
    have l4 := TT_le h9 hS.1.2.1 hS.1.2.2 (a + l - (best + 1)) (best + 1) (a + l) rfl ham
    have l5 := sght_le (m := m) (a := a) hS.1.2.1 hS.1.2.2 l ham
    have hso := c12_soughtIn (G := G) (dd := dd + 1) (n := n) (J := J) (O := O) hK hS (a := a) (b := a + l) (by omega) ham
    rw [show a + l - a = l by omega] at hso
    have hA2 : amin (fun r => TT kk gg a r + TT kk gg (r + 1) (a + l)) k (q + 1) (if TT kk gg a q + TT kk gg (q + 1) (a + l) < TT kk gg a best + TT kk gg (best + 1) (a + l) then q else best) = RT kk gg a (a + l) := hA
    by_cases hlt : TT kk gg a q + TT kk gg (q + 1) (a + l) < TT kk gg a best + TT kk gg (best + 1) (a + l)
    · rw [if_pos hlt] at hA2
      by_cases hlm : l = m
      · have hf : fr (fun a k => a = 87 ∨ (a = 57 ∧ k = 44)) V (up2 V 57 44 (nI q)) := fr_up fr_rfl (Or.inr ⟨rfl, rfl⟩)
        obtain ⟨V', z1, z2, z3⟩ := ih (q + 1) q _ (by omega) (by omega) (by omega) (hS.fr hf) (fun a b y1 y2 y3 => by rw [up2_a (by decide)]; exact hT a b y1 y2 y3) hA2 (fun _ => up2_s)
        refine ⟨V', wX12_leastLooks_69 hK (bf (lp_in rfl (by omega) (by omega)) ?_), z2, fr_mo (fr_tr hf z3) (fun a k q => by unfold PKm at *; omega)⟩
        rw [nI_1, ix10, ix10, nI_c (show 10 * a + q < 100000 by omega), nI_c (show 10 * (q + 1) + (a + l) < 100000 by omega), hT a q (by omega) (by omega) (by omega), hT (q + 1) (a + l) (by omega) ham (by omega), nI_add]
        refine ⟨nI_v (by omega) (by omega), nI_v (by omega) (by omega), _, hso, ?_⟩
        rw [nI_add, nI_le' (by omega) (by omega)]
        exact bf (by omega) (nf (by rw [hS.2.1, hlm]) z1)
      · obtain ⟨V', z1, z2, z3⟩ := ih (q + 1) q V (by omega) (by omega) (by omega) hS hT hA2 (fun y => absurd y hlm)
        refine ⟨V', wX12_leastLooks_69 hK (bf (lp_in rfl (by omega) (by omega)) ?_), z2, z3⟩
        rw [nI_1, ix10, ix10, nI_c (show 10 * a + q < 100000 by omega), nI_c (show 10 * (q + 1) + (a + l) < 100000 by omega), hT a q (by omega) (by omega) (by omega), hT (q + 1) (a + l) (by omega) ham (by omega), nI_add]
        refine ⟨nI_v (by omega) (by omega), nI_v (by omega) (by omega), _, hso, ?_⟩
        rw [nI_add, nI_le' (by omega) (by omega), up2_self]
        refine bf (by omega) (nt ?_ z1)
        rw [hS.2.1, ne_eq, nI_e' (by omega) (by omega)]
        exact hlm
    · rw [if_neg hlt] at hA2
      obtain ⟨V', z1, z2, z3⟩ := ih (q + 1) best V (by omega) h1 (by omega) hS hT hA2 h44
      refine ⟨V', wX12_leastLooks_69 hK (bf (lp_in rfl (by omega) (by omega)) ?_), z2, z3⟩
      rw [nI_1, ix10, ix10, nI_c (show 10 * a + q < 100000 by omega), nI_c (show 10 * (q + 1) + (a + l) < 100000 by omega), hT a q (by omega) (by omega) (by omega), hT (q + 1) (a + l) (by omega) ham (by omega), nI_add]
      refine ⟨nI_v (by omega) (by omega), nI_v (by omega) (by omega), _, hso, ?_⟩
      rw [nI_add, nI_le' (by omega) (by omega)]
      exact bt (by omega) z1
theorem mk_in (hK : StK K) {l : Nat} (hlm : l ≤ m) {x1 : Int32} {ret : Option Value} {P : SV → Prop} (hk : ∀ V1, SML m kk gg V1 → TabM m kk gg (l + 1) 0 V1 → (l = m → 1 ≤ l → V1 57 44 = nI (RT kk gg 0 m)) → ∃ V', Ev G (dd + 2) mX12_leastLooks 28 [(0, .ref 57), (1, .int x1), (2, .int (nI (l + 1)))] (K, n, V1, J, O) ret (K, n, V', J, O) ∧ P V' ∧ fr PKm V1 V') : ∀ (k c : Nat) (V : SV), c + k = m + 1 - l → SML m kk gg V → TabM m kk gg l c V → (k = 0 → l = m → 1 ≤ l → V 57 44 = nI (RT kk gg 0 m)) → ∃ V', Ev G (dd + 2) mX12_leastLooks 38 [(0, .ref 57), (1, .int x1), (2, .int (nI l)), (3, .int (nI c))] (K, n, V, J, O) ret (K, n, V', J, O) ∧ P V' ∧ fr PKm V V' := by
  intro k
  induction k with
  | zero =>
    intro c V e hS hT h0
    have h9 := hS.1.1
    obtain ⟨V', h1, h2, h3⟩ := hk V hS (fun a b h1 h2 h3 => hT a b h1 h2 (by omega)) (h0 rfl)
    refine ⟨V', wX12_leastLooks_38 hK (bt ?_ ?_), h2, h3⟩
    · rw [hS.2.1, nI_add, nI_lt' (by omega) (by omega)]
      omega
    · rw [nI_1]
      exact h1
  | succ k ih =>
    intro c V e hS hT h0
    have h9 := hS.1.1
    have tab : ∀ V1 : SV, TabM m kk gg l c V1 → TabM m kk gg l (c + 1) (up2 V1 87 (10 * c + (c + l)) (nI (TT kk gg c (c + l)))) := by
      intro V1 hT1 a b z1 z2 z3
      by_cases ea : a = c ∧ b = c + l
      · rw [ea.1, ea.2, up2_s]
      · rw [up2_k (show 10 * a + b ≠ 10 * c + (c + l) by omega)]
        exact hT1 a b z1 z2 (by omega)
    have fin : ∀ V1, SML m kk gg V1 → TabM m kk gg l c V1 → (l = m → 1 ≤ l → V1 57 44 = nI (RT kk gg c (c + l))) → ∃ V', Ev G (dd + 2) mX12_leastLooks 38 [(0, .ref 57), (1, .int x1), (2, .int (nI l)), (3, .int (nI (c + 1)))] (K, n, up2 V1 87 (10 * c + (c + l)) (nI (TT kk gg c (c + l))), J, O) ret (K, n, V', J, O) ∧ P V' ∧ fr PKm V1 V' := by
      intro V1 hS1 hT1 h44
      have hf : fr (fun a k => a = 87 ∨ (a = 57 ∧ k = 44)) V1 (up2 V1 87 (10 * c + (c + l)) (nI (TT kk gg c (c + l)))) := fr_up fr_rfl (Or.inl rfl)
      obtain ⟨V', z1, z2, z3⟩ := ih (c + 1) _ (by omega) (hS1.fr hf) (tab V1 hT1) (fun hk0 hlm2 h1l => by
        rw [up2_a (by decide), h44 hlm2 h1l, show c = 0 by omega, Nat.zero_add, hlm2])
      exact ⟨V', z1, z2, fr_mo (fr_tr hf z3) (fun a k q => by unfold PKm at *; omega)⟩
    have hcond : ¬ V 57 43 < nI c + nI l := by
      rw [hS.2.1, nI_add, nI_lt' (by omega) (by omega)]
      omega
    by_cases hl0 : l = 0
    · subst hl0
      obtain ⟨V', z1, z2, z3⟩ := fin V hS hT (fun _ q => absurd q (by decide))
      refine ⟨V', wX12_leastLooks_38 hK (bf hcond (nf rfl ?_)), z2, z3⟩
      rw [nI_add]
      refine wX12_leastLooks_69 hK (bt (lp_out rfl (by omega) (by omega)) ?_)
      rw [ix10, nI_c (by omega), nI_1]
      rw [show TT kk gg c (c + 0) = 0 from TT_0] at z1
      exact ⟨nI_v (by omega) (by omega), z1⟩
    · have l2 := TT_le h9 hS.1.2.1 hS.1.2.2 (c + l - (c + 1)) (c + 1) (c + l) rfl (by omega)
      have l5 := sght_le (m := m) (a := c) hS.1.2.1 hS.1.2.2 l (by omega)
      have hso := c12_soughtIn (G := G) (dd := dd + 1) (n := n) (J := J) (O := O) hK hS (a := c) (b := c + l) (by omega) (by omega)
      rw [show c + l - c = l by omega] at hso
      have big : ¬ (1999999999 : Int32) ≤ nI (TT kk gg c c + TT kk gg (c + 1) (c + l) + sght kk gg c l) := by
        rw [show (1999999999 : Int32) = nI 1999999999 from rfl, nI_leI (by decide) (by rw [TT_0]; omega), TT_0]
        omega
      have hA : amin (fun r => TT kk gg c r + TT kk gg (r + 1) (c + l)) (l - 1) (c + 1) c = RT kk gg c (c + l) := by
        unfold RT
        rw [show c + l - c - 1 = l - 1 by omega]
      have go : ∀ V1, SML m kk gg V1 → TabM m kk gg l c V1 → (l = m → V1 57 44 = nI c) → ∃ V', Ev G (dd + 2) mX12_leastLooks 69 [(0, .ref 57), (1, .int x1), (2, .int (nI l)), (3, .int (nI c)), (4, .int (nI (c + l))), (5, .int (nI (TT kk gg c c + TT kk gg (c + 1) (c + l) + sght kk gg c l))), (6, .int (nI (c + 1)))] (K, n, V1, J, O) ret (K, n, V', J, O) ∧ P V' ∧ fr PKm V1 V' := fun V1 hS1 hT1 h44 => m_r hK (by omega) (by omega) (fun V2 y1 y2 y3 => fin V2 y1 y2 (fun q _ => y3 q)) (l - 1) (c + 1) c V1 (by omega) (Nat.le_refl _) (by omega) hS1 hT1 hA h44
      have hne : nI l ≠ 0 := nI_ne0 (by omega) (by omega)
      by_cases hlm2 : l = m
      · have hf : fr (fun a k => a = 87 ∨ (a = 57 ∧ k = 44)) V (up2 V 57 44 (nI c)) := fr_up fr_rfl (Or.inr ⟨rfl, rfl⟩)
        obtain ⟨V', z1, z2, z3⟩ := go (up2 V 57 44 (nI c)) (hS.fr hf) (fun a b y1 y2 y3 => by rw [up2_a (by decide)]; exact hT a b y1 y2 y3) (fun _ => up2_s)
        refine ⟨V', wX12_leastLooks_38 hK (bf hcond (nt hne ?_)), z2, fr_mo (fr_tr hf z3) (fun a k q => by unfold PKm at *; omega)⟩
        rw [nI_add]
        refine wX12_leastLooks_69 hK (bf (lp_in rfl (by omega) (by omega)) ?_)
        rw [nI_1, ix10, ix10, nI_c (show 10 * c + c < 100000 by omega), nI_c (show 10 * (c + 1) + (c + l) < 100000 by omega), hT c c (by omega) (by omega) (by omega), hT (c + 1) (c + l) (by omega) (by omega) (by omega), nI_add]
        refine ⟨nI_v (by omega) (by omega), nI_v (by omega) (by omega), _, hso, ?_⟩
        rw [nI_add]
        exact bf big (nf (by rw [hS.2.1, hlm2]) z1)
      · obtain ⟨V', z1, z2, z3⟩ := go V hS hT (fun q => absurd q hlm2)
        refine ⟨V', wX12_leastLooks_38 hK (bf hcond (nt hne ?_)), z2, z3⟩
        rw [nI_add]
        refine wX12_leastLooks_69 hK (bf (lp_in rfl (by omega) (by omega)) ?_)
        rw [nI_1, ix10, ix10, nI_c (show 10 * c + c < 100000 by omega), nI_c (show 10 * (c + 1) + (c + l) < 100000 by omega), hT c c (by omega) (by omega) (by omega), hT (c + 1) (c + l) (by omega) (by omega) (by omega), nI_add]
        refine ⟨nI_v (by omega) (by omega), nI_v (by omega) (by omega), _, hso, ?_⟩
        rw [nI_add, up2_self]
        refine bf big (nt ?_ z1)
        rw [hS.2.1, ne_eq, nI_e' (by omega) (by omega)]
        exact hlm2
theorem mk_out (hK : StK K) (hm0 : 0 < m) {x1 : Int32} : ∀ (k l : Nat) (V : SV), l + k = m + 1 → SML m kk gg V → TabM m kk gg l 0 V → (k = 0 → V 57 44 = nI (RT kk gg 0 m)) → ∃ V', Ev G (dd + 2) mX12_leastLooks 28 [(0, .ref 57), (1, .int x1), (2, .int (nI l))] (K, n, V, J, O) (some (.int (nI (TT kk gg 0 m)))) (K, n, V', J, O) ∧ (V' 57 43 = 0 ∧ V' 57 44 = nI (RT kk gg 0 m)) ∧ fr PKm V V' := by
  intro k
  induction k with
  | zero =>
    intro l V e hS hT h0
    have h9 := hS.1.1
    refine ⟨up2 V 57 43 0, wX12_leastLooks_28 hK (bt ?_ ?_), ⟨up2_s, by rw [up2_k (by decide)]; exact h0 rfl⟩, fr_up fr_rfl (Or.inr ⟨rfl, Or.inl rfl⟩)⟩
    · rw [hS.2.1, nI_lt' (by omega) (by omega)]
      omega
    · have h87 := hT 0 m (by omega) (by omega) (by omega)
      rw [Nat.mul_zero, Nat.zero_add] at h87
      rw [hS.2.1, nI_c (by omega), h87]
      exact ⟨nI_v (by omega) (by omega), rfl, rfl⟩
  | succ k ih =>
    intro l V e hS hT h0
    have h9 := hS.1.1
    obtain ⟨V', z1, z2, z3⟩ := mk_in (G := G) (dd := dd) (n := n) (J := J) (O := O) hK (show l ≤ m by omega) (x1 := x1) (ret := some (.int (nI (TT kk gg 0 m)))) (P := fun V' => V' 57 43 = 0 ∧ V' 57 44 = nI (RT kk gg 0 m)) (fun V1 g1 g2 g3 => ih (l + 1) V1 (by omega) g1 g2 (fun hk0 => g3 (by omega) (by omega))) (m + 1 - l) 0 V (by omega) hS hT (fun q => by omega)
    refine ⟨V', wX12_leastLooks_28 hK (bf ?_ z1), z2, z3⟩
    rw [hS.2.1, nI_lt' (by omega) (by omega)]
    omega
/-! the calls -/
def cY (m : Nat) (kk gg : Nat → Nat) (rt : Option Nat) (V : SV) : Prop := m ≤ 9 ∧ V 13 2 = nI m ∧ (∀ k, k < m → V 18 k = nI (kk k) ∧ V 19 k = nI (gg k) ∧ kk k ≤ 99 ∧ gg k ≤ 99) ∧ V 13 3 = moI rt ∧ (∀ k, rt = some k → k ≤ 9) ∧ ∀ k, k ≤ 9 → V (21 + k) k = 0
def mY' (m : Nat) (kk gg : Nat → Nat) (rt : Option Nat) (V : SV) : Prop := m ≤ 9 ∧ V 57 43 = nI m ∧ (∀ k, k < m → V 85 k = nI (kk k) ∧ V 86 k = nI (gg k) ∧ kk k ≤ 99 ∧ gg k ≤ 99) ∧ V 57 44 = moI rt ∧ ∀ k, rt = some k → k ≤ 9
variable {rt : Option Nat}
theorem p_root (hK : StK K) (hc : cY m kk gg rt V) (hm : mY' m kk gg rt V) : ∃ r : Int32, Ev G dd mX11_root 0 [(0, .ref 0)] (K, n, V, J, O) (some (.int r)) (K, n, V, J, O) ∧ Ev G dd mX12_root 0 [(0, .ref 57)] (K, n, V, J, O) (some (.int r)) (K, n, V, J, O) := by
  refine ⟨moI rt, wX11_root_0 hK (by rw [hc.2.2.2.1]), wX12_root_0 hK ?_⟩
  rw [hm.2.2.2.1]
  cases rt with
  | none => exact bf (by decide) rfl
  | some k => exact bt (nI_pos' (by have := hm.2.2.2.2 k rfl; omega)) rfl
theorem p_leastLooks (hK : StK K) (hc : cY m kk gg rt V) (hm : mY' m kk gg rt V) {x1 : Int32} : ∃ (r : Int32) (V1 V2 : SV) (m' : Nat) (rt' : Option Nat), Ev G (dd + 4) mX11_leastLooks 0 [(0, .ref 0), (1, .int x1)] (K, n, V, J, O) (some (.int r)) (K, n, V1, J, O) ∧ Ev G (dd + 4) mX12_leastLooks 0 [(0, .ref 57), (1, .int x1)] (K, n, V1, J, O) (some (.int r)) (K, n, V2, J, O) ∧ fr (fun a k => (PKc a k ∨ a = 19) ∨ PKm a k ∨ a = 86) V V2 ∧ cY m' kk gg rt' V2 ∧ mY' m' kk gg rt' V2 := by
  have h9 := hc.1
  by_cases h1 : ∃ c, c ≤ 99 ∧ x1 = nI c
  · obtain ⟨c, hc9, rfl⟩ := h1
    have y1 := x_wi (G := G) (d := dd + 3) (n := n) (V := V) (J := J) (O := O) (N := 99) hK (by decide) hc9
    have y2 : ∀ {V : SV}, Ev G (dd + 3) mX12_isValue 0 [(0, .int (nI c))] (K, n, V, J, O) (some (.int 1)) (K, n, V, J, O) := ev_b (c12_isValue hK) ((btw_iff (N := 99) (by decide)).mpr ⟨c, hc9, rfl⟩)
    by_cases h0 : m = 0
    · subst h0
      exact ⟨-1, V, V, 0, rt, wX11_leastLooks_0 hK ⟨_, y1, bf one0 (nf hc.2.1 ⟨rfl, rfl⟩)⟩, wX12_leastLooks_0 hK ⟨_, y2, bf one0 (nf hm.2.1 ⟨rfl, rfl⟩)⟩, fr_rfl, hc, hm⟩
    · have g1 : SCL m kk (fun k => if k = m then c else gg k) (up2 V 19 m (nI c)) := by
        refine ⟨⟨h9, fun k hk => (hc.2.2.1 k hk).2.2.1, fun k hk => ?_⟩, hc.2.1, fun k hk => (hc.2.2.1 k hk).1, fun k hk => ?_⟩
        · show (if k = m then c else gg k) ≤ 99
          split
          · exact hc9
          · exact (hc.2.2.1 k (by omega)).2.2.2
        · by_cases e : k = m
          · subst e; simp [up2]
          · simp [up2, e, (hc.2.2.1 k (by omega)).2.1]
      obtain ⟨V1, z1, z2, z3⟩ := c9_out (G := G) (dd := dd + 1) (n := n) (J := J) (O := O) hK (show 0 < m by omega) (x1 := nI c) m 1 _ (by omega) (Nat.le_refl _) g1 (fun a b q1 q2 q3 => by
        have e : a = b := by omega
        subst e
        rw [up2_a (by omega), hc.2.2.2.2.2 a (by omega), TT_0]
        rfl) (fun q => by omega)
      have f1 : fr (fun a k => PKc a k ∨ a = 19) V V1 := fr_mo (fr_tr (fr_up (P := fun a _ => a = 19) fr_rfl rfl) z3) (fun a k q => q.symm)
      have f1' : ∀ a k, ¬ (a = 19 ∨ (21 ≤ a ∧ a ≤ 30) ∨ (a = 13 ∧ (k = 2 ∨ k = 3))) → V1 a k = V a k := fun a k q => f1 a k (fun z => by unfold PKc at z; omega)
      have g2 : SML m kk (fun k => if k = m then c else gg k) (up2 V1 86 m (nI c)) := by
        refine ⟨⟨h9, fun k hk => (hc.2.2.1 k hk).2.2.1, fun k hk => ?_⟩, ?_, fun k hk => ?_, fun k hk => ?_⟩
        · show (if k = m then c else gg k) ≤ 99
          split
          · exact hc9
          · exact (hc.2.2.1 k (by omega)).2.2.2
        · rw [up2_a (by decide), f1' 57 43 (by omega)]; exact hm.2.1
        · rw [up2_a (by decide), f1' 85 k (by omega)]; exact (hm.2.2.1 k hk).1
        · by_cases e : k = m
          · subst e; simp [up2]
          · rw [up2_k e, f1' 86 k (by omega)]
            simp [e, (hm.2.2.1 k (by omega)).2.1]
      obtain ⟨V2, w1, w2, w3⟩ := mk_out (G := G) (dd := dd + 2) (n := n) (J := J) (O := O) hK (show 0 < m by omega) (x1 := nI c) (m + 1) 0 _ (by omega) g2 (fun a b h1 h2 h3 => absurd h3 (by omega)) (fun q => by omega)
      have f2 : ∀ a k, ¬ (a = 86 ∨ a = 87 ∨ (a = 57 ∧ (k = 43 ∨ k = 44))) → V2 a k = V1 a k := fun a k q => by
        rw [w3 a k (fun z => by unfold PKm at z; omega), up2_a (by omega)]
      have hrt := (TT_s (kk := kk) (gg := fun k => if k = m then c else gg k) (a := 0) (b := m) (by omega)).2.2
      refine ⟨nI (TT kk (fun k => if k = m then c else gg k) 0 m), V1, V2, 0, some (RT kk (fun k => if k = m then c else gg k) 0 m), wX11_leastLooks_0 hK ⟨_, y1, bf one0 (nt ?_ ⟨_, _, wX9_fewestLooks_0 hK ⟨?_, ?_⟩, rfl, rfl⟩)⟩, wX12_leastLooks_0 hK ⟨_, y2, bf one0 (nt ?_ ⟨?_, ?_⟩)⟩, fun a k q => ?_, ⟨Nat.zero_le _, ?_, fun k hk => absurd hk (Nat.not_lt_zero _), ?_, fun k hk => ?_, fun k hk => ?_⟩, ⟨Nat.zero_le _, w2.1, fun k hk => absurd hk (Nat.not_lt_zero _), w2.2, fun k hk => ?_⟩⟩
      · rw [hc.2.1]; exact nI_ne0 (by omega) (by omega)
      · rw [hc.2.1]; exact nI_v (by omega) (by omega)
      · rw [hc.2.1, nI_c (by omega)]; exact z1
      · rw [f1' 57 43 (by omega), hm.2.1]; exact nI_ne0 (by omega) (by omega)
      · rw [f1' 57 43 (by omega), hm.2.1]; exact nI_v (by omega) (by omega)
      · rw [f1' 57 43 (by omega), hm.2.1, nI_c (by omega)]; exact w1
      · unfold PKc PKm at q
        rw [f2 a k (by omega), f1 a k (fun z => by unfold PKc at z; omega)]
      · rw [f2 13 2 (by omega)]; exact z2.1
      · rw [f2 13 3 (by omega)]; exact z2.2
      · cases hk; omega
      · rw [f2 (21 + k) k (by omega), f1 (21 + k) k (fun z => by unfold PKc at z; omega)]
        exact hc.2.2.2.2.2 k hk
      · cases hk; omega
  · exact ⟨-1, V, V, m, rt, wX11_leastLooks_0 hK ⟨_, x_win (N := 99) hK (by decide) h1, bt rfl ⟨rfl, rfl⟩⟩, wX12_leastLooks_0 hK ⟨_, ev_n (c12_isValue hK) (fun q => h1 ((btw_iff (N := 99) (by decide)).mp q)), bt rfl ⟨rfl, rfl⟩⟩, fr_rfl, hc, hm⟩
theorem p_key (hK : StK K) (hc : cY m kk gg rt V) (hm : mY' m kk gg rt V) {x1 x2 : Int32} : ∃ (r : Int32) (V1 V2 : SV) (m' : Nat) (kk' gg' : Nat → Nat), Ev G (dd + 2) mX11_key 0 [(0, .ref 0), (1, .int x1), (2, .int x2)] (K, n, V, J, O) (some (.int r)) (K, n, V1, J, O) ∧ Ev G (dd + 2) mX12_key 0 [(0, .ref 57), (1, .int x1), (2, .int x2)] (K, n, V1, J, O) (some (.int r)) (K, n, V2, J, O) ∧ fr (fun a k => (a = 13 ∧ k = 2) ∨ (a = 57 ∧ k = 43) ∨ a = 18 ∨ a = 19 ∨ a = 85 ∨ a = 86) V V2 ∧ cY m' kk' gg' rt V2 ∧ mY' m' kk' gg' rt V2 := by
  have h9 := hc.1
  by_cases h1 : ∃ c, c ≤ 99 ∧ x1 = nI c
  · obtain ⟨a, ha, rfl⟩ := h1
    have y1 := x_wi (G := G) (d := dd + 1) (n := n) (V := V) (J := J) (O := O) (N := 99) hK (by decide) ha
    have y2 : ∀ {V : SV}, Ev G (dd + 1) mX12_isValue 0 [(0, .int (nI a))] (K, n, V, J, O) (some (.int 1)) (K, n, V, J, O) := ev_b (c12_isValue hK) ((btw_iff (N := 99) (by decide)).mpr ⟨a, ha, rfl⟩)
    by_cases h2 : ∃ c, c ≤ 99 ∧ x2 = nI c
    · obtain ⟨b, hb, rfl⟩ := h2
      have z1 := x_wi (G := G) (d := dd + 1) (n := n) (V := V) (J := J) (O := O) (N := 99) hK (by decide) hb
      have z2 : ∀ {V : SV}, Ev G (dd + 1) mX12_isValue 0 [(0, .int (nI b))] (K, n, V, J, O) (some (.int 1)) (K, n, V, J, O) := ev_b (c12_isValue hK) ((btw_iff (N := 99) (by decide)).mpr ⟨b, hb, rfl⟩)
      by_cases h0 : m = 9
      · subst h0
        exact ⟨-3, V, V, 9, kk, gg, wX11_key_0 hK ⟨_, y1, bf one0 ⟨_, z1, nt one0 (bf (by rw [hc.2.1]; decide) ⟨rfl, rfl⟩)⟩⟩, wX12_key_0 hK ⟨_, y2, bf one0 ⟨_, z2, nt one0 (nf hm.2.1 ⟨rfl, rfl⟩)⟩⟩, fr_rfl, hc, hm⟩
      · have hi := nI_v (a := m) (N := 9) (by omega) (by omega)
        have hj := nI_v (a := m) (N := 10) (by omega) (by omega)
        have e1 : nI m < 9 := by rw [show (9 : Int32) = nI 9 from rfl, nI_l' (by omega) (by omega)]; omega
        have e2 : nI m ≠ 9 := by rw [show (9 : Int32) = nI 9 from rfl, ne_eq, nI_e' (by omega) (by omega)]; omega
        refine ⟨nI (m + 1), _, _, m + 1, fun j => if j = m then a else kk j, fun j => if j = m then b else gg j, wX11_key_0 hK ⟨_, y1, bf one0 ⟨_, z1, nt one0 (bt (by rw [hc.2.1]; exact e1) ⟨_, _, wX9_addKey_0 hK ⟨by rw [hc.2.1]; exact hi, by rw [hc.2.1]; exact hj, by rw [hc.2.1, nI_1], rfl⟩, rfl, rfl⟩)⟩⟩, wX12_key_0 hK ⟨_, y2, bf one0 ⟨_, z2, nt one0 (nt ?_ ⟨?_, ?_, ?_, rfl⟩)⟩⟩, fr_up (fr_up (fr_up (fr_up (fr_up (fr_up fr_rfl ?_) ?_) ?_) ?_) ?_) ?_, ?_, ?_⟩
        all_goals (try (simp only [up2, hc.2.1, hm.2.1, nI_c (show m < 100000 by omega), nI_1, true_and, and_true, if_true, if_false, true_or, or_true, Nat.reduceEqDiff, false_and, and_false]))
        · exact e2
        · exact hi
        · exact hj
        · refine ⟨by omega, by simp [up2], fun j hj => ?_, by simpa [up2] using hc.2.2.2.1, hc.2.2.2.2.1, fun j hj => ?_⟩
          by_cases e : j = m
          · subst e; simp [up2]; exact ⟨ha, hb⟩
          · have := hc.2.2.1 j (by omega)
            simpa [up2, e] using this
          have z := hc.2.2.2.2.2 j hj
          simpa [up2, show 21 + j ≠ 57 by omega, show 21 + j ≠ 86 by omega, show 21 + j ≠ 85 by omega, show 21 + j ≠ 13 by omega, show 21 + j ≠ 19 by omega, show 21 + j ≠ 18 by omega] using z
        · refine ⟨by omega, by simp [up2], fun j hj => ?_, by simpa [up2] using hm.2.2.2.1, hm.2.2.2.2⟩
          by_cases e : j = m
          · subst e; simp [up2]; exact ⟨ha, hb⟩
          · have := hm.2.2.1 j (by omega)
            simpa [up2, e] using this
    · exact ⟨-1, V, V, m, kk, gg, wX11_key_0 hK ⟨_, y1, bf one0 ⟨_, x_win (N := 99) hK (by decide) h2, nf rfl ⟨rfl, rfl⟩⟩⟩, wX12_key_0 hK ⟨_, y2, bf one0 ⟨_, ev_n (c12_isValue hK) (fun q => h2 ((btw_iff (N := 99) (by decide)).mp q)), nf rfl ⟨rfl, rfl⟩⟩⟩, fr_rfl, hc, hm⟩
  · exact ⟨-1, V, V, m, kk, gg, wX11_key_0 hK ⟨_, x_win (N := 99) hK (by decide) h1, bt rfl ⟨rfl, rfl⟩⟩, wX12_key_0 hK ⟨_, ev_n (c12_isValue hK) (fun q => h1 ((btw_iff (N := 99) (by decide)).mp q)), bt rfl ⟨rfl, rfl⟩⟩, fr_rfl, hc, hm⟩
end
