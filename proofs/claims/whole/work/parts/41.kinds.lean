/-! ===== rows, bits, plain stones, tables ===== -/
theorem sw_0 {x : Int32} {A1 A2 A3 A4 A5 A6 A7 A8 : Prop} (e : x = nI 0) (h : A8) : (x = 1 → A1) ∧ (x = 2 → A2) ∧ (x = 3 → A3) ∧ (x = 4 → A4) ∧ (x = 5 → A5) ∧ (x = 6 → A6) ∧ (x = 7 → A7) ∧ ((¬ x = 1 ∧ ¬ x = 2 ∧ ¬ x = 3 ∧ ¬ x = 4 ∧ ¬ x = 5 ∧ ¬ x = 6 ∧ ¬ x = 7) → A8) := by
  subst e
  exact ⟨fun e => absurd e (by decide), fun e => absurd e (by decide), fun e => absurd e (by decide), fun e => absurd e (by decide), fun e => absurd e (by decide), fun e => absurd e (by decide), fun e => absurd e (by decide), fun _ => h⟩
theorem sw_1 {x : Int32} {A1 A2 A3 A4 A5 A6 A7 A8 : Prop} (e : x = nI 1) (h : A1) : (x = 1 → A1) ∧ (x = 2 → A2) ∧ (x = 3 → A3) ∧ (x = 4 → A4) ∧ (x = 5 → A5) ∧ (x = 6 → A6) ∧ (x = 7 → A7) ∧ ((¬ x = 1 ∧ ¬ x = 2 ∧ ¬ x = 3 ∧ ¬ x = 4 ∧ ¬ x = 5 ∧ ¬ x = 6 ∧ ¬ x = 7) → A8) := by
  subst e
  exact ⟨fun _ => h, fun e => absurd e (by decide), fun e => absurd e (by decide), fun e => absurd e (by decide), fun e => absurd e (by decide), fun e => absurd e (by decide), fun e => absurd e (by decide), fun e => absurd rfl (e.1)⟩
theorem sw_2 {x : Int32} {A1 A2 A3 A4 A5 A6 A7 A8 : Prop} (e : x = nI 2) (h : A2) : (x = 1 → A1) ∧ (x = 2 → A2) ∧ (x = 3 → A3) ∧ (x = 4 → A4) ∧ (x = 5 → A5) ∧ (x = 6 → A6) ∧ (x = 7 → A7) ∧ ((¬ x = 1 ∧ ¬ x = 2 ∧ ¬ x = 3 ∧ ¬ x = 4 ∧ ¬ x = 5 ∧ ¬ x = 6 ∧ ¬ x = 7) → A8) := by
  subst e
  exact ⟨fun e => absurd e (by decide), fun _ => h, fun e => absurd e (by decide), fun e => absurd e (by decide), fun e => absurd e (by decide), fun e => absurd e (by decide), fun e => absurd e (by decide), fun e => absurd rfl (e.2.1)⟩
theorem sw_3 {x : Int32} {A1 A2 A3 A4 A5 A6 A7 A8 : Prop} (e : x = nI 3) (h : A3) : (x = 1 → A1) ∧ (x = 2 → A2) ∧ (x = 3 → A3) ∧ (x = 4 → A4) ∧ (x = 5 → A5) ∧ (x = 6 → A6) ∧ (x = 7 → A7) ∧ ((¬ x = 1 ∧ ¬ x = 2 ∧ ¬ x = 3 ∧ ¬ x = 4 ∧ ¬ x = 5 ∧ ¬ x = 6 ∧ ¬ x = 7) → A8) := by
  subst e
  exact ⟨fun e => absurd e (by decide), fun e => absurd e (by decide), fun _ => h, fun e => absurd e (by decide), fun e => absurd e (by decide), fun e => absurd e (by decide), fun e => absurd e (by decide), fun e => absurd rfl (e.2.2.1)⟩
theorem sw_4 {x : Int32} {A1 A2 A3 A4 A5 A6 A7 A8 : Prop} (e : x = nI 4) (h : A4) : (x = 1 → A1) ∧ (x = 2 → A2) ∧ (x = 3 → A3) ∧ (x = 4 → A4) ∧ (x = 5 → A5) ∧ (x = 6 → A6) ∧ (x = 7 → A7) ∧ ((¬ x = 1 ∧ ¬ x = 2 ∧ ¬ x = 3 ∧ ¬ x = 4 ∧ ¬ x = 5 ∧ ¬ x = 6 ∧ ¬ x = 7) → A8) := by
  subst e
  exact ⟨fun e => absurd e (by decide), fun e => absurd e (by decide), fun e => absurd e (by decide), fun _ => h, fun e => absurd e (by decide), fun e => absurd e (by decide), fun e => absurd e (by decide), fun e => absurd rfl (e.2.2.2.1)⟩
theorem sw_5 {x : Int32} {A1 A2 A3 A4 A5 A6 A7 A8 : Prop} (e : x = nI 5) (h : A5) : (x = 1 → A1) ∧ (x = 2 → A2) ∧ (x = 3 → A3) ∧ (x = 4 → A4) ∧ (x = 5 → A5) ∧ (x = 6 → A6) ∧ (x = 7 → A7) ∧ ((¬ x = 1 ∧ ¬ x = 2 ∧ ¬ x = 3 ∧ ¬ x = 4 ∧ ¬ x = 5 ∧ ¬ x = 6 ∧ ¬ x = 7) → A8) := by
  subst e
  exact ⟨fun e => absurd e (by decide), fun e => absurd e (by decide), fun e => absurd e (by decide), fun e => absurd e (by decide), fun _ => h, fun e => absurd e (by decide), fun e => absurd e (by decide), fun e => absurd rfl (e.2.2.2.2.1)⟩
theorem sw_6 {x : Int32} {A1 A2 A3 A4 A5 A6 A7 A8 : Prop} (e : x = nI 6) (h : A6) : (x = 1 → A1) ∧ (x = 2 → A2) ∧ (x = 3 → A3) ∧ (x = 4 → A4) ∧ (x = 5 → A5) ∧ (x = 6 → A6) ∧ (x = 7 → A7) ∧ ((¬ x = 1 ∧ ¬ x = 2 ∧ ¬ x = 3 ∧ ¬ x = 4 ∧ ¬ x = 5 ∧ ¬ x = 6 ∧ ¬ x = 7) → A8) := by
  subst e
  exact ⟨fun e => absurd e (by decide), fun e => absurd e (by decide), fun e => absurd e (by decide), fun e => absurd e (by decide), fun e => absurd e (by decide), fun _ => h, fun e => absurd e (by decide), fun e => absurd rfl (e.2.2.2.2.2.1)⟩
theorem sw_7 {x : Int32} {A1 A2 A3 A4 A5 A6 A7 A8 : Prop} (e : x = nI 7) (h : A7) : (x = 1 → A1) ∧ (x = 2 → A2) ∧ (x = 3 → A3) ∧ (x = 4 → A4) ∧ (x = 5 → A5) ∧ (x = 6 → A6) ∧ (x = 7 → A7) ∧ ((¬ x = 1 ∧ ¬ x = 2 ∧ ¬ x = 3 ∧ ¬ x = 4 ∧ ¬ x = 5 ∧ ¬ x = 6 ∧ ¬ x = 7) → A8) := by
  subst e
  exact ⟨fun e => absurd e (by decide), fun e => absurd e (by decide), fun e => absurd e (by decide), fun e => absurd e (by decide), fun e => absurd e (by decide), fun e => absurd e (by decide), fun _ => h, fun e => absurd rfl (e.2.2.2.2.2.2)⟩
section
variable {G : Gp} {d : Nat} {K : SK} {V V' : SV}
variable {b ky s nT t : Nat} {ke : Nat → Nat} {S : Nat → Prop} {g : GS}
theorem frB_h {P : Nat → Nat → Prop} {V V' : SV} {b z : Nat} (h : fr P V V') (hp : ∀ a k, P a k → frB z b a k) : fr (frB z b) V V' := fr_mo h hp
theorem put0 (hK : StK K) (ha : IsSt K b 5 ky) (hs : s < 10) : stC 2 G (d + 5) K mX5_putName b ky nT ke t (CR 0 b ke g) (CR 0 b ke g) 0 ∧ stM G (d + 5) K mX12_putIn 0 s ky nT ke t (MR 0 s g) (MR 0 s g) 0 := by
  constructor
  · intro n J O V hk hR h8
    exact ⟨V, wX5_putName_0 hK ha (by decide) rfl, trivial, h8, fr_rfl⟩
  · intro n J O V hk h70 hR
    have f0 : fr (fun a k => a = 57 ∧ k = 32) V (up2 V 57 32 0) := fr_up fr_rfl ⟨rfl, rfl⟩
    obtain ⟨y1, y2, y3⟩ := fin7 (c := 0) f0 (fun a k q => ⟨Or.inr (Or.inr q), by omega, by omega⟩)
    refine ⟨up7 (up2 V 57 32 0) s 0, wX12_putIn_0 hK ⟨nI_v hs (by omega), ?_⟩, by show up7 _ s 0 73 s = 0; rw [up7_fr 73 s (by omega), f0 73 s (by omega)]; exact hR, y1, y2, y3⟩
    rw [nI_c (show s < 100000 by omega)]
    exact sw_0 h70 (m_197 hK hs (by rw [up2_s]; rfl))
theorem take0 (hK : StK K) (ha : IsSt K b 5 ky) (hs : s < 10) : stC 2 G (d + 5) K mX5_takeName b ky nT ke t (CR 0 b ke g) (CR 0 b ke g) 0 ∧ stM G (d + 5) K mX12_takeFrom 0 s ky nT ke t (MR 0 s g) (MR 0 s g) 0 := by
  constructor
  · intro n J O V hk hR h8
    exact ⟨V, wX5_takeName_0 hK ha (by decide) rfl, trivial, h8, fr_rfl⟩
  · intro n J O V hk h70 hR
    have f0 : fr (fun a k => a = 57 ∧ k = 32) V (up2 V 57 32 0) := fr_up fr_rfl ⟨rfl, rfl⟩
    obtain ⟨y1, y2, y3⟩ := fin7 (c := 0) f0 (fun a k q => ⟨Or.inr (Or.inr q), by omega, by omega⟩)
    refine ⟨up7 (up2 V 57 32 0) s 0, wX12_takeFrom_0 hK ⟨nI_v hs (by omega), ?_⟩, by show up7 _ s 0 73 s = 0; rw [up7_fr 73 s (by omega), f0 73 s (by omega)]; exact hR, y1, y2, y3⟩
    rw [nI_c (show s < 100000 by omega)]
    exact sw_0 h70 (m_169 hK hs (by rw [up2_s]; rfl))
/-- the bits of a value -/
def bit2 (x0 : Int32) : Int32 := (1 <<< (((x0 * 7) - (x0 * 7) / 32 * 32) &&& 31)) ||| (1 <<< (((x0 * 11) - (x0 * 11) / 32 * 32) &&& 31))
theorem put6 (hK : StK K) (ha : IsSt K b 1 ky) (hb : 96 ≤ b) (ht : t < nT) (hs : s < 10) : stC 3 G (d + 5) K mX1_putName b ky nT ke t (CR 6 b ke g) (CR 6 b ke (g.1, g.2.1, g.2.2.1, g.2.2.2.1, g.2.2.2.2 ||| bit2 (nI (ke t)))) 2 ∧ stM G (d + 5) K mX12_putIn 6 s ky nT ke t (MR 6 s g) (MR 6 s (g.1, g.2.1, g.2.2.1, g.2.2.2.1, g.2.2.2.2 ||| bit2 (nI (ke t)))) 2 := by
  constructor
  · intro n J O V hk hR h8
    have h80 := hk.2.1
    have h4 := hk.1
    refine ⟨up2 (up2 V b 8 (nI 2)) b 11 (g.2.2.2.2 ||| bit2 (nI (ke t))), wX1_putName_0 hK ha ⟨nI_v (by omega) (by omega), bit2 (nI (ke t)), ?_, rfl, ?_⟩, up2_s, ?_, ?_⟩
    · rw [nI_c (by omega), up2_a (show 4 + 1 + ky ≠ b by omega), (hk.2.2 t ht).1]
      exact wX1_bitsOf_0 hK rfl
    · rw [h8, show V b 11 = g.2.2.2.2 from hR]
      rfl
    · rw [up2_k (by decide), up2_s]
    · exact fr_up (fr_up fr_rfl (Or.inr ⟨rfl, by omega⟩)) (Or.inr ⟨rfl, by omega⟩)
  · intro n J O V hk h70 hR
    have f0 : fr (fun a k => a = 57 ∧ k = 32) V (up2 V 57 32 0) := fr_up fr_rfl ⟨rfl, rfl⟩
    have f2 : fr (fun a k => (a = 57 ∧ k = 32) ∨ (a = 77 ∧ k = s)) V (up2 (up2 (up2 V 57 32 0) 77 s (g.2.2.2.2 ||| bit2 (nI (ke t)))) 57 32 2) := fr_up (fr_up (fr_mo f0 (fun a k q => Or.inl q)) (Or.inr ⟨rfl, rfl⟩)) (Or.inl ⟨rfl, rfl⟩)
    obtain ⟨y1, y2, y3⟩ := fin7 (c := 2) f2 (fun a k q => ⟨q.elim (fun q => Or.inr (Or.inr q)) (fun q => Or.inr (Or.inl ⟨by omega, q.2⟩)), by omega, by omega⟩)
    refine ⟨up7 (up2 (up2 (up2 V 57 32 0) 77 s (g.2.2.2.2 ||| bit2 (nI (ke t)))) 57 32 2) s 2, wX12_putIn_0 hK ⟨nI_v hs (by omega), ?_⟩, ?_, y1, y2, y3⟩
    · rw [nI_c (show s < 100000 by omega)]
      refine sw_6 h70 ⟨nI_v hs (by omega), nI (ke t), c12_keyIn hK (mKe_o hk (fr_mo f0 (fun a k q => by omega))) ht, bit2 (nI (ke t)), wX12_bitsOf_0 hK rfl, nI_v hs (by omega), ?_⟩
      rw [show V 77 s = g.2.2.2.2 from hR]
      exact m_197 hK hs (by rw [up2_s]; rfl)
    · show up7 _ s 2 77 s = _
      rw [up7_fr 77 s (by omega), up2_a (by decide), up2_s]
theorem take6 (hK : StK K) (ha : IsSt K b 1 ky) (hs : s < 10) : stC 3 G (d + 5) K mX1_takeName b ky nT ke t (CR 6 b ke g) (CR 6 b ke g) 1 ∧ stM G (d + 5) K mX12_takeFrom 6 s ky nT ke t (MR 6 s g) (MR 6 s g) 1 := by
  constructor
  · intro n J O V hk hR h8
    refine ⟨up2 V b 8 (nI 1), wX1_takeName_0 hK ha ⟨rfl, ?_⟩, ?_, up2_s, fr_up fr_rfl (Or.inr ⟨rfl, by omega⟩)⟩
    · rw [h8]
      rfl
    · show up2 V b 8 (nI 1) b 11 = _
      rw [up2_k (by decide)]
      exact hR
  · intro n J O V hk h70 hR
    have f0 : fr (fun a k => a = 57 ∧ k = 32) V (up2 (up2 V 57 32 0) 57 32 1) := fr_up (fr_up fr_rfl ⟨rfl, rfl⟩) ⟨rfl, rfl⟩
    obtain ⟨y1, y2, y3⟩ := fin7 (c := 1) f0 (fun a k q => ⟨Or.inr (Or.inr q), by omega, by omega⟩)
    refine ⟨up7 (up2 (up2 V 57 32 0) 57 32 1) s 1, wX12_takeFrom_0 hK ⟨nI_v hs (by omega), ?_⟩, ?_, y1, y2, y3⟩
    · rw [nI_c (show s < 100000 by omega)]
      exact sw_6 h70 (m_169 hK hs (by rw [up2_s]; rfl))
    · show up7 _ s 1 77 s = _
      rw [up7_fr 77 s (by omega), f0 77 s (by omega)]
      exact hR
/-- a name comes to the end of the reference's row: rows and tables -/
theorem mput_end (hK : StK K) {c : Nat} {kd : Nat} (hkd : kd = 1 ∨ kd = 4) (ht : t < nT) (hl : g.1.length < nT) (hMR : ∀ V, MR kd s g V → RowM s g.1.length (nmL g.1) V) (hMR' : ∀ V, RowM s (g.1 ++ [t]).length (nmL (g.1 ++ [t])) V → MR kd s (g.1 ++ [t], g.2) V) (hc : c = 1) : stM G (d + 5) K mX12_putIn kd s ky nT ke t (MR kd s g) (MR kd s (g.1 ++ [t], g.2)) c := by
  intro n J O V hk h70 hR
  subst hc
  have hs := hk.1
  have h80 := hk.2.2.1
  have hR := hMR V hR
  have f0 : fr (fun a k => a = 57 ∧ k = 32) V (up2 V 57 32 0) := fr_up fr_rfl ⟨rfl, rfl⟩
  obtain ⟨V3, z1, z2, z3⟩ := c12_insert (G := G) (d := d + 4) (n := n) (J := J) (O := O) hK hs (hR.fr f0) (Nat.le_refl _) (by omega) (t := t) (by omega)
  have f2 : fr (fun a k => (a = 57 ∧ k = 32) ∨ (a = 72 ∧ 80 * s ≤ k ∧ k < 80 * s + 80) ∨ (a = 73 ∧ k = s)) V (up2 V3 57 32 1) := fr_up (fr_mo (fr_tr f0 z3) (fun a k q => q)) (Or.inl ⟨rfl, rfl⟩)
  obtain ⟨y1, y2, y3⟩ := fin7 (c := 1) (s := s) f2 (fun a k q => ⟨by unfold frP; omega, by omega, by omega⟩)
  refine ⟨up7 (up2 V3 57 32 1) s 1, wX12_putIn_0 hK ⟨nI_v hs (by omega), ?_⟩, ?_, y1, y2, y3⟩
  · have hE := m_197 (G := G) (d := d + 4) (n := n) (J := J) (O := O) (x2 := nI t) (V := up2 V3 57 32 1) (c := 1) hK hs (by rw [up2_s]; rfl)
    rw [nI_c (show s < 100000 by omega), hR.2.1]
    rcases hkd with rfl | rfl
    · exact sw_1 h70 ⟨nI_v hs (by omega), V3, z1, hE⟩
    · exact sw_4 h70 ⟨nI_v hs (by omega), V3, z1, hE⟩
  · refine hMR' _ ?_
    rw [List.length_append]
    refine RowM_c (RowM_o z2 ?_) (fun i hi => nmL_0.symm)
    exact fr_mo (fr_tr (fr_up (P := fun a k => a = 57 ∧ k = 32) fr_rfl ⟨rfl, rfl⟩) up7_fr) (fun a k q => by omega)
theorem put1 (hK : StK K) (ha : IsSt K b 3 ky) (hb : 96 ≤ b) (ht : t < nT) (hl : g.1.length < nT) : stC 3 G (d + 5) K mX3_putName b ky nT ke t (CR 1 b ke g) (CR 1 b ke (g.1 ++ [t], g.2)) 1 ∧ stM G (d + 5) K mX12_putIn 1 s ky nT ke t (MR 1 s g) (MR 1 s (g.1 ++ [t], g.2)) 1 := by
  refine ⟨?_, mput_end hK (Or.inl rfl) ht hl (fun V h => h) (fun V h => h) rfl⟩
  intro n J O V hk hR h8
  have h80 := hk.2.1
  have f0 : fr (fun a k => a = b ∧ k = 8) V (up2 V b 8 (nI 1)) := fr_up fr_rfl ⟨rfl, rfl⟩
  have hR : RowC b g.1.length (nmL g.1) V := hR
  obtain ⟨V3, z1, z2, z3⟩ := c3_insertAt (G := G) (d := d + 4) (n := n) (J := J) (O := O) hK ha (by decide) (hR.fr f0) (Nat.le_refl _) (by omega) (t := t) (by omega)
  refine ⟨V3, wX3_putName_0 hK ha (by decide) ⟨V3, ?_, rfl, rfl⟩, ?_, ?_, ?_⟩
  · rw [h8, hR.2.1]
    exact z1
  · show RowC b (g.1 ++ [t]).length (nmL (g.1 ++ [t])) V3
    rw [List.length_append]
    exact RowC_c z2 (fun i hi => nmL_0.symm)
  · rw [z3 b 8 (by omega), up2_s]
  · exact fr_mo (fr_tr f0 z3) (fun a k q => by unfold frB; omega)
theorem put4 (hK : StK K) (ha : IsSt K b 7 ky) (hb : 96 ≤ b) (ht : t < nT) (hl : g.1.length < nT) (hS : ∀ u, u ∈ g.1 → u < nT) : stC 3 G (d + 5) K mX7_putName b ky nT ke t (CR 4 b ke g) (CR 4 b ke (g.1 ++ [t], g.2)) 1 ∧ stM G (d + 5) K mX12_putIn 4 s ky nT ke t (MR 4 s g) (MR 4 s (g.1 ++ [t], g.2)) 1 := by
  refine ⟨?_, mput_end hK (Or.inr rfl) ht hl (fun V h => h) (fun V h => h) rfl⟩
  intro n J O V hk hR h8
  have h80 := hk.2.1
  obtain ⟨V3, z1, z2, z3, z4⟩ := c7_putName (G := G) (d := d + 3) (n := n) (J := J) (O := O) hK ha hb hk (L := g.1) hR hS ht (by omega) h8
  exact ⟨V3, z1, z2, z3, fr_mo z4 (fun a k q => by unfold frB; omega)⟩
end
