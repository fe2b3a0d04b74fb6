/-! ===== heaps: going up and down ===== -/
def sw (nm : Nat → Nat) (i j : Nat) : Nat → Nat := fun q => if q = j then nm i else if q = i then nm j else nm q
/-- the name at place i is less than the one at place j -/
def ltP (ke nm : Nat → Nat) (i j : Nat) : Bool := ah ke (ke (nm j)) (some (nm j)) (nm i)
def hup (ke : Nat → Nat) : Nat → (Nat → Nat) → Nat → Nat → (Nat → Nat) × Nat × Nat
  | 0, nm, i, c => (nm, i, c)
  | f + 1, nm, i, c => if i = 0 then (nm, i, c) else if ltP ke nm i ((i - 1) / 2) = true then hup ke f (sw nm i ((i - 1) / 2)) ((i - 1) / 2) (c + 1) else (nm, i, c + 1)
/-- the lesser one below place i, and the looks -/
def low (ke nm : Nat → Nat) (m i c : Nat) : Nat × Nat := if 2 * i + 2 < m then (if ltP ke nm (2 * i + 2) (2 * i + 1) = true then 2 * i + 2 else 2 * i + 1, c + 1) else (2 * i + 1, c)
def hdn (ke : Nat → Nat) (m : Nat) : Nat → (Nat → Nat) → Nat → Nat → (Nat → Nat) × Nat
  | 0, nm, _, c => (nm, c)
  | f + 1, nm, i, c => if 2 * i + 1 < m then (if ltP ke nm (low ke nm m i c).1 i = true then hdn ke m f (sw nm i (low ke nm m i c).1) (low ke nm m i c).1 ((low ke nm m i c).2 + 1) else (nm, (low ke nm m i c).2 + 1)) else (nm, c)
theorem low_in {ke nm : Nat → Nat} {m i c : Nat} (h : 2 * i + 1 < m) : i < (low ke nm m i c).1 ∧ (low ke nm m i c).1 < m := by
  unfold low
  split
  · dsimp only
    split <;> omega
  · dsimp only
    omega
/-- the names at the first m places are those of S, each once -/
def NM (m : Nat) (nm : Nat → Nat) (S : Nat → Prop) : Prop := (∀ i, i < m → S (nm i)) ∧ (∀ t, S t → ∃ i, i < m ∧ nm i = t) ∧ ∀ i j, i < m → j < m → nm i = nm j → i = j
theorem NM_sw {m i j : Nat} {nm : Nat → Nat} {S : Nat → Prop} (h : NM m nm S) (hi : i < m) (hj : j < m) : NM m (sw nm i j) S := by
  obtain ⟨h1, h2, h3⟩ := h
  refine ⟨fun q hq => ?_, fun t ht => ?_, fun p q hp hq he => ?_⟩
  · unfold sw
    split
    · exact h1 i hi
    · split
      · exact h1 j hj
      · exact h1 q hq
  · obtain ⟨q, hq, e⟩ := h2 t ht
    by_cases e1 : q = i
    · exact ⟨j, hj, by simp [sw, ← e1, e]⟩
    · by_cases e2 : q = j
      · refine ⟨i, hi, ?_⟩
        unfold sw
        split
        · rename_i e3
          rw [e3, ← e2]; exact e
        · rw [if_pos rfl, ← e2]; exact e
      · exact ⟨q, hq, by simp [sw, e1, e2, e]⟩
  · unfold sw at he
    by_cases a1 : p = j <;> by_cases a2 : q = j
    · omega
    · rw [if_pos a1, if_neg a2] at he
      by_cases a3 : q = i
      · rw [if_pos a3] at he
        have := h3 i j hi hj he
        omega
      · rw [if_neg a3] at he
        have := h3 i q hi hq he
        omega
    · rw [if_neg a1, if_pos a2] at he
      by_cases a3 : p = i
      · rw [if_pos a3] at he
        have := h3 j i hj hi he
        omega
      · rw [if_neg a3] at he
        have := h3 p i hp hi he
        omega
    · rw [if_neg a1, if_neg a2] at he
      by_cases a3 : p = i <;> by_cases a4 : q = i
      · omega
      · rw [if_pos a3, if_neg a4] at he
        have := h3 j q hj hq he
        omega
      · rw [if_neg a3, if_pos a4] at he
        have := h3 p j hp hj he
        omega
      · rw [if_neg a3, if_neg a4] at he
        exact h3 p q hp hq he
theorem hup_NM {ke : Nat → Nat} {m : Nat} {S : Nat → Prop} : ∀ (f : Nat) (nm : Nat → Nat) (i c : Nat), i < m → NM m nm S → NM m (hup ke f nm i c).1 S ∧ (hup ke f nm i c).2.1 ≤ i
  | 0, nm, i, c, hi, h => ⟨h, Nat.le_refl _⟩
  | f + 1, nm, i, c, hi, h => by
    unfold hup
    split
    · exact ⟨h, Nat.le_refl _⟩
    · split
      · have := hup_NM (ke := ke) f (sw nm i ((i - 1) / 2)) ((i - 1) / 2) (c + 1) (by omega) (NM_sw h hi (by omega))
        exact ⟨this.1, by omega⟩
      · exact ⟨h, Nat.le_refl _⟩
theorem hdn_NM {ke : Nat → Nat} {m : Nat} {S : Nat → Prop} : ∀ (f : Nat) (nm : Nat → Nat) (i c : Nat), i < m → NM m nm S → NM m (hdn ke m f nm i c).1 S
  | 0, nm, i, c, hi, h => h
  | f + 1, nm, i, c, hi, h => by
    unfold hdn
    split
    · rename_i hl
      have hin := low_in (ke := ke) (nm := nm) (c := c) hl
      split
      · exact hdn_NM f _ _ _ hin.2 (NM_sw h hi hin.2)
      · exact h
    · exact h
section
variable {G : Gp} {d : Nat} {K : SK} {n : Nat × Nat} {V V' : SV} {J J' : SJV} {O O' : SO} {r : Option Value}
variable {b ky s nT m : Nat} {ke nm : Nat → Nat}
theorem c2_isLess (hK : StK K) (ha : IsSt K b 2 ky) (hk : cKe ky nT ke V) (hR : RowC b m nm V) (hn : ∀ i, i < m → nm i < nT) {i j : Nat} (hi : i < m) (hj : j < m) : Ev G (d + 1) mX2_isLess 0 [(0, .ref b), (1, .int (nI i)), (2, .int (nI j))] (K, n, V, J, O) (some (.int (bI (ltP ke nm i j = true)))) (K, n, V, J, O) := by
  have h80 := hR.1
  obtain ⟨e1, e2⟩ := hR.2.2 i hi
  obtain ⟨e3, e4⟩ := hR.2.2 j hj
  obtain ⟨e5, e6⟩ := hk.2.2 (nm j) (hn j hj)
  have vi := nI_v (a := i) (N := 80) (by omega) (by omega)
  have vj := nI_v (a := j) (N := 80) (by omega) (by omega)
  refine wX2_isLess_0 hK ha ⟨vi, vj, ?_⟩
  rw [nI_c (show i < 100000 by omega), nI_c (show j < 100000 by omega), e1, e3, nI_c (show nm j < 100000 by omega), e5]
  exact ⟨nI_v (by omega) (by omega), vj, _, c5_comes (o := some (nm j)) hK ha (by decide) hk (hn i hi) (by omega) (fun u hu => by cases hu; omega), bI_z, rfl⟩
theorem c2_change (hK : StK K) (ha : IsSt K b 2 ky) (hR : RowC b m nm V) {i j : Nat} (hi : i < m) (hj : j < m) : ∃ V', Ev G d mX2_change 0 [(0, .ref b), (1, .int (nI i)), (2, .int (nI j))] (K, n, V, J, O) none (K, n, V', J, O) ∧ RowC b m (sw nm i j) V' ∧ fr (fun a _ => a = b + 2) V V' := by
  have h80 := hR.1
  obtain ⟨e1, e2⟩ := hR.2.2 i hi
  obtain ⟨e3, e4⟩ := hR.2.2 j hj
  have vi := nI_v (a := i) (N := 80) (by omega) (by omega)
  have vj := nI_v (a := j) (N := 80) (by omega) (by omega)
  refine ⟨up2 (up2 V (b + 2) i (nI (nm j))) (b + 2) j (nI (nm i)), wX2_change_0 hK ha ⟨vi, vj, vi, vj, rfl, ?_⟩, ⟨h80, ?_, fun q hq => ?_⟩, fr_up (P := fun a _ => a = b + 2) (fr_up fr_rfl rfl) rfl⟩
  · rw [nI_c (show i < 100000 by omega), nI_c (show j < 100000 by omega), e1, e3]
  · rw [up2_a (by omega), up2_a (by omega)]
    exact hR.2.1
  · unfold sw
    by_cases a1 : q = j
    · rw [a1, up2_s, if_pos rfl]
      exact ⟨rfl, e2⟩
    · rw [up2_k a1, if_neg a1]
      by_cases a2 : q = i
      · rw [a2, up2_s, if_pos rfl]
        exact ⟨rfl, e4⟩
      · rw [up2_k a2, if_neg a2]
        exact hR.2.2 q hq
theorem RowC.fr (hR : RowC b m nm V) (hf : fr (fun a k => a = b ∧ k = 8) V V') : RowC b m nm V' := ⟨hR.1, by rw [hf b 10 (by omega)]; exact hR.2.1, fun i hi => by rw [hf (b + 2) i (by omega)]; exact hR.2.2 i hi⟩
theorem cKe.fr (hk : cKe ky nT ke V) (hb : 96 ≤ b) (hf : fr (fun a _ => b ≤ a) V V') : cKe ky nT ke V' := ⟨hk.1, hk.2.1, fun t ht => by have := hk.1; rw [hf (4 + 1 + ky) t (by omega)]; exact hk.2.2 t ht⟩
theorem pm2 {i : Nat} (h : 0 < i) (h2 : i < 100000) : (nI i - 1) / 2 = nI ((i - 1) / 2) := by
  rw [show nI i - 1 = nI (i - 1) from by rw [show (1 : Int32) = nI 1 from rfl, nI_s (by omega)]]
  exact pk_div (d := 2) (by omega) (by omega) (by omega)
theorem c2_rise2 (hK : StK K) (ha : IsSt K b 2 ky) (hb : 96 ≤ b) {x1 : Int32} : ∀ (f : Nat) (nm : Nat → Nat) (i c : Nat) (V : SV), i ≤ f → i < m → RowC b m nm V → cKe ky nT ke V → (∀ i, i < m → nm i < nT) → V b 8 = nI c → ∃ V', Ev G (d + 2) mX2_rise 2 [(0, .ref b), (1, .int x1), (2, .int (nI i))] (K, n, V, J, O) (some (.int (nI (hup ke f nm i c).2.1))) (K, n, V', J, O) ∧ RowC b m (hup ke f nm i c).1 V' ∧ V' b 8 = nI (hup ke f nm i c).2.2 ∧ fr (fun a k => a = b + 2 ∨ (a = b ∧ k = 8)) V V' := by
  intro f
  induction f with
  | zero =>
    intro nm i c V h1 h2 hR hk hn h8
    have : i = 0 := by omega
    subst this
    exact ⟨V, wX2_rise_2 hK ha (bt (by decide) ⟨rfl, rfl⟩), hR, h8, fr_rfl⟩
  | succ f ih =>
    intro nm i c V h1 h2 hR hk hn h8
    have h80 := hR.1
    unfold hup
    by_cases h0 : i = 0
    · subst h0
      exact ⟨V, wX2_rise_2 hK ha (bt (by decide) ⟨rfl, rfl⟩), hR, h8, fr_rfl⟩
    · rw [if_neg h0]
      have g1 : fr (fun a k => a = b ∧ k = 8) V (up2 V b 8 (nI (c + 1))) := fr_up fr_rfl ⟨rfl, rfl⟩
      have hR1 := hR.fr g1
      have hk1 := hk.fr hb (fr_mo g1 (fun a k q => by omega))
      have hl := c2_isLess (G := G) (d := d) (n := n) (J := J) (O := O) hK ha hk1 hR1 hn h2 (show (i - 1) / 2 < m by omega)
      have hn0 : ¬ nI i ≤ 0 := nI_nle (by omega) (by omega)
      by_cases hp : ltP ke nm i ((i - 1) / 2) = true
      · rw [if_pos hp]
        obtain ⟨V1, z1, z2, z3⟩ := c2_change (G := G) (d := d + 1) (n := n) (J := J) (O := O) hK ha hR1 h2 (show (i - 1) / 2 < m by omega)
        obtain ⟨V', y1, y2, y3, y4⟩ := ih (sw nm i ((i - 1) / 2)) ((i - 1) / 2) (c + 1) V1 (by omega) (by omega) z2 (hk1.fr hb (fr_mo z3 (fun a k q => by omega))) (fun q hq => by
          unfold sw
          split
          · exact hn i h2
          · split
            · exact hn _ (by omega)
            · exact hn q hq) (by rw [z3 b 8 (by omega), up2_s])
        refine ⟨V', wX2_rise_2 hK ha (bf hn0 ?_), y2, y3, fr_mo (fr_tr (fr_tr g1 z3) y4) (fun a k q => by omega)⟩
        rw [pm2 (by omega) (by omega), h8, nI_1]
        exact ⟨_, hl, bn_y hp ⟨_, z1, y1⟩⟩
      · rw [if_neg hp]
        refine ⟨up2 V b 8 (nI (c + 1)), wX2_rise_2 hK ha (bf hn0 ?_), hR1, up2_s, fr_mo g1 (fun a k q => by omega)⟩
        rw [pm2 (by omega) (by omega), h8, nI_1]
        exact ⟨_, hl, bn_n hp ⟨rfl, rfl⟩⟩
theorem c2_rise (hK : StK K) (ha : IsSt K b 2 ky) (hb : 96 ≤ b) {i c : Nat} (h2 : i < m) (hR : RowC b m nm V) (hk : cKe ky nT ke V) (hn : ∀ i, i < m → nm i < nT) (h8 : V b 8 = nI c) : ∃ V', Ev G (d + 2) mX2_rise 0 [(0, .ref b), (1, .int (nI i))] (K, n, V, J, O) (some (.int (nI (hup ke i nm i c).2.1))) (K, n, V', J, O) ∧ RowC b m (hup ke i nm i c).1 V' ∧ V' b 8 = nI (hup ke i nm i c).2.2 ∧ fr (fun a k => a = b + 2 ∨ (a = b ∧ k = 8)) V V' := by
  obtain ⟨V', z1, z2⟩ := c2_rise2 (G := G) (d := d) (n := n) (J := J) (O := O) (x1 := nI i) hK ha hb i nm i c V (Nat.le_refl _) h2 hR hk hn h8
  exact ⟨V', wX2_rise_0 hK ha z1, z2⟩
theorem d21 {i : Nat} : (2 : Int32) * nI i + 1 = nI (2 * i + 1) := by
  rw [show (2 : Int32) = nI 2 from rfl, nI_mul, nI_1]
theorem c2_lower (hK : StK K) (ha : IsSt K b 2 ky) (hb : 96 ≤ b) {i c : Nat} (hl : 2 * i + 1 < m) (hR : RowC b m nm V) (hk : cKe ky nT ke V) (hn : ∀ i, i < m → nm i < nT) (h8 : V b 8 = nI c) : Ev G (d + 2) mX2_lesserBelow 0 [(0, .ref b), (1, .int (nI i))] (K, n, V, J, O) (some (.int (nI (low ke nm m i c).1))) (K, n, up2 V b 8 (nI (low ke nm m i c).2), J, O) := by
  have h80 := hR.1
  refine wX2_lesserBelow_0 hK ha ?_
  rw [d21, nI_1, hR.2.1, nI_lt' (by omega) (by omega), h8, nI_1]
  unfold low
  by_cases h2 : 2 * i + 2 < m
  · have g1 : fr (fun a k => a = b ∧ k = 8) V (up2 V b 8 (nI (c + 1))) := fr_up fr_rfl ⟨rfl, rfl⟩
    have hle := c2_isLess (G := G) (d := d) (n := n) (J := J) (O := O) hK ha (hk.fr hb (fr_mo g1 (fun a k q => by omega))) (hR.fr g1) hn h2 hl
    rw [if_pos h2]
    refine bt h2 ⟨_, hle, ?_⟩
    by_cases hp : ltP ke nm (2 * i + 2) (2 * i + 1) = true
    · exact bz_y hp (by simp [hp])
    · exact bz_n hp (by simp [hp])
  · rw [if_neg h2]
    refine bf h2 ⟨rfl, ?_⟩
    show up2 V b 8 (nI c) = V
    rw [← h8, up2_self]
theorem c2_sink2 (hK : StK K) (ha : IsSt K b 2 ky) (hb : 96 ≤ b) {x1 : Int32} : ∀ (f : Nat) (nm : Nat → Nat) (i st c : Nat) (V : SV), m - i ≤ f → i < m → st ≤ i → RowC b m nm V → cKe ky nT ke V → (∀ i, i < m → nm i < nT) → V b 8 = nI c → ∃ V', Ev G (d + 3) mX2_sink 4 [(0, .ref b), (1, .int x1), (2, .int (nI i)), (3, .int (nI st))] (K, n, V, J, O) none (K, n, V', J, O) ∧ RowC b m (hdn ke m f nm i c).1 V' ∧ V' b 8 = nI (hdn ke m f nm i c).2 ∧ fr (fun a k => a = b + 2 ∨ (a = b ∧ k = 8)) V V' := by
  intro f
  induction f with
  | zero => intro nm i st c V h1 h2; omega
  | succ f ih =>
    intro nm i st c V h1 h2 hst hR hk hn h8
    have h80 := hR.1
    have hc0 : ¬ V b 10 ≤ nI st := by rw [hR.2.1, nI_le' (by omega) (by omega)]; omega
    unfold hdn
    by_cases hl : 2 * i + 1 < m
    · rw [if_pos hl]
      have hin := low_in (ke := ke) (nm := nm) (c := c) hl
      have hlow := c2_lower (G := G) (d := d) (n := n) (J := J) (O := O) (c := c) hK ha hb hl hR hk hn h8
      generalize low ke nm m i c = w at *
      have g1 : fr (fun a k => a = b ∧ k = 8) V (up2 V b 8 (nI (w.2 + 1))) := fr_up fr_rfl ⟨rfl, rfl⟩
      have hR1 := hR.fr g1
      have hk1 := hk.fr hb (fr_mo g1 (fun a k q => by omega))
      have hle := c2_isLess (G := G) (d := d + 1) (n := n) (J := J) (O := O) hK ha hk1 hR1 hn hin.2 h2
      have e8 : up2 (up2 V b 8 (nI w.2)) b 8 (up2 V b 8 (nI w.2) b 8 + 1) = up2 V b 8 (nI (w.2 + 1)) := by rw [up2_s, up2_2, nI_1]
      have hcond : ¬ V b 10 ≤ 2 * nI i + 1 := by rw [hR.2.1, d21, nI_le' (by omega) (by omega)]; omega
      by_cases hp : ltP ke nm w.1 i = true
      · rw [if_pos hp]
        obtain ⟨V1, z1, z2, z3⟩ := c2_change (G := G) (d := d + 2) (n := n) (J := J) (O := O) hK ha hR1 h2 hin.2
        obtain ⟨V', y1, y2, y3, y4⟩ := ih (sw nm i w.1) w.1 (st + 1) (w.2 + 1) V1 (by omega) hin.2 (by omega) z2 (hk1.fr hb (fr_mo z3 (fun a k q => by omega))) (fun q hq => by
          unfold sw
          split
          · exact hn i h2
          · split
            · exact hn _ hin.2
            · exact hn q hq) (by rw [z3 b 8 (by omega), up2_s])
        refine ⟨V', wX2_sink_4 hK ha (bf hc0 (bf hcond ⟨_, _, hlow, ?_⟩)), y2, y3, fr_mo (fr_tr (fr_tr g1 z3) y4) (fun a k q => by omega)⟩
        rw [e8, show nI st + 1 = nI (st + 1) from nI_1 st]
        exact ⟨_, hle, bn_y hp ⟨_, z1, y1⟩⟩
      · rw [if_neg hp]
        refine ⟨up2 V b 8 (nI (w.2 + 1)), wX2_sink_4 hK ha (bf hc0 (bf hcond ⟨_, _, hlow, ?_⟩)), hR1, up2_s, fr_mo g1 (fun a k q => by omega)⟩
        rw [e8]
        exact ⟨_, hle, bn_n hp ⟨rfl, rfl⟩⟩
    · rw [if_neg hl]
      refine ⟨V, wX2_sink_4 hK ha (bf hc0 (bt ?_ ⟨rfl, rfl⟩)), hR, h8, fr_rfl⟩
      rw [hR.2.1, d21, nI_le' (by omega) (by omega)]; omega
theorem c2_sink (hK : StK K) (ha : IsSt K b 2 ky) (hb : 96 ≤ b) {i c : Nat} (h2 : i < m) (hR : RowC b m nm V) (hk : cKe ky nT ke V) (hn : ∀ i, i < m → nm i < nT) (h8 : V b 8 = nI c) : ∃ V', Ev G (d + 3) mX2_sink 0 [(0, .ref b), (1, .int (nI i))] (K, n, V, J, O) none (K, n, V', J, O) ∧ RowC b m (hdn ke m (m - i) nm i c).1 V' ∧ V' b 8 = nI (hdn ke m (m - i) nm i c).2 ∧ fr (fun a k => a = b + 2 ∨ (a = b ∧ k = 8)) V V' := by
  obtain ⟨V', z1, z2⟩ := c2_sink2 (G := G) (d := d) (n := n) (J := J) (O := O) (x1 := nI i) hK ha hb (m - i) nm i 0 c V (Nat.le_refl _) h2 (Nat.zero_le _) hR hk hn h8
  exact ⟨V', wX2_sink_0 hK ha z1, z2⟩
/-! the reference -/
theorem RowM.fr (hR : RowM s m nm V) (hf : fr (fun a k => a = 57 ∧ k = 32) V V') : RowM s m nm V' := ⟨hR.1, by rw [hf 73 s (by omega)]; exact hR.2.1, fun i hi => by rw [hf 72 (80 * s + i) (by omega)]; exact hR.2.2 i hi⟩
theorem mKe.fr (hk : mKe s ky nT ke V) (hf : fr (fun a k => a = 72 ∨ a = 73 ∨ a = 57) V V') : mKe s ky nT ke V' := ⟨hk.1, hk.2.1, hk.2.2.1, by rw [hf 71 s (by omega)]; exact hk.2.2.2.1, fun t ht => by rw [hf 58 (4 * t + ky) (by omega)]; exact hk.2.2.2.2 t ht⟩
theorem m_less (hK : StK K) (hk : mKe s ky nT ke V) (hR : RowM s m nm V) (hn : ∀ i, i < m → nm i < nT) {i j : Nat} (hi : i < m) (hj : j < m) : Ev G (d + 2) mX12_isLess 0 [(0, .ref 57), (1, .int (nI s)), (2, .int (nI (nm i))), (3, .int (nI (nm j)))] (K, n, V, J, O) (some (.int (bI (ltP ke nm i j = true)))) (K, n, V, J, O) := c12_isLess hK hk (hn i hi) (hn j hj)
theorem c12_change (hK : StK K) (hs : s < 10) (hR : RowM s m nm V) {i j : Nat} (hi : i < m) (hj : j < m) : ∃ V', Ev G d mX12_change 0 [(0, .ref 57), (1, .int (nI s)), (2, .int (nI i)), (3, .int (nI j))] (K, n, V, J, O) none (K, n, V', J, O) ∧ RowM s m (sw nm i j) V' ∧ fr (fun a k => a = 72 ∧ 80 * s ≤ k ∧ k < 80 * s + 80) V V' := by
  have h80 := hR.1
  obtain ⟨e1, e2⟩ := hR.2.2 i hi
  obtain ⟨e3, e4⟩ := hR.2.2 j hj
  have vi := nI_v (a := 80 * s + i) (N := 800) (by omega) (by omega)
  have vj := nI_v (a := 80 * s + j) (N := 800) (by omega) (by omega)
  refine ⟨up2 (up2 V 72 (80 * s + i) (nI (nm j))) 72 (80 * s + j) (nI (nm i)), wX12_change_0 hK ?_, ⟨h80, ?_, fun q hq => ?_⟩, fr_up (fr_up fr_rfl (by omega)) (by omega)⟩
  · rw [ix80, ix80, nI_c (show 80 * s + i < 100000 by omega), nI_c (show 80 * s + j < 100000 by omega), e1, e3]
    exact ⟨vi, vj, vi, vj, rfl, rfl⟩
  · rw [up2_a (by decide), up2_a (by decide)]
    exact hR.2.1
  · unfold sw
    by_cases a1 : q = j
    · rw [a1, up2_s, if_pos rfl]
      exact ⟨rfl, e2⟩
    · rw [up2_k (by omega), if_neg a1]
      by_cases a2 : q = i
      · rw [a2, up2_s, if_pos rfl]
        exact ⟨rfl, e4⟩
      · rw [up2_k (by omega), if_neg a2]
        exact hR.2.2 q hq
theorem c12_up13 (hK : StK K) {x2 : Int32} : ∀ (f : Nat) (nm : Nat → Nat) (i c : Nat) (V : SV), i ≤ f → i < m → RowM s m nm V → mKe s ky nT ke V → (∀ i, i < m → nm i < nT) → V 57 32 = nI c → ∃ V', Ev G (d + 3) mX12_goUp 13 [(0, .ref 57), (1, .int (nI s)), (2, .int x2), (3, .int (nI i)), (4, .int (bI (0 < i)))] (K, n, V, J, O) (some (.int (nI (hup ke f nm i c).2.1))) (K, n, V', J, O) ∧ RowM s m (hup ke f nm i c).1 V' ∧ V' 57 32 = nI (hup ke f nm i c).2.2 ∧ fr (fun a k => (a = 72 ∧ 80 * s ≤ k ∧ k < 80 * s + 80) ∨ (a = 57 ∧ k = 32)) V V' := by
  intro f
  induction f with
  | zero =>
    intro nm i c V h1 h2 hR hk hn h8
    have : i = 0 := by omega
    subst this
    exact ⟨V, wX12_goUp_13 hK (bt (bI_f (by omega)) ⟨rfl, rfl⟩), hR, h8, fr_rfl⟩
  | succ f ih =>
    intro nm i c V h1 h2 hR hk hn h8
    have h80 := hR.1
    have hs := hk.1
    unfold hup
    by_cases h0 : i = 0
    · subst h0
      exact ⟨V, wX12_goUp_13 hK (bt (bI_f (by omega)) ⟨rfl, rfl⟩), hR, h8, fr_rfl⟩
    · rw [if_neg h0]
      have g1 : fr (fun a k => a = 57 ∧ k = 32) V (up2 V 57 32 (nI (c + 1))) := fr_up fr_rfl ⟨rfl, rfl⟩
      have hR1 := hR.fr g1
      have hk1 := hk.fr (fr_mo g1 (fun a k q => by omega))
      have hl := m_less (G := G) (d := d) (n := n) (J := J) (O := O) hK hk1 hR1 hn h2 (show (i - 1) / 2 < m by omega)
      have vi := nI_v (a := 80 * s + i) (N := 800) (by omega) (by omega)
      have vj := nI_v (a := 80 * s + (i - 1) / 2) (N := 800) (by omega) (by omega)
      have hpos : bI (0 < i) = 1 := bI_t (by omega)
      by_cases hp : ltP ke nm i ((i - 1) / 2) = true
      · rw [if_pos hp]
        obtain ⟨V1, z1, z2, z3⟩ := c12_change (G := G) (d := d + 2) (n := n) (J := J) (O := O) hK hs hR1 h2 (show (i - 1) / 2 < m by omega)
        obtain ⟨V', y1, y2, y3, y4⟩ := ih (sw nm i ((i - 1) / 2)) ((i - 1) / 2) (c + 1) V1 (by omega) (by omega) z2 (hk1.fr (fr_mo z3 (fun a k q => by omega))) (fun q hq => by
          unfold sw
          split
          · exact hn i h2
          · split
            · exact hn _ (by omega)
            · exact hn q hq) (by rw [z3 57 32 (by omega), up2_s])
        refine ⟨V', wX12_goUp_13 hK ?_, y2, y3, fr_mo (fr_tr (fr_tr g1 z3) y4) (fun a k q => by omega)⟩
        rw [hpos, pm2 (by omega) (by omega), ix80, ix80, nI_c (show 80 * s + i < 100000 by omega), nI_c (show 80 * s + (i - 1) / 2 < 100000 by omega), (hR.2.2 i h2).1, (hR.2.2 ((i - 1) / 2) (by omega)).1, h8, nI_1]
        refine bf one0 ⟨vi, vj, _, hl, ?_⟩
        rw [bI_t hp]
        refine bf one0 ⟨_, z1, bf one0 ?_⟩
        rw [nI_le0 (by omega)]
        by_cases h5 : (i - 1) / 2 ≤ 0
        · refine bt h5 ?_
          rw [bI_f (by omega)] at y1
          exact y1
        · refine bf h5 ?_
          rw [bI_t (by omega)] at y1
          exact y1
      · rw [if_neg hp]
        refine ⟨up2 V 57 32 (nI (c + 1)), wX12_goUp_13 hK ?_, hR1, up2_s, fr_mo g1 (fun a k q => by omega)⟩
        rw [hpos, pm2 (by omega) (by omega), ix80, ix80, nI_c (show 80 * s + i < 100000 by omega), nI_c (show 80 * s + (i - 1) / 2 < 100000 by omega), (hR.2.2 i h2).1, (hR.2.2 ((i - 1) / 2) (by omega)).1, h8, nI_1]
        refine bf one0 ⟨vi, vj, _, hl, ?_⟩
        rw [bI_f hp]
        exact bt rfl (bt rfl (wX12_goUp_13 hK (bt rfl ⟨rfl, rfl⟩)))
theorem c12_goUp (hK : StK K) {i c : Nat} (h2 : i < m) (hR : RowM s m nm V) (hk : mKe s ky nT ke V) (hn : ∀ i, i < m → nm i < nT) (h8 : V 57 32 = nI c) : ∃ V', Ev G (d + 3) mX12_goUp 0 [(0, .ref 57), (1, .int (nI s)), (2, .int (nI i))] (K, n, V, J, O) (some (.int (nI (hup ke i nm i c).2.1))) (K, n, V', J, O) ∧ RowM s m (hup ke i nm i c).1 V' ∧ V' 57 32 = nI (hup ke i nm i c).2.2 ∧ fr (fun a k => (a = 72 ∧ 80 * s ≤ k ∧ k < 80 * s + 80) ∨ (a = 57 ∧ k = 32)) V V' := by
  have h80 := hR.1
  obtain ⟨V', z1, z2⟩ := c12_up13 (G := G) (d := d) (n := n) (J := J) (O := O) (x2 := nI i) hK i nm i c V (Nat.le_refl _) h2 hR hk hn h8
  refine ⟨V', wX12_goUp_0 hK ?_, z2⟩
  rw [nI_le0 (by omega)]
  by_cases h5 : i ≤ 0
  · refine bt h5 ?_
    rw [bI_f (by omega)] at z1
    exact z1
  · refine bf h5 ?_
    rw [bI_t (by omega)] at z1
    exact z1
theorem c12_dn23 (hK : StK K) {x2 : Int32} : ∀ (f : Nat) (nm : Nat → Nat) (i c : Nat) (V : SV), m - i ≤ f → i < m → RowM s m nm V → mKe s ky nT ke V → (∀ i, i < m → nm i < nT) → V 57 32 = nI c → ∃ V', Ev G (d + 3) mX12_goDown 23 [(0, .ref 57), (1, .int (nI s)), (2, .int x2), (3, .int (nI i)), (4, .int (bI (2 * i + 1 < m)))] (K, n, V, J, O) none (K, n, V', J, O) ∧ RowM s m (hdn ke m f nm i c).1 V' ∧ V' 57 32 = nI (hdn ke m f nm i c).2 ∧ fr (fun a k => (a = 72 ∧ 80 * s ≤ k ∧ k < 80 * s + 80) ∨ (a = 57 ∧ k = 32)) V V' := by
  intro f
  induction f with
  | zero => intro nm i c V h1 h2; omega
  | succ f ih =>
    intro nm i c V h1 h2 hR hk hn h8
    have h80 := hR.1
    have hs := hk.1
    unfold hdn
    by_cases hl : 2 * i + 1 < m
    · rw [if_pos hl, bI_t hl]
      have hin := low_in (ke := ke) (nm := nm) (c := c) hl
      have vs := nI_v (a := s) (N := 10) hs (by omega)
      -- from 102 on
      have h102 : ∀ (w c1 : Nat), i < w → w < m → ∃ V', Ev G (d + 3) mX12_goDown 102 [(0, .ref 57), (1, .int (nI s)), (2, .int x2), (3, .int (nI i)), (4, .int 1), (5, .int (nI w))] (K, n, up2 V 57 32 (nI c1), J, O) none (K, n, V', J, O) ∧ RowM s m (if ltP ke nm w i = true then hdn ke m f (sw nm i w) w (c1 + 1) else (nm, c1 + 1)).1 V' ∧ V' 57 32 = nI (if ltP ke nm w i = true then hdn ke m f (sw nm i w) w (c1 + 1) else (nm, c1 + 1)).2 ∧ fr (fun a k => (a = 72 ∧ 80 * s ≤ k ∧ k < 80 * s + 80) ∨ (a = 57 ∧ k = 32)) V V' := by
        intro w c1 hw1 hw2
        have g1 : fr (fun a k => a = 57 ∧ k = 32) V (up2 V 57 32 (nI (c1 + 1))) := fr_up fr_rfl ⟨rfl, rfl⟩
        have hR1 := hR.fr g1
        have hk1 := hk.fr (fr_mo g1 (fun a k q => by omega))
        have hle := m_less (G := G) (d := d) (n := n) (J := J) (O := O) hK hk1 hR1 hn hw2 h2
        have vi := nI_v (a := 80 * s + i) (N := 800) (by omega) (by omega)
        have vw := nI_v (a := 80 * s + w) (N := 800) (by omega) (by omega)
        by_cases hp : ltP ke nm w i = true
        · rw [if_pos hp]
          obtain ⟨V1, z1, z2, z3⟩ := c12_change (G := G) (d := d + 2) (n := n) (J := J) (O := O) hK hs hR1 h2 hw2
          obtain ⟨V', y1, y2, y3, y4⟩ := ih (sw nm i w) w (c1 + 1) V1 (by omega) hw2 z2 (hk1.fr (fr_mo z3 (fun a k q => by omega))) (fun q hq => by
            unfold sw
            split
            · exact hn i h2
            · split
              · exact hn _ hw2
              · exact hn q hq) (by rw [z3 57 32 (by omega), up2_s])
          refine ⟨V', wX12_goDown_102 hK ?_, y2, y3, fr_mo (fr_tr (fr_tr g1 z3) y4) (fun a k q => by omega)⟩
          rw [ix80, ix80, nI_c (show 80 * s + i < 100000 by omega), nI_c (show 80 * s + w < 100000 by omega), up2_a (show (72 : Nat) ≠ 57 by decide), up2_a (show (72 : Nat) ≠ 57 by decide), (hR.2.2 i h2).1, (hR.2.2 w hw2).1, up2_s, up2_2, nI_1]
          refine ⟨vw, vi, _, hle, ?_⟩
          rw [bI_t hp]
          refine bf one0 ⟨_, z1, wX12_goDown_158 hK (bf one0 ⟨vs, ?_⟩)⟩
          rw [nI_c (show s < 100000 by omega), z2.2.1, d21, nI_le' (by omega) (by omega)]
          by_cases h5 : m ≤ 2 * w + 1
          · refine bt h5 (wX12_goDown_181 hK ?_)
            rw [bI_f (by omega)] at y1
            exact y1
          · refine bf h5 ?_
            rw [bI_t (by omega)] at y1
            exact y1
        · rw [if_neg hp]
          refine ⟨up2 V 57 32 (nI (c1 + 1)), wX12_goDown_102 hK ?_, hR1, up2_s, fr_mo g1 (fun a k q => by omega)⟩
          rw [ix80, ix80, nI_c (show 80 * s + i < 100000 by omega), nI_c (show 80 * s + w < 100000 by omega), up2_a (show (72 : Nat) ≠ 57 by decide), up2_a (show (72 : Nat) ≠ 57 by decide), (hR.2.2 i h2).1, (hR.2.2 w hw2).1, up2_s, up2_2, nI_1]
          refine ⟨vw, vi, _, hle, ?_⟩
          rw [bI_f hp]
          exact bt rfl (wX12_goDown_158 hK (bt rfl (wX12_goDown_181 hK (wX12_goDown_23 hK (bt rfl ⟨rfl, rfl⟩)))))
      by_cases h5 : 2 * i + 2 < m
      · have g1 : fr (fun a k => a = 57 ∧ k = 32) V (up2 V 57 32 (nI (c + 1))) := fr_up fr_rfl ⟨rfl, rfl⟩
        have hle := m_less (G := G) (d := d) (n := n) (J := J) (O := O) hK (hk.fr (fr_mo g1 (fun a k q => by omega))) (hR.fr g1) hn h5 hl
        have elow : low ke nm m i c = (if ltP ke nm (2 * i + 2) (2 * i + 1) = true then 2 * i + 2 else 2 * i + 1, c + 1) := if_pos h5
        obtain ⟨V', y1, y2, y3, y4⟩ := h102 (low ke nm m i c).1 (low ke nm m i c).2 hin.1 hin.2
        refine ⟨V', wX12_goDown_23 hK (bf one0 ⟨vs, ?_⟩), y2, y3, y4⟩
        rw [nI_c (show s < 100000 by omega), hR.2.1, d21, nI_1, nI_le' (by omega) (by omega), ix80, nI_1, nI_c (show 80 * s + (2 * i + 1) < 100000 by omega), nI_c (show 80 * s + (2 * i + 1) + 1 < 100000 by omega), show 80 * s + (2 * i + 1) + 1 = 80 * s + (2 * i + 2) by omega, (hR.2.2 (2 * i + 1) hl).1, (hR.2.2 (2 * i + 2) h5).1, h8, nI_1]
        refine bf (by omega) ⟨nI_v (by omega) (by omega), nI_v (by omega) (by omega), _, hle, ?_⟩
        rw [elow] at y1
        by_cases hp : ltP ke nm (2 * i + 2) (2 * i + 1) = true
        · rw [if_pos hp] at y1
          exact bz_y hp y1
        · rw [if_neg hp] at y1
          rw [nI_a0]
          exact bz_n hp y1
      · have elow : low ke nm m i c = (2 * i + 1, c) := if_neg h5
        obtain ⟨V', y1, y2, y3, y4⟩ := h102 (low ke nm m i c).1 (low ke nm m i c).2 hin.1 hin.2
        refine ⟨V', wX12_goDown_23 hK (bf one0 ⟨vs, ?_⟩), y2, y3, y4⟩
        rw [nI_c (show s < 100000 by omega), hR.2.1, d21, nI_1, nI_le' (by omega) (by omega)]
        refine bt (by omega) ?_
        rw [elow] at y1
        have e9 : up2 V 57 32 (nI c) = V := by rw [← h8, up2_self]
        simp only [e9] at y1
        exact y1
    · rw [if_neg hl, bI_f hl]
      exact ⟨V, wX12_goDown_23 hK (bt rfl ⟨rfl, rfl⟩), hR, h8, fr_rfl⟩
theorem c12_goDown (hK : StK K) {i c : Nat} (h2 : i < m) (hR : RowM s m nm V) (hk : mKe s ky nT ke V) (hn : ∀ i, i < m → nm i < nT) (h8 : V 57 32 = nI c) : ∃ V', Ev G (d + 3) mX12_goDown 0 [(0, .ref 57), (1, .int (nI s)), (2, .int (nI i))] (K, n, V, J, O) none (K, n, V', J, O) ∧ RowM s m (hdn ke m (m - i) nm i c).1 V' ∧ V' 57 32 = nI (hdn ke m (m - i) nm i c).2 ∧ fr (fun a k => (a = 72 ∧ 80 * s ≤ k ∧ k < 80 * s + 80) ∨ (a = 57 ∧ k = 32)) V V' := by
  have h80 := hR.1
  have hs := hk.1
  obtain ⟨V', z1, z2⟩ := c12_dn23 (G := G) (d := d) (n := n) (J := J) (O := O) (x2 := nI i) hK (m - i) nm i c V (Nat.le_refl _) h2 hR hk hn h8
  refine ⟨V', wX12_goDown_0 hK ⟨nI_v hs (by omega), ?_⟩, z2⟩
  rw [nI_c (show s < 100000 by omega), hR.2.1, d21, nI_le' (by omega) (by omega)]
  by_cases h5 : m ≤ 2 * i + 1
  · refine bt h5 ?_
    rw [bI_f (by omega)] at z1
    exact z1
  · refine bf h5 ?_
    rw [bI_t (by omega)] at z1
    exact z1
end
