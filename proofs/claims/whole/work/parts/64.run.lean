/-! ===== an ask through a stone, the reference: rows, heaps, sorted ones ===== -/
theorem tw_2 {x : Int32} {A2 A3 A4 A5 A6 A7 AD : Prop} (e : x = nI 2) (h : A2) : (x = 2 → A2) ∧ (x = 3 → A3) ∧ (x = 4 → A4) ∧ (x = 5 → A5) ∧ (x = 6 → A6) ∧ (x = 7 → A7) ∧ ((¬ x = 2 ∧ ¬ x = 3 ∧ ¬ x = 4 ∧ ¬ x = 5 ∧ ¬ x = 6 ∧ ¬ x = 7) → AD) := by
  subst e
  exact ⟨fun _ => h, fun e => absurd e (by decide), fun e => absurd e (by decide), fun e => absurd e (by decide), fun e => absurd e (by decide), fun e => absurd e (by decide), fun e => absurd rfl (e.1)⟩
theorem tw_3 {x : Int32} {A2 A3 A4 A5 A6 A7 AD : Prop} (e : x = nI 3) (h : A3) : (x = 2 → A2) ∧ (x = 3 → A3) ∧ (x = 4 → A4) ∧ (x = 5 → A5) ∧ (x = 6 → A6) ∧ (x = 7 → A7) ∧ ((¬ x = 2 ∧ ¬ x = 3 ∧ ¬ x = 4 ∧ ¬ x = 5 ∧ ¬ x = 6 ∧ ¬ x = 7) → AD) := by
  subst e
  exact ⟨fun e => absurd e (by decide), fun _ => h, fun e => absurd e (by decide), fun e => absurd e (by decide), fun e => absurd e (by decide), fun e => absurd e (by decide), fun e => absurd rfl (e.2.1)⟩
theorem tw_4 {x : Int32} {A2 A3 A4 A5 A6 A7 AD : Prop} (e : x = nI 4) (h : A4) : (x = 2 → A2) ∧ (x = 3 → A3) ∧ (x = 4 → A4) ∧ (x = 5 → A5) ∧ (x = 6 → A6) ∧ (x = 7 → A7) ∧ ((¬ x = 2 ∧ ¬ x = 3 ∧ ¬ x = 4 ∧ ¬ x = 5 ∧ ¬ x = 6 ∧ ¬ x = 7) → AD) := by
  subst e
  exact ⟨fun e => absurd e (by decide), fun e => absurd e (by decide), fun _ => h, fun e => absurd e (by decide), fun e => absurd e (by decide), fun e => absurd e (by decide), fun e => absurd rfl (e.2.2.1)⟩
theorem tw_5 {x : Int32} {A2 A3 A4 A5 A6 A7 AD : Prop} (e : x = nI 5) (h : A5) : (x = 2 → A2) ∧ (x = 3 → A3) ∧ (x = 4 → A4) ∧ (x = 5 → A5) ∧ (x = 6 → A6) ∧ (x = 7 → A7) ∧ ((¬ x = 2 ∧ ¬ x = 3 ∧ ¬ x = 4 ∧ ¬ x = 5 ∧ ¬ x = 6 ∧ ¬ x = 7) → AD) := by
  subst e
  exact ⟨fun e => absurd e (by decide), fun e => absurd e (by decide), fun e => absurd e (by decide), fun _ => h, fun e => absurd e (by decide), fun e => absurd e (by decide), fun e => absurd rfl (e.2.2.2.1)⟩
theorem tw_6 {x : Int32} {A2 A3 A4 A5 A6 A7 AD : Prop} (e : x = nI 6) (h : A6) : (x = 2 → A2) ∧ (x = 3 → A3) ∧ (x = 4 → A4) ∧ (x = 5 → A5) ∧ (x = 6 → A6) ∧ (x = 7 → A7) ∧ ((¬ x = 2 ∧ ¬ x = 3 ∧ ¬ x = 4 ∧ ¬ x = 5 ∧ ¬ x = 6 ∧ ¬ x = 7) → AD) := by
  subst e
  exact ⟨fun e => absurd e (by decide), fun e => absurd e (by decide), fun e => absurd e (by decide), fun e => absurd e (by decide), fun _ => h, fun e => absurd e (by decide), fun e => absurd rfl (e.2.2.2.2.1)⟩
theorem tw_7 {x : Int32} {A2 A3 A4 A5 A6 A7 AD : Prop} (e : x = nI 7) (h : A7) : (x = 2 → A2) ∧ (x = 3 → A3) ∧ (x = 4 → A4) ∧ (x = 5 → A5) ∧ (x = 6 → A6) ∧ (x = 7 → A7) ∧ ((¬ x = 2 ∧ ¬ x = 3 ∧ ¬ x = 4 ∧ ¬ x = 5 ∧ ¬ x = 6 ∧ ¬ x = 7) → AD) := by
  subst e
  exact ⟨fun e => absurd e (by decide), fun e => absurd e (by decide), fun e => absurd e (by decide), fun e => absurd e (by decide), fun e => absurd e (by decide), fun _ => h, fun e => absurd rfl (e.2.2.2.2.2)⟩
theorem tw_1 {x : Int32} {A2 A3 A4 A5 A6 A7 AD : Prop} (e : x = nI 1) (h : AD) : (x = 2 → A2) ∧ (x = 3 → A3) ∧ (x = 4 → A4) ∧ (x = 5 → A5) ∧ (x = 6 → A6) ∧ (x = 7 → A7) ∧ ((¬ x = 2 ∧ ¬ x = 3 ∧ ¬ x = 4 ∧ ¬ x = 5 ∧ ¬ x = 6 ∧ ¬ x = 7) → AD) := by
  subst e
  exact ⟨fun e => absurd e (by decide), fun e => absurd e (by decide), fun e => absurd e (by decide), fun e => absurd e (by decide), fun e => absurd e (by decide), fun e => absurd e (by decide), fun _ => h⟩
def frN : Nat → Nat → Prop := fun x k => x = 57 ∧ 29 ≤ k ∧ k ≤ 33
section
variable {G : Gp} {d : Nat} {K : SK} {n : Nat × Nat} {V V' : SV} {J : SJV} {O : SO} {r : Option Value}
variable {a b ci m nT A B t ky p sn kd : Nat} {q : QD} {fl : Nat → Nat → Nat} {s : RuS} {nm ke : Nat → Nat} {g : GS} {S : Nat → Prop}
theorem AkRunM_n (h : AkRunM p nT q fl A B V) (hf : fr frN V V') : AkRunM p nT q fl A B V' := AkRunM_fr h (fr_mo hf (fun x k q => by unfold frN at q; omega))
theorem RowM_n (h : RowM sn m nm V) (hf : fr frN V V') : RowM sn m nm V' := RowM_o h (fr_mo hf (fun x k q => by unfold frN at q; omega))
theorem mKe_n (h : mKe sn ky nT ke V) (hf : fr frN V V') : mKe sn ky nT ke V' := mKe_o h (fr_mo hf (fun x k q => by unfold frN at q; omega))
theorem frMs_N {x k : Nat} (h : frMs x k) : frN x k := by unfold frMs at h; unfold frN; omega
theorem look1 (h : V 57 33 = nI t) : fr frN V (up2 V 57 33 (V 57 33 + 1)) ∧ up2 V 57 33 (V 57 33 + 1) 57 33 = nI (t + 1) := ⟨fr_up fr_rfl ⟨rfl, by omega⟩, by rw [up2_s, h, nI_1]⟩
theorem RM_l (h : RM nT s V) {x : Int32} : RM nT s (up2 V 57 33 x) := RM_fr h (fr_up fr_rfl (fun _ => by omega))
theorem c12_seeAll2 (hK : StK K) (hs : sn < 10) (hn : ∀ i, i < m → nm i < nT) : ∀ (k i : Nat) (s : RuS) (c : Nat) (V : SV), i + k = m → RowM sn m nm V → AkRunM p nT q fl A B V → RM nT s V → V 57 33 = nI c → ∃ V', Ev G (d + 3) mX12_seeAll 2 [(0, .ref 57), (1, .int (nI p)), (2, .int (nI sn)), (3, .int (nI i))] (K, n, V, J, O) none (K, n, V', J, O) ∧ RM nT (itr (stp q fl A B (qr q) nm) k i s) V' ∧ V' 57 33 = nI (c + k) ∧ fr frN V V' := by
  intro k
  induction k with
  | zero =>
    intro i s c V e hR hA hS h8
    have h80 := hR.1
    refine ⟨V, wX12_seeAll_2 hK ⟨nI_v hs (by omega), ?_⟩, hS, h8, fr_rfl⟩
    rw [nI_c (by omega)]
    exact bt (lp_out hR.2.1 (by omega) (by omega)) ⟨rfl, rfl⟩
  | succ k ih =>
    intro i s c V e hR hA hS h8
    have h80 := hR.1
    have him : i < m := by omega
    obtain ⟨l1, l2⟩ := look1 h8
    obtain ⟨V1, z1, z2, z3⟩ := c12_see (G := G) (d := d) (n := n) (J := J) (O := O) hK (AkRunM_n hA l1) (RM_l hS (x := V 57 33 + 1)) (hn i him)
    have f1 : fr frN V V1 := fr_mo (fr_tr l1 z3) (fun x k q => q.elim id frMs_N)
    obtain ⟨V2, y1, y2, y3, y4⟩ := ih (i + 1) _ (c + 1) V1 (by omega) (RowM_n hR f1) (AkRunM_n hA f1) z2 (by rw [z3 _ _ (by unfold frMs; omega), l2])
    refine ⟨V2, wX12_seeAll_2 hK ⟨nI_v hs (by omega), ?_⟩, y2, by rw [y3]; congr 1; omega, fr_mo (fr_tr f1 y4) (fun x k q => q.elim id id)⟩
    rw [nI_c (show sn < 100000 by omega), ix80, nI_c (show 80 * sn + i < 100000 by omega), (hR.2.2 i him).1, nI_1]
    exact bf (lp_in hR.2.1 (by omega) (by omega)) ⟨nI_v (by omega) (by omega), V1, z1, y1⟩
theorem c12_seeAll (hK : StK K) (hs : sn < 10) (hn : ∀ i, i < m → nm i < nT) (hR : RowM sn m nm V) (hA : AkRunM p nT q fl A B V) (hS : RM nT s V) (h33 : V 57 33 = nI 0) : ∃ V', Ev G (d + 3) mX12_seeAll 0 [(0, .ref 57), (1, .int (nI p)), (2, .int (nI sn))] (K, n, V, J, O) none (K, n, V', J, O) ∧ RM nT (itr (stp q fl A B (qr q) nm) m 0 s) V' ∧ V' 57 33 = nI m ∧ fr frN V V' := by
  obtain ⟨V1, z1, z2, z3, z4⟩ := c12_seeAll2 (G := G) (d := d) (n := n) (J := J) (O := O) hK hs hn m 0 s 0 V (by omega) hR hA hS h33
  exact ⟨V1, wX12_seeAll_0 hK z1, z2, by rw [z3, Nat.zero_add], z4⟩
/-- the end of it -/
theorem c12_242 (hK : StK K) (hA : AkRunM p nT q fl A B V) (hS : RM nT s V) {x3 x4 : Int32} : Ev G (d + 1) mX12_throughOf 242 [(0, .ref 57), (1, .int (nI sn)), (2, .int (nI p)), (3, .int x3), (4, .int x4)] (K, n, V, J, O) (some (.int (rsl (qw q) s))) (K, n, V, J, O) := wX12_throughOf_242 hK ⟨_, c12_told hK hA.1 hA.2.2.2.2.2.2 hA.2.1.2.1 hS, rfl, rfl⟩
theorem frV_b {x k : Nat} (h : x = 57 ∧ ((27 ≤ k ∧ k ≤ 31) ∨ k = 33)) : frV x k := by unfold frV; omega
theorem frN_V {x k : Nat} (h : frN x k) : frV x k := by unfold frN at h; unfold frV; omega
theorem frV2 {V1 V2 : SV} (h1 : fr (fun x k => x = 57 ∧ ((27 ≤ k ∧ k ≤ 31) ∨ k = 33)) V V1) (h2 : fr frN V1 V2) : fr frV V V2 := fr_mo (fr_tr h1 h2) (fun x k q => q.elim frV_b frN_V)
theorem m1_run (hK : StK K) (hs : sn < 10) (hn : ∀ i, i < m → nm i < nT) : tyM G (d + 4) K 1 sn p ky nT q fl A B (RowM sn m nm) (rsl (qw q) (itr (stp q fl A B (qr q) nm) m 0 (0, 0, none))) m := fun n J O V h1 h2 h3 h4 h5 h6 h7 h8 h9 => by
  obtain ⟨V1, z1, z2, z3, z4, z5⟩ := c12_begin (G := G) (d := d + 3) (n := n) (J := J) (O := O) hK h1 h2 h3 h4 h5 h6
  obtain ⟨V2, y1, y2, y3, y4⟩ := c12_seeAll (G := G) (d := d) (n := n) (J := J) (O := O) hK hs hn (RowM_o h9 (fr_mo z5 (fun x k q => by omega))) z2 z3 z4
  refine ⟨V2, wX12_throughOf_0 hK ⟨V1, z1, nI_v hs (by omega), ?_⟩, y3, frV2 z5 y4⟩
  rw [nI_c (by omega), z5 _ _ (by omega)]
  exact tw_1 h8 ⟨V2, y1, c12_242 hK (AkRunM_n z2 y4) y2⟩
theorem m3_run (hK : StK K) (hs : sn < 10) (hky : ky < 4) (hn : ∀ i, i < m → nm i < nT) : tyM G (d + 5) K 3 sn p ky nT q fl A B (RowM sn m nm) (if qm q = 0 ∧ qw q = 109 ∧ qr q = ky then moI (if 0 < m then some (nm 0) else none) else rsl (qw q) (itr (stp q fl A B (qr q) nm) m 0 (0, 0, none))) (if qm q = 0 ∧ qw q = 109 ∧ qr q = ky then (if 0 < m then 1 else 0) else m) := fun n J O V h1 h2 h3 h4 h5 h6 h7 h8 h9 => by
  obtain ⟨V1, z1, z2, z3, z4, z5⟩ := c12_begin (G := G) (d := d + 4) (n := n) (J := J) (O := O) hK h1 h2 h3 h4 h5 h6
  have hm := h1.1.1
  have hw := h1.2.1
  have hr := h1.2.2.2.1
  have h80 := h9.1
  have hvp : vp_in (nI p) 10 := nI_v h6 (by omega)
  have hvs : vp_in (nI sn) 10 := nI_v hs (by omega)
  have e70 : V1 70 sn = nI 3 := by rw [z5 _ _ (by omega)]; exact h8
  have e71 : V1 71 sn = nI ky := by rw [z5 _ _ (by omega)]; exact h7.2.2.2.1
  have e73 : V1 73 sn = nI m := by rw [z5 _ _ (by omega)]; exact h9.2.1
  have start := fun (V' : SV) (r : Option Value) hh => wX12_throughOf_0 (G := G) (d := d + 4) (K := K) (n := n) (V := V) (V' := V') (J := J) (O := O) (r := r) (x1 := nI sn) (x2 := nI p) (x3 := nI A) (x4 := nI B) hK ⟨V1, z1, hvs, tw_3 (by rw [nI_c (show sn < 100000 by omega)]; exact e70) ⟨hvp, hh⟩⟩
  rw [nI_c (show sn < 100000 by omega), nI_c (show p < 100000 by omega), e71, e73, z2.2.1.1, z2.2.1.2.1, z2.2.1.2.2.1] at start
  by_cases c : qm q = 0 ∧ qw q = 109 ∧ qr q = ky
  · rw [if_pos c, if_pos c]
    obtain ⟨c1, c2, c3⟩ := c
    by_cases h0 : 0 < m
    · have hnm : ¬ nI m ≤ 0 := by
        show ¬ nI m ≤ nI 0
        rw [nI_le' (by omega) (by omega)]
        omega
      rw [if_pos h0, if_pos h0]
      refine ⟨up2 V1 57 33 1, start _ _ (nf (leqI (c := 109) rfl c2) ⟨hvp, hvs, nf (leqI rfl c3) ⟨hvp, nf (leqI (c := 0) rfl c1) ⟨hvs, bf hnm ⟨hvs, bf hnm ⟨?_, ?_, rfl⟩⟩⟩⟩⟩), up2_s, ?_⟩
      · rw [show (80 : Int32) * nI sn = nI (80 * sn) from by rw [show (80 : Int32) = nI 80 from rfl, nI_mul]]
        exact nI_v (by omega) (by omega)
      · rw [show (80 : Int32) * nI sn = nI (80 * sn) from by rw [show (80 : Int32) = nI 80 from rfl, nI_mul], nI_c (by omega), z5 _ _ (by omega)]
        have := (h9.2.2 0 h0).1
        rw [Nat.add_zero] at this
        rw [this]
        rfl
      · exact fr_mo (fr_tr z5 (fr_up fr_rfl ⟨rfl, rfl⟩ : fr (fun x k => x = 57 ∧ k = 33) V1 _)) (fun x k q => by unfold frV; omega)
    · have hnm : nI m ≤ 0 := by
        show nI m ≤ nI 0
        rw [nI_le' (by omega) (by omega)]
        omega
      rw [if_neg h0, if_neg h0]
      refine ⟨up2 V1 57 33 0, start _ _ (nf (leqI (c := 109) rfl c2) ⟨hvp, hvs, nf (leqI rfl c3) ⟨hvp, nf (leqI (c := 0) rfl c1) ⟨hvs, bt hnm ⟨hvs, bt hnm ⟨rfl, rfl⟩⟩⟩⟩⟩), up2_s, ?_⟩
      exact fr_mo (fr_tr z5 (fr_up fr_rfl ⟨rfl, rfl⟩ : fr (fun x k => x = 57 ∧ k = 33) V1 _)) (fun x k q => by unfold frV; omega)
  · rw [if_neg c, if_neg c]
    obtain ⟨V2, y1, y2, y3, y4⟩ := c12_seeAll (G := G) (d := d + 1) (n := n) (J := J) (O := O) hK hs hn (RowM_o h9 (fr_mo z5 (fun x k q => by omega))) z2 z3 z4
    have z164 : Ev G (d + 5) mX12_throughOf 164 [(0, .ref 57), (1, .int (nI sn)), (2, .int (nI p)), (3, .int (nI A)), (4, .int (nI B))] (K, n, V1, J, O) (some (.int (rsl (qw q) (itr (stp q fl A B (qr q) nm) m 0 (0, 0, none))))) (K, n, V2, J, O) := wX12_throughOf_164 hK ⟨V2, y1, c12_242 hK (AkRunM_n z2 y4) y2⟩
    refine ⟨V2, start _ _ ?_, y3, frV2 z5 y4⟩
    by_cases c2 : qw q = 109
    · refine nf (leqI (c := 109) rfl c2) ⟨hvp, hvs, ?_⟩
      by_cases c3 : qr q = ky
      · refine nf (leqI rfl c3) ⟨hvp, ?_⟩
        exact nt (lne (c := 0) rfl (by omega) (by omega) (fun c1 => c ⟨c1, c2, c3⟩)) z164
      · exact nt (lne rfl (by omega) (by omega) c3) z164
    · exact nt (lne (c := 109) rfl (by omega) (by omega) c2) z164
theorem c12_sorted48 (hK : StK K) (hs : sn < 10) (hky : ky < 4) (hn : ∀ i, i < m → nm i < nT) : ∀ (k i : Nat) (s : RuS) (c : Nat) (V : SV), i + k = m → RowM sn m nm V → mKe sn ky nT (fl ky) V → AkRunM p nT q fl A B V → RM nT s V → V 57 33 = nI c → ∃ V', Ev G (d + 3) mX12_seeSorted 48 [(0, .ref 57), (1, .int (nI p)), (2, .int (nI sn)), (3, .int (nI i)), (4, .int (bI (i < m)))] (K, n, V, J, O) none (K, n, V', J, O) ∧ RM nT (srtR q fl A B (qr q) (fl ky) nm (hiE q A B ky) k i s c).1 V' ∧ V' 57 33 = nI (srtR q fl A B (qr q) (fl ky) nm (hiE q A B ky) k i s c).2 ∧ fr frN V V' := by
  have hh := hiE_le (q := q) (A := A) (B := B) (ky := ky)
  intro k
  induction k with
  | zero =>
    intro i s c V e hR hk hA hS h8
    rw [bI_f (show ¬ i < m by omega)]
    exact ⟨V, wX12_seeSorted_48 hK (bt rfl ⟨rfl, rfl⟩), hS, h8, fr_rfl⟩
  | succ k ih =>
    intro i s c V e hR hk hA hS h8
    have h80 := hR.1
    have hnT := hA.2.2.2.1.1
    have him : i < m := by omega
    have hni := hn i him
    have hk1 := hA.2.2.2.1.2 ky (nm i) hky hni
    rw [bI_t him]
    obtain ⟨l1, l2⟩ := look1 h8
    have hin : vp_in (nI (80 * sn + i)) 800 := nI_v (by omega) (by omega)
    have y1 := c12_keyIn (G := G) (d := d + 2) (n := n) (J := J) (O := O) hK (mKe_n hk l1) hni
    have y2 := c12_mostOf (G := G) (d := d + 1) (n := n) (J := J) (O := O) hK (AkRunM_n hA l1) hs hky (mKe_n hk l1).2.2.2.1
    unfold srtR
    by_cases c1 : fl ky (nm i) < hiE q A B ky
    · rw [if_pos c1]
      obtain ⟨V1, z1, z2, z3⟩ := c12_see (G := G) (d := d) (n := n) (J := J) (O := O) hK (AkRunM_n hA l1) (RM_l hS (x := V 57 33 + 1)) hni
      have f1 : fr frN V V1 := fr_mo (fr_tr l1 z3) (fun x k q => q.elim id frMs_N)
      have hR1 := RowM_n hR f1
      obtain ⟨V2, w1, w2, w3, w4⟩ := ih (i + 1) _ (c + 1) V1 (by omega) hR1 (mKe_n hk f1) (AkRunM_n hA f1) z2 (by rw [z3 _ _ (by unfold frMs; omega), l2])
      refine ⟨V2, wX12_seeSorted_48 hK (bf one0 ?_), w2, w3, fr_mo (fr_tr f1 w4) (fun x k q => q.elim id id)⟩
      rw [nI_c (show sn < 100000 by omega), ix80, nI_c (show 80 * sn + i < 100000 by omega), (hR.2.2 i him).1, nI_1]
      refine ⟨hin, _, y1, _, y2, ?_⟩
      rw [pr_ltx (by omega) (by omega)]
      refine ⟨fun z => absurd c1 z, fun _ => ⟨V1, z1, nI_v hs (by omega), ?_⟩⟩
      rw [hR1.2.1, nI_le' (by omega) (by omega)]
      by_cases c2 : i + 1 < m
      · rw [bI_t c2] at w1
        exact bf (by omega) w1
      · rw [bI_f c2] at w1
        exact bt (by omega) w1
    · rw [if_neg c1]
      refine ⟨_, wX12_seeSorted_48 hK (bf one0 ?_), RM_l hS, l2, l1⟩
      rw [ix80, nI_c (show 80 * sn + i < 100000 by omega), (hR.2.2 i him).1]
      refine ⟨hin, _, y1, _, y2, ?_⟩
      rw [pr_ltx (by omega) (by omega)]
      exact ⟨fun _ => wX12_seeSorted_48 hK (bt rfl ⟨rfl, rfl⟩), fun z => absurd c1 z⟩
theorem c12_seeSorted (hK : StK K) (hs : sn < 10) (hky : ky < 4) (hn : ∀ i, i < m → nm i < nT) (hR : RowM sn m nm V) (hk : mKe sn ky nT (fl ky) V) (hA : AkRunM p nT q fl A B V) (hS : RM nT (0, 0, none) V) (h33 : V 57 33 = nI 0) : ∃ V', Ev G (d + 3) mX12_seeSorted 0 [(0, .ref 57), (1, .int (nI p)), (2, .int (nI sn))] (K, n, V, J, O) none (K, n, V', J, O) ∧ RM nT (srtA q fl A B (qr q) ky m nm).1 V' ∧ V' 57 33 = nI (srtA q fl A B (qr q) ky m nm).2 ∧ fr frN V V' := by
  have h80 := hR.1
  have f0 : fr frN V (up2 V 57 32 0) := fr_up fr_rfl ⟨rfl, by omega⟩
  have hl := loE_le hA.1 (ky := ky) hA.2.2.2.2.1 hA.2.2.2.2.2.1
  have y1 := c12_leastOf (G := G) (d := d + 1) (n := n) (J := J) (O := O) hK (AkRunM_n hA f0) hs hky (mKe_n hk f0).2.2.2.1
  have y2 := c12_placeOf (G := G) (d := d) (n := n) (J := J) (O := O) (c := 0) (o := none) hK (v := loE q A B ky) (by omega) (fun u e => by cases e) (RowM_n hR f0) (mKe_n hk f0) hn up2_s
  have hp := loP_le (ke := fl ky) (nm := nm) (m := m) (lo := loE q A B ky) (c := 0)
  unfold srtA
  generalize hV2 : up2 (up2 V 57 32 0) 57 32 (nI (bs (fun i => ah (fl ky) (loE q A B ky) none (nm i)) m 0 m 0).2) = V2 at y2
  have f2 : fr frN V V2 := hV2 ▸ fr_up f0 ⟨rfl, by omega⟩
  have e32 : V2 57 32 = nI (loP (fl ky) nm m (loE q A B ky) 0).2 := by rw [← hV2, up2_s]; rfl
  have e33 : V2 57 33 = nI 0 := by rw [← hV2, up2_k (by decide), up2_k (by decide)]; exact h33
  have f3 : fr frN V (up2 V2 57 33 (V2 57 33 + V2 57 32)) := fr_up f2 ⟨rfl, by omega⟩
  have f30 : fr (fun x k => x = 57 ∧ (k = 32 ∨ k = 33)) V (up2 V2 57 33 (V2 57 33 + V2 57 32)) := by
    rw [← hV2]
    exact fr_up (fr_up (fr_up fr_rfl ⟨rfl, Or.inl rfl⟩) ⟨rfl, Or.inl rfl⟩) ⟨rfl, Or.inr rfl⟩
  obtain ⟨V4, w1, w2, w3, w4⟩ := c12_sorted48 (G := G) (d := d) (n := n) (J := J) (O := O) (q := q) (A := A) (B := B) (p := p) hK hs hky hn (m - (loP (fl ky) nm m (loE q A B ky) 0).1) (loP (fl ky) nm m (loE q A B ky) 0).1 (0, 0, none) (loP (fl ky) nm m (loE q A B ky) 0).2 (up2 V2 57 33 (V2 57 33 + V2 57 32)) (by omega) (RowM_n hR f3) (mKe_n hk f3) (AkRunM_n hA f3) (RM_fr hS (fr_mo f30 (fun x k q => by omega))) (by rw [up2_s, e32, e33, nI_add, Nat.zero_add])
  refine ⟨V4, wX12_seeSorted_0 hK ⟨_, y1, _, V2, y2, nI_v hs (by omega), ?_⟩, w2, w3, fr_mo (fr_tr f3 w4) (fun x k q => q.elim id id)⟩
  rw [nI_c (by omega), (RowM_n hR f2).2.1, nI_le' (by omega) (by unfold loP at hp; omega)]
  by_cases c : (loP (fl ky) nm m (loE q A B ky) 0).1 < m
  · rw [bI_t c] at w1
    exact bf (by unfold loP at c; omega) w1
  · rw [bI_f c] at w1
    exact bt (by unfold loP at c; omega) w1
theorem m2_run (hK : StK K) (hs : sn < 10) (hky : ky < 4) (hn : ∀ i, i < m → nm i < nT) : tyM G (d + 4) K 2 sn p ky nT q fl A B (RowM sn m nm) (rsl (qw q) (srtA q fl A B (qr q) ky m nm).1) (srtA q fl A B (qr q) ky m nm).2 := fun n J O V h1 h2 h3 h4 h5 h6 h7 h8 h9 => by
  obtain ⟨V1, z1, z2, z3, z4, z5⟩ := c12_begin (G := G) (d := d + 3) (n := n) (J := J) (O := O) hK h1 h2 h3 h4 h5 h6
  obtain ⟨V2, y1, y2, y3, y4⟩ := c12_seeSorted (G := G) (d := d) (n := n) (J := J) (O := O) hK hs hky hn (RowM_o h9 (fr_mo z5 (fun x k q => by omega))) (mKe_o h7 (fr_mo z5 (fun x k q => by omega))) z2 z3 z4
  refine ⟨V2, wX12_throughOf_0 hK ⟨V1, z1, nI_v hs (by omega), ?_⟩, y3, frV2 z5 y4⟩
  rw [nI_c (by omega), z5 _ _ (by omega)]
  exact tw_2 h8 ⟨V2, y1, c12_242 hK (AkRunM_n z2 y4) y2⟩
end
