/-! ===== asks: what they say; the class ===== -/
/-- conditions (field, sign, value), how many; what is asked; its field in the class and in the reference -/
abbrev QD : Type := (Nat × (Nat → Nat × Nat × Nat)) × Nat × Nat × Nat
abbrev qm (q : QD) : Nat := q.1.1
abbrev qf (q : QD) (i : Nat) : Nat := (q.1.2 i).1
abbrev qs (q : QD) (i : Nat) : Nat := (q.1.2 i).2.1
abbrev qv (q : QD) (i : Nat) : Nat := (q.1.2 i).2.2
abbrev qw (q : QD) : Nat := q.2.1
abbrev qc (q : QD) : Nat := q.2.2.1
abbrev qr (q : QD) : Nat := q.2.2.2
def Qok (q : QD) : Prop := (qm q ≤ 15 ∧ ∀ i, i < qm q → qf q i < 4 ∧ (qs q i = 60 ∨ qs q i = 61 ∨ qs q i = 62) ∧ qv q i ≤ 101) ∧ (qw q = 109 ∨ qw q = 110 ∨ qw q = 115 ∨ qw q = 120) ∧ qc q < 4 ∧ qr q < 4 ∧ (qw q ≠ 110 → qc q = qr q)
def QC (a : Nat) (q : QD) (V : SV) : Prop := V a 4 = nI (qm q) ∧ V a 5 = nI (qw q) ∧ V a 6 = nI (qc q) ∧ ∀ i, i < qm q → V (a + 1) i = nI (qf q i) ∧ V (a + 2) i = nI (qs q i) ∧ V (a + 3) i = nI (qv q i)
def QM (p : Nat) (q : QD) (V : SV) : Prop := V 66 p = nI (qm q) ∧ V 67 p = nI (qw q) ∧ V 68 p = nI (qr q) ∧ ∀ i, i < qm q → V 63 (16 * p + i) = nI (qf q i) ∧ V 64 (16 * p + i) = nI (qs q i) ∧ V 65 (16 * p + i) = nI (qv q i)
def wv (v A B : Nat) : Nat := if v = 100 then A else if v = 101 then B else v
theorem wv_le {v A B : Nat} (hv : v ≤ 101) (hA : A ≤ 99) (hB : B ≤ 99) : wv v A B ≤ 99 := by
  unfold wv
  split
  · exact hA
  · split
    · exact hB
    · omega
def qwt (q : QD) (A B i : Nat) : Nat := wv (qv q i) A B
def cmpB (sg v w : Nat) : Bool := if sg = 61 then decide (v = w) else if sg = 60 then decide (v < w) else decide (w < v)
/-- whether all conditions hold for a thing -/
def hq (q : QD) (fl : Nat → Nat → Nat) (A B t : Nat) : Bool := !anyF (fun i => !cmpB (qs q i) (fl (qf q i) t) (qwt q A B i)) (qm q) 0
def bet (w v vb t b : Nat) : Bool := if v = vb then decide (t < b) else if w = 109 then decide (v < vb) else decide (vb < v)
/-- what has been seen: how many, the sum, the best -/
abbrev RuS : Type := Nat × Nat × Option Nat
def sstep (h : Nat → Bool) (v : Nat → Nat) (w : Nat) (s : RuS) (t : Nat) : RuS := if h t = true then (s.1 + 1, s.2.1 + v t, some (match s.2.2 with
  | none => t
  | some b => if bet w (v t) (v b) t b = true then t else b)) else s
theorem sstep_y {h : Nat → Bool} {v : Nat → Nat} {w t : Nat} {s : RuS} (e : h t = true) : sstep h v w s t = (s.1 + 1, s.2.1 + v t, some (match s.2.2 with
  | none => t
  | some b => if bet w (v t) (v b) t b = true then t else b)) := if_pos e
theorem sstep_n {h : Nat → Bool} {v : Nat → Nat} {w t : Nat} {s : RuS} (e : ¬ h t = true) : sstep h v w s t = s := if_neg e
def rsl (w : Nat) (s : RuS) : Int32 := if w = 110 then nI s.1 else if w = 115 then nI s.2.1 else moI s.2.2
def LC (a A B : Nat) (V : SV) : Prop := V a 7 = nI A ∧ V a 8 = nI B
def LM (A B : Nat) (V : SV) : Prop := V 57 27 = nI A ∧ V 57 28 = nI B
def RC (a nT : Nat) (v : Nat → Nat) (s : RuS) (V : SV) : Prop := V a 9 = nI s.1 ∧ V a 10 = nI s.2.1 ∧ V a 11 = moI s.2.2 ∧ ∀ b, s.2.2 = some b → b < nT ∧ V a 12 = nI (v b)
def RM (nT : Nat) (s : RuS) (V : SV) : Prop := V 57 29 = nI s.1 ∧ V 57 31 = nI s.2.1 ∧ V 57 30 = moI s.2.2 ∧ ∀ b, s.2.2 = some b → b < nT
def FC (nT : Nat) (fl : Nat → Nat → Nat) (V : SV) : Prop := nT ≤ 80 ∧ ∀ f t, f < 4 → t < nT → V (4 + 1 + f) t = nI (fl f t) ∧ fl f t < 100
def FM (nT : Nat) (fl : Nat → Nat → Nat) (V : SV) : Prop := nT ≤ 80 ∧ ∀ f t, f < 4 → t < nT → V 58 (4 * t + f) = nI (fl f t) ∧ fl f t < 100
theorem lne {v c : Nat} {x : Int32} (e : x = nI c) (hv : v < 100000) (hc : c < 100000) (h : v ≠ c) : nI v ≠ x := by
  rw [e, ne_eq, nI_e' hv hc]
  exact h
theorem leqI {v c : Nat} {x : Int32} (e : x = nI c) (h : v = c) : nI v = x := by rw [e, h]
theorem si_t {p : Prop} [Decidable p] (h : p) : (some (Value.int (bI p)) : Option Value) = some (.int 1) := by rw [bI_t h]
theorem si_f {p : Prop} [Decidable p] (h : ¬ p) : (some (Value.int (bI p)) : Option Value) = some (.int 0) := by rw [bI_f h]
section
variable {G : Gp} {d : Nat} {K : SK} {n : Nat × Nat} {V V' : SV} {J : SJV} {O : SO} {r : Option Value}
variable {a nT A B t : Nat} {q : QD} {fl : Nat → Nat → Nat} {s : RuS}
theorem c8_val (hK : StK K) (h : FC nT fl V) {t f : Nat} (ht : t < nT) (hf : f < 4) : Ev G d mX8_value 0 [(0, .ref 1), (1, .int (nI t)), (2, .int (nI f))] (K, n, V, J, O) (some (.int (nI (fl f t)))) (K, n, V, J, O) := by
  have h80 : t < 80 := by have := h.1; omega
  refine wX8_value_0 hK ⟨nI_v hf (by decide), nI_v h80 (by decide), ?_⟩
  rw [nI_c (by omega), nI_c (by omega), (h.2 f t hf ht).1]
theorem c0_wanted (hK : StK K) (ha : IsAk K a) (hq : Qok q) (hC : QC a q V) (hL : LC a A B V) {i : Nat} (hi : i < qm q) : Ev G d mX0_wanted 0 [(0, .ref a), (1, .int (nI i))] (K, n, V, J, O) (some (.int (nI (qwt q A B i)))) (K, n, V, J, O) := by
  have hm := hq.1.1
  have hv := (hq.1.2 i hi).2.2
  have e := (hC.2.2.2 i hi).2.2
  have hin : vp_in (nI i) 15 := nI_v (by omega) (by omega)
  refine wX0_wanted_0 hK ha ⟨hin, ?_⟩
  rw [nI_c (by omega), e]
  unfold qwt wv
  by_cases h1 : qv q i = 100
  · refine nf (leqI (c := 100) rfl h1) ?_
    rw [if_pos h1, hL.1]
  · refine nt (lne (c := 100) rfl (by omega) (by omega) h1) ⟨hin, ?_⟩
    rw [if_neg h1]
    by_cases h2 : qv q i = 101
    · refine nf (leqI (c := 101) rfl h2) ?_
      rw [if_pos h2, hL.2]
    · refine nt (lne (c := 101) rfl (by omega) (by omega) h2) ⟨hin, ?_⟩
      rw [if_neg h2]
theorem c0_holds (hK : StK K) (ha : IsAk K a) (hq : Qok q) (hC : QC a q V) (hL : LC a A B V) (hA : A ≤ 99) (hB : B ≤ 99) {i v : Nat} (hi : i < qm q) (hv : v < 1000) : Ev G (d + 1) mX0_holds 0 [(0, .ref a), (1, .int (nI i)), (2, .int (nI v))] (K, n, V, J, O) (some (.int (bI (cmpB (qs q i) v (qwt q A B i) = true)))) (K, n, V, J, O) := by
  have hm := hq.1.1
  have hs := (hq.1.2 i hi).2.1
  have hw : qwt q A B i ≤ 99 := wv_le (hq.1.2 i hi).2.2 hA hB
  have e := (hC.2.2.2 i hi).2.1
  have w := fun (h : Unit) => c0_wanted (G := G) (d := d) (n := n) (J := J) (O := O) hK ha hq hC hL hi
  refine wX0_holds_0 hK ha ⟨nI_v (by omega) (by omega), ?_⟩
  rw [nI_c (by omega), e]
  unfold cmpB
  rcases hs with h | h | h
  · refine ⟨fun _ => ⟨_, w (), ?_⟩, fun z => absurd z (lne (c := 61) rfl (by omega) (by omega) (by omega)), fun z => absurd (leqI (c := 60) rfl h) z.1⟩
    rw [if_neg (by omega), if_pos h, nI_le' (by omega) (by omega)]
    by_cases c : v < qwt q A B i
    · exact bf (by omega) (si_t (by simpa using c))
    · exact bt (by omega) (si_f (by simpa using c))
  · refine ⟨fun z => absurd z (lne (c := 60) rfl (by omega) (by omega) (by omega)), fun _ => ⟨_, w (), ?_⟩, fun z => absurd (leqI (c := 61) rfl h) z.2⟩
    rw [if_pos h, nI_ne (by omega) (by omega), nI_eq' (by omega) (by omega)]
    by_cases c : v = qwt q A B i
    · exact nf c (si_t (by simpa using c))
    · exact nt c (si_f (by simpa using c))
  · refine ⟨fun z => absurd z (lne (c := 60) rfl (by omega) (by omega) (by omega)), fun z => absurd z (lne (c := 61) rfl (by omega) (by omega) (by omega)), fun _ => ⟨_, w (), ?_⟩⟩
    rw [if_neg (by omega), if_neg (by omega), nI_le' (by omega) (by omega)]
    by_cases c : qwt q A B i < v
    · exact bf (by omega) (si_t (by simpa using c))
    · exact bt (by omega) (si_f (by simpa using c))
theorem c0_isBetter (hK : StK K) (ha : IsAk K a) {w v vb b : Nat} (hw : w < 1000) (hv : v < 1000) (hvb : vb < 1000) (ht : t < 1000) (hb : b < 1000) (h5 : V a 5 = nI w) (h11 : V a 11 = nI b) (h12 : V a 12 = nI vb) : Ev G d mX0_isBetter 0 [(0, .ref a), (1, .int (nI v)), (2, .int (nI t))] (K, n, V, J, O) (some (.int (bI (bet w v vb t b = true)))) (K, n, V, J, O) := by
  refine wX0_isBetter_0 hK ha ?_
  rw [h5, h11, h12, nI_ne (by omega) (by omega), nI_eq' (by omega) (by omega), nI_le' (by omega) (by omega), nI_le' (by omega) (by omega), nI_le' (by omega) (by omega)]
  unfold bet
  by_cases h1 : v = vb
  · refine nf h1 ?_
    rw [if_pos h1]
    by_cases c : t < b
    · exact bf (by omega) (si_t (by simpa using c))
    · exact bt (by omega) (si_f (by simpa using c))
  · refine nt h1 ?_
    rw [if_neg h1]
    by_cases h2 : w = 109
    · refine nf (leqI (c := 109) rfl h2) ?_
      rw [if_pos h2]
      by_cases c : v < vb
      · exact bf (by omega) (si_t (by simpa using c))
      · exact bt (by omega) (si_f (by simpa using c))
    · refine nt (lne (c := 109) rfl (by omega) (by omega) h2) ?_
      rw [if_neg h2]
      by_cases c : vb < v
      · exact bf (by omega) (si_t (by simpa using c))
      · exact bt (by omega) (si_f (by simpa using c))
theorem QC_fr (h : QC a q V) (hf : fr (fun x k => x ≠ a + 1 ∧ x ≠ a + 2 ∧ x ≠ a + 3 ∧ (x = a → 7 ≤ k)) V V') : QC a q V' := ⟨by rw [hf _ _ (by omega)]; exact h.1, by rw [hf _ _ (by omega)]; exact h.2.1, by rw [hf _ _ (by omega)]; exact h.2.2.1, fun i hi => by rw [hf _ _ (by omega), hf _ _ (by omega), hf _ _ (by omega)]; exact h.2.2.2 i hi⟩
theorem LC_fr (h : LC a A B V) (hf : fr (fun x k => x = a → 9 ≤ k) V V') : LC a A B V' := ⟨by rw [hf _ _ (by omega)]; exact h.1, by rw [hf _ _ (by omega)]; exact h.2⟩
theorem FC_fr (h : FC nT fl V) (hf : fr (fun x _ => ¬ (5 ≤ x ∧ x ≤ 8)) V V') : FC nT fl V' := ⟨h.1, fun f t h1 h2 => by rw [hf _ _ (by omega)]; exact h.2 f t h1 h2⟩
theorem RC_fr {v : Nat → Nat} (h : RC a nT v s V) (hf : fr (fun x k => x = a → k < 9) V V') : RC a nT v s V' := ⟨by rw [hf _ _ (by omega)]; exact h.1, by rw [hf _ _ (by omega)]; exact h.2.1, by rw [hf _ _ (by omega)]; exact h.2.2.1, fun b hb => ⟨(h.2.2.2 b hb).1, by rw [hf _ _ (by omega)]; exact (h.2.2.2 b hb).2⟩⟩
/-- the ask, the letters, the things: all that seeing needs -/
def AkRun (a nT : Nat) (q : QD) (fl : Nat → Nat → Nat) (A B : Nat) (V : SV) : Prop := Qok q ∧ QC a q V ∧ LC a A B V ∧ FC nT fl V ∧ A ≤ 99 ∧ B ≤ 99 ∧ 96 ≤ a
theorem AkRun_fr (h : AkRun a nT q fl A B V) (hf : fr (fun x k => ¬ (5 ≤ x ∧ x ≤ 8) ∧ x ≠ a + 1 ∧ x ≠ a + 2 ∧ x ≠ a + 3 ∧ (x = a → 9 ≤ k)) V V') : AkRun a nT q fl A B V' := ⟨h.1, QC_fr h.2.1 (fr_mo hf (fun x k q => by omega)), LC_fr h.2.2.1 (fr_mo hf (fun x k q => by omega)), FC_fr h.2.2.2.1 (fr_mo hf (fun x k q => by omega)), h.2.2.2.2⟩
def frA (a : Nat) : Nat → Nat → Prop := fun x k => x = a ∧ 9 ≤ k
theorem c0_see2 (hK : StK K) (ha : IsAk K a) (hR : AkRun a nT q fl A B V) (hS : RC a nT (fl (qc q)) s V) (ht : t < nT) : ∀ (k i : Nat), i + k = qm q → anyF (fun i => !cmpB (qs q i) (fl (qf q i) t) (qwt q A B i)) k i = (!hq q fl A B t) → ∃ V', Ev G (d + 2) mX0_see 2 [(0, .ref a), (1, .ref 1), (2, .int (nI t)), (3, .int (nI i))] (K, n, V, J, O) none (K, n, V', J, O) ∧ RC a nT (fl (qc q)) (sstep (hq q fl A B) (fl (qc q)) (qw q) s t) V' ∧ fr (frA a) V V' := by
  obtain ⟨h1, h2, h3, h4, h5, h6, h7⟩ := hR
  have hm := h1.1.1
  have h80 := h4.1
  have hqw : qw q < 1000 := by have := h1.2.1; omega
  intro k
  induction k with
  | zero =>
    intro i e hz
    obtain ⟨s1, s2, s3, s4⟩ := hS
    have hz' : hq q fl A B t = true := by
      have : (false : Bool) = (!hq q fl A B t) := hz
      cases z : hq q fl A B t
      · rw [z] at this; cases this
      · rfl
    have hvt := (h4.2 (qc q) t h1.2.2.1 ht).2
    have e6 := c8_val (G := G) (d := d + 1) (n := n) (J := J) (O := O) hK h4 ht h1.2.2.1
    rw [sstep_y hz']
    generalize hV1 : up2 (up2 V a 9 (V a 9 + 1)) a 10 (V a 10 + nI (fl (qc q) t)) = V1
    have f1 : fr (frA a) V V1 := hV1 ▸ fr_up (fr_up fr_rfl ⟨rfl, by omega⟩) ⟨rfl, by omega⟩
    have g9 : V1 a 9 = nI (s.1 + 1) := by rw [← hV1, up2_k (by decide), up2_s, s1, nI_1]
    have g10 : V1 a 10 = nI (s.2.1 + fl (qc q) t) := by rw [← hV1, up2_s, s2, nI_add]
    have g11 : V1 a 11 = moI s.2.2 := by rw [← hV1, up2_k (by decide), up2_k (by decide), s3]
    have g12 : V1 a 12 = V a 12 := by rw [← hV1, up2_k (by decide), up2_k (by decide)]
    have f2 : fr (frA a) V (up2 (up2 V1 a 11 (nI t)) a 12 (nI (fl (qc q) t))) := fr_up (fr_up f1 ⟨rfl, by omega⟩) ⟨rfl, by omega⟩
    have taken : RC a nT (fl (qc q)) (s.1 + 1, s.2.1 + fl (qc q) t, some t) (up2 (up2 V1 a 11 (nI t)) a 12 (nI (fl (qc q) t))) := by
      refine ⟨?_, ?_, ?_, fun b hb => ?_⟩
      · rw [up2_k (by decide), up2_k (by decide)]; exact g9
      · rw [up2_k (by decide), up2_k (by decide)]; exact g10
      · rw [up2_k (by decide), up2_s]; rfl
      · cases hb
        exact ⟨ht, up2_s⟩
    cases hb : s.2.2 with
    | none =>
      refine ⟨_, wX0_see_2 hK ha (bt (lp_out h2.1 (by omega) (by omega)) ⟨_, by rw [h2.2.2.1]; exact e6, bt (by rw [s3, hb]; rfl) ⟨rfl, by rw [hV1]⟩⟩), taken, f2⟩
    | some b =>
      obtain ⟨hbT, hb12⟩ := s4 b hb
      have hvb := (h4.2 (qc q) b h1.2.2.1 hbT).2
      have hB := c0_isBetter (G := G) (d := d + 1) (K := K) (n := n) (V := V1) (J := J) (O := O) (a := a) (t := t) (w := qw q) (v := fl (qc q) t) (vb := fl (qc q) b) (b := b) hK ha hqw (by omega) (by omega) (by omega) (by omega) (by rw [f1 _ _ (by unfold frA; omega)]; exact h2.2.1) (by rw [g11, hb]; rfl) (by rw [g12]; exact hb12)
      have hne : ¬ V a 11 = -1 := by
        rw [s3, hb]
        show ¬ nI b = -1
        intro z
        have := congrArg Int32.toInt z
        rw [nI_ti (by omega)] at this
        have e1 : (-1 : Int32).toInt = -1 := by decide
        omega
      by_cases c : bet (qw q) (fl (qc q) t) (fl (qc q) b) t b = true
      · refine ⟨_, wX0_see_2 hK ha (bt (lp_out h2.1 (by omega) (by omega)) ⟨_, by rw [h2.2.2.1]; exact e6, bf hne ⟨_, by rw [hV1]; exact hB, bz_y c ⟨rfl, by rw [hV1]⟩⟩⟩), ?_, f2⟩
        simp only [if_pos c]
        exact taken
      · refine ⟨_, wX0_see_2 hK ha (bt (lp_out h2.1 (by omega) (by omega)) ⟨_, by rw [h2.2.2.1]; exact e6, bf hne ⟨_, by rw [hV1]; exact hB, bz_n c ⟨rfl, by rw [hV1]⟩⟩⟩), ?_, f1⟩
        simp only [if_neg c]
        refine ⟨g9, g10, by rw [g11, hb], fun b' hb' => ?_⟩
        cases hb'
        exact ⟨hbT, by rw [g12]; exact hb12⟩
  | succ k ih =>
    intro i e hz
    have hi : i < qm q := by omega
    obtain ⟨e1, e2, e3⟩ := h2.2.2.2 i hi
    have hf := (h1.1.2 i hi).1
    have hvt := (h4.2 (qf q i) t hf ht).2
    have y1 := c8_val (G := G) (d := d + 1) (n := n) (J := J) (O := O) hK h4 ht hf
    have y2 := c0_holds (G := G) (d := d) (n := n) (J := J) (O := O) hK ha h1 h2 h3 h5 h6 hi (v := fl (qf q i) t) (by omega)
    rw [anyF_s] at hz
    by_cases c : cmpB (qs q i) (fl (qf q i) t) (qwt q A B i) = true
    · rw [c] at hz
      obtain ⟨V1, z1, z2, z3⟩ := ih (i + 1) (by omega) hz
      refine ⟨V1, wX0_see_2 hK ha (bf (lp_in h2.1 (by omega) (by omega)) ⟨nI_v (by omega) (by omega), _, ?_, _, y2, bn_y c ?_⟩), z2, z3⟩
      · rw [nI_c (by omega), e1]; exact y1
      · rw [nI_1]; exact z1
    · have c' : cmpB (qs q i) (fl (qf q i) t) (qwt q A B i) = false := by simpa using c
      rw [c'] at hz
      have hz' : hq q fl A B t = false := by
        cases z : hq q fl A B t
        · rfl
        · rw [z] at hz; cases hz
      refine ⟨V, wX0_see_2 hK ha (bf (lp_in h2.1 (by omega) (by omega)) ⟨nI_v (by omega) (by omega), _, ?_, _, y2, bn_n c ⟨rfl, rfl⟩⟩), ?_, fr_rfl⟩
      · rw [nI_c (by omega), e1]; exact y1
      · rw [sstep_n (by rw [hz']; decide)]
        exact hS
theorem c0_see (hK : StK K) (ha : IsAk K a) (hR : AkRun a nT q fl A B V) (hS : RC a nT (fl (qc q)) s V) (ht : t < nT) : ∃ V', Ev G (d + 2) mX0_see 0 [(0, .ref a), (1, .ref 1), (2, .int (nI t))] (K, n, V, J, O) none (K, n, V', J, O) ∧ RC a nT (fl (qc q)) (sstep (hq q fl A B) (fl (qc q)) (qw q) s t) V' ∧ fr (frA a) V V' := by
  obtain ⟨V1, z1, z2⟩ := c0_see2 (G := G) (d := d) (n := n) (J := J) (O := O) hK ha hR hS ht (qm q) 0 (by omega) (by unfold hq; rw [Bool.not_not])
  exact ⟨V1, wX0_see_0 hK ha z1, z2⟩
theorem c0_result (hK : StK K) (ha : IsAk K a) (hq : Qok q) (h5 : V a 5 = nI (qw q)) {v : Nat → Nat} (hS : RC a nT v s V) : Ev G d mX0_result 0 [(0, .ref a)] (K, n, V, J, O) (some (.int (rsl (qw q) s))) (K, n, V, J, O) := by
  obtain ⟨s1, s2, s3, s4⟩ := hS
  have hw := hq.2.1
  refine wX0_result_0 hK ha ?_
  rw [h5, s1, s2, s3]
  unfold rsl
  by_cases c1 : qw q = 110
  · rw [if_pos c1, c1]
    exact ⟨fun _ => rfl, fun z => absurd z (by decide), fun z => absurd rfl z.1⟩
  · rw [if_neg c1]
    by_cases c2 : qw q = 115
    · rw [if_pos c2, c2]
      exact ⟨fun z => absurd z (by decide), fun _ => rfl, fun z => absurd rfl z.2⟩
    · rw [if_neg c2]
      exact ⟨fun z => absurd z (lne (c := 110) rfl (by omega) (by omega) c1), fun z => absurd z (lne (c := 115) rfl (by omega) (by omega) c2), fun _ => rfl⟩
theorem c0_begin (hK : StK K) (ha : IsAk K a) (hq : Qok q) (hC : QC a q V) (hF : FC nT fl V) (hA : A ≤ 99) (hB : B ≤ 99) (h96 : 96 ≤ a) : ∃ V', Ev G d mX0_begin 0 [(0, .ref a), (1, .int (nI A)), (2, .int (nI B))] (K, n, V, J, O) none (K, n, V', J, O) ∧ AkRun a nT q fl A B V' ∧ RC a nT (fl (qc q)) (0, 0, none) V' ∧ fr (fun x k => x = a ∧ 7 ≤ k) V V' := by
  refine ⟨_, wX0_begin_0 hK ha ⟨rfl, rfl⟩, ?_⟩
  generalize hV1 : up2 (up2 (up2 (up2 (up2 (up2 V a 7 (nI A)) a 8 (nI B)) a 9 0) a 10 0) a 11 (-1)) a 12 0 = V1
  have f1 : fr (fun x k => x = a ∧ 7 ≤ k) V V1 := hV1 ▸ fr_up (fr_up (fr_up (fr_up (fr_up (fr_up fr_rfl ⟨rfl, by omega⟩) ⟨rfl, by omega⟩) ⟨rfl, by omega⟩) ⟨rfl, by omega⟩) ⟨rfl, by omega⟩) ⟨rfl, by omega⟩
  refine ⟨⟨hq, QC_fr hC (fr_mo f1 (fun x k q => by omega)), ⟨?_, ?_⟩, FC_fr hF (fr_mo f1 (fun x k q => by omega)), hA, hB, h96⟩, ⟨?_, ?_, ?_, fun b hb => by cases hb⟩, f1⟩
  · rw [← hV1]; simp [up2]
  · rw [← hV1]; simp [up2]
  · rw [← hV1]; simp [up2]; rfl
  · rw [← hV1]; simp [up2]; rfl
  · rw [← hV1]; simp [up2]; rfl
end
