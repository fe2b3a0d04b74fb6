/-! ===== answer ===== -/
def pst (ins : Nat → Bool) (h : Nat → Bool) (v : Nat → Nat) (w : Nat) (t : Nat) (s : RuS) : RuS := if ins t = true then sstep h v w s t else s
theorem sstep_1 {h : Nat → Bool} {v v' : Nat → Nat} {w t : Nat} {s s' : RuS} (e : s.1 = s'.1) : (sstep h v w s t).1 = (sstep h v' w s' t).1 := by
  by_cases c : h t = true
  · rw [sstep_y c, sstep_y c]
    show s.1 + 1 = s'.1 + 1
    rw [e]
  · rw [sstep_n c, sstep_n c]
    exact e
/-- the answer of both -/
theorem rsl_eq {w : Nat} {s s' : RuS} (h1 : s.1 = s'.1) (h2 : w ≠ 110 → s = s') : rsl w s = rsl w s' := by
  unfold rsl
  by_cases h : w = 110
  · rw [if_pos h, if_pos h, h1]
  · rw [h2 h]
theorem itr_1 {f g : Nat → RuS → RuS} : ∀ {k t : Nat} {s s' : RuS}, (∀ j s s', s.1 = s'.1 → (f j s).1 = (g j s').1) → s.1 = s'.1 → (itr f k t s).1 = (itr g k t s').1
  | 0, _, _, _, _, e => e
  | k + 1, t, s, s', h, e => itr_1 (k := k) (t := t + 1) h (h t s s' e)
theorem pst_res {q : QD} (hq : Qok q) {ins h : Nat → Bool} {fl : Nat → Nat → Nat} {k t : Nat} {s : RuS} : rsl (qw q) (itr (pst ins h (fl (qc q)) (qw q)) k t s) = rsl (qw q) (itr (pst ins h (fl (qr q)) (qw q)) k t s) := by
  apply rsl_eq
  · refine itr_1 (fun j s s' e => ?_) rfl
    unfold pst
    split
    · exact sstep_1 e
    · exact e
  · intro hn
    rw [hq.2.2.2.2 hn]
/-- the asks of both, with all that they say -/
def AskR (nA : Nat) (aa : Nat → Nat) (qq : Nat → QD) (V : SV) : Prop := ∀ i, i < nA → Qok (qq i) ∧ QC (aa i) (qq i) V ∧ QM i (qq i) V
section
variable {G : Gp} {d : Nat} {K : SK} {n : Nat × Nat} {V V' : SV} {J : SJV} {O : SO} {r : Option Value}
variable {nT nG nA A B p a : Nat} {aa ofn : Nat → Nat} {qq : Nat → QD} {q : QD} {fl : Nat → Nat → Nat} {ins : Nat → Bool} {wt : Nat → Nat} {s : RuS}
theorem cT_FC (h : cT nT nG fl ins wt V) : FC nT fl V := ⟨h.1.1, h.2.2.2.1⟩
theorem mT_FM (h : mT nT fl ins V) : FM nT fl V := ⟨h.1, h.2.2.1⟩
theorem cT_fr (h : cT nT nG fl ins wt V) (hf : fr (fun x k => ¬ (5 ≤ x ∧ x ≤ 9) ∧ (x = 1 → k ≠ 2 ∧ k ≠ 6)) V V') : cT nT nG fl ins wt V' := ⟨h.1, by rw [hf _ _ (by omega)]; exact h.2.1, by rw [hf _ _ (by omega)]; exact h.2.2.1, fun f t h1 h2 => by rw [hf _ _ (by omega)]; exact h.2.2.2.1 f t h1 h2, fun t ht => by rw [hf _ _ (by omega)]; exact h.2.2.2.2 t ht⟩
theorem mT_fr (h : mT nT fl ins V) (hf : fr (fun x k => x ≠ 58 ∧ x ≠ 59 ∧ (x = 57 → k ≠ 2)) V V') : mT nT fl ins V' := ⟨h.1, by rw [hf _ _ (by omega)]; exact h.2.1, fun f t h1 h2 => by rw [hf _ _ (by omega)]; exact h.2.2.1 f t h1 h2, fun t ht => by rw [hf _ _ (by omega)]; exact h.2.2.2 t ht⟩
theorem c11_plain9 (hK : StK K) (ha : IsAk K a) : ∀ (k t : Nat) (s : RuS) (V : SV) (x2 x3 : Int32), t + k = nT → cT nT nG fl ins wt V → AkRun a nT q fl A B V → RC a nT (fl (qc q)) s V → ∃ V', Ev G (d + 3) mX11_plainAnswer 9 [(0, .ref 0), (1, .ref a), (2, .int x2), (3, .int x3), (4, .int (nI t))] (K, n, V, J, O) (some (.int (rsl (qw q) (itr (pst ins (hq q fl A B) (fl (qc q)) (qw q)) k t s)))) (K, n, V', J, O) ∧ fr (frA a) V V' := by
  intro k
  induction k with
  | zero =>
    intro t s V x2 x3 e hc hR hS
    have h80 := hc.1.1
    exact ⟨V, wX11_plainAnswer_9 hK ha (bt (lp_out hc.2.1 (by omega) (by omega)) ⟨_, c0_result hK ha hR.1 hR.2.1.2.1 hS, rfl, rfl⟩), fr_rfl⟩
  | succ k ih =>
    intro t s V x2 x3 e hc hR hS
    have h80 := hc.1.1
    have ht : t < nT := by omega
    have h96 := hR.2.2.2.2.2.2
    have b1 := c8_isIn (G := G) (d := d + 2) (n := n) (J := J) (O := O) hK hc ht
    by_cases hi : ins t = true
    · obtain ⟨V1, z1, z2, z3⟩ := c0_see (G := G) (d := d) (n := n) (J := J) (O := O) hK ha hR hS ht
      obtain ⟨V2, y1, y2⟩ := ih (t + 1) _ V1 x2 x3 (by omega) (cT_fr hc (fr_mo z3 (fun x k q => by unfold frA at q; omega))) (AkRun_fr hR (fr_mo z3 (fun x k q => by unfold frA at q; omega))) z2
      refine ⟨V2, wX11_plainAnswer_9 hK ha (bf (lp_in hc.2.1 (by omega) (by omega)) ⟨_, b1, bz_y hi ⟨V1, z1, ?_⟩⟩), fr_mo (fr_tr z3 y2) (fun x k q => q.elim id id)⟩
      rw [nI_1]
      unfold itr
      rw [show pst ins (hq q fl A B) (fl (qc q)) (qw q) t s = sstep (hq q fl A B) (fl (qc q)) (qw q) s t from if_pos hi]
      exact y1
    · obtain ⟨V2, y1, y2⟩ := ih (t + 1) _ V x2 x3 (by omega) hc hR hS
      refine ⟨V2, wX11_plainAnswer_9 hK ha (bf (lp_in hc.2.1 (by omega) (by omega)) ⟨_, b1, bz_n hi ?_⟩), y2⟩
      rw [nI_1]
      unfold itr
      rw [show pst ins (hq q fl A B) (fl (qc q)) (qw q) t s = s from if_neg hi]
      exact y1
/-- the plain answer -/
def plA (q : QD) (fl : Nat → Nat → Nat) (ins : Nat → Bool) (nT A B : Nat) : Int32 := rsl (qw q) (itr (pst ins (hq q fl A B) (fl (qc q)) (qw q)) nT 0 (0, 0, none))
theorem c11_plain (hK : StK K) (ha : IsAk K a) (h96 : 96 ≤ a) (hq : Qok q) (hC : QC a q V) (hc : cT nT nG fl ins wt V) (hA : A ≤ 99) (hB : B ≤ 99) : ∃ V', Ev G (d + 3) mX11_plainAnswer 0 [(0, .ref 0), (1, .ref a), (2, .int (nI A)), (3, .int (nI B))] (K, n, V, J, O) (some (.int (plA q fl ins nT A B))) (K, n, V', J, O) ∧ fr (fun x k => x = a ∧ 7 ≤ k) V V' := by
  obtain ⟨V1, z1, z2, z3, z4⟩ := c0_begin (G := G) (d := d + 2) (n := n) (J := J) (O := O) (A := A) (B := B) hK ha hq hC (cT_FC hc) hA hB h96
  obtain ⟨V2, y1, y2⟩ := c11_plain9 (G := G) (d := d) (n := n) (J := J) (O := O) (nG := nG) (ins := ins) (wt := wt) hK ha nT 0 _ V1 (nI A) (nI B) (by omega) (cT_fr hc (fr_mo z4 (fun x k q => by omega))) z2 z3
  exact ⟨V2, wX11_plainAnswer_0 hK ha ⟨V1, z1, y1⟩, fr_mo (fr_tr z4 y2) (fun x k q => by unfold frA at q; omega)⟩
theorem c12_answer9 (hK : StK K) : ∀ (k t : Nat) (s : RuS) (V : SV) (x2 x3 : Int32), t + k = nT → mT nT fl ins V → AkRunM p nT q fl A B V → RM nT s V → ∃ V', Ev G (d + 3) mX12_answerOf 9 [(0, .ref 57), (1, .int (nI p)), (2, .int x2), (3, .int x3), (4, .int (nI t))] (K, n, V, J, O) (some (.int (rsl (qw q) (itr (pst ins (hq q fl A B) (fl (qr q)) (qw q)) k t s)))) (K, n, V', J, O) ∧ fr frMs V V' := by
  intro k
  induction k with
  | zero =>
    intro t s V x2 x3 e hm hR hS
    have h80 := hm.1
    exact ⟨V, wX12_answerOf_9 hK (bt (lp_out hm.2.1 (by omega) (by omega)) ⟨_, c12_told hK hR.1 hR.2.2.2.2.2.2 hR.2.1.2.1 hS, rfl, rfl⟩), fr_rfl⟩
  | succ k ih =>
    intro t s V x2 x3 e hm hR hS
    have h80 := hm.1
    have ht : t < nT := by omega
    by_cases hi : ins t = true
    · obtain ⟨V1, z1, z2, z3⟩ := c12_see (G := G) (d := d) (n := n) (J := J) (O := O) hK hR hS ht
      obtain ⟨V2, y1, y2⟩ := ih (t + 1) _ V1 x2 x3 (by omega) (mT_fr hm (fr_mo z3 (fun x k q => by unfold frMs at q; omega))) (AkRunM_fr hR (fr_mo z3 (fun x k q => by unfold frMs at q; omega))) z2
      refine ⟨V2, wX12_answerOf_9 hK (bf (lp_in hm.2.1 (by omega) (by omega)) ⟨nI_v (show t < 80 by omega) (by omega), ?_⟩), fr_mo (fr_tr z3 y2) (fun x k q => q.elim id id)⟩
      rw [nI_c (by omega), hm.2.2.2 t ht, nI_1]
      refine bz_y hi ⟨V1, z1, ?_⟩
      unfold itr
      rw [show pst ins (hq q fl A B) (fl (qr q)) (qw q) t s = sstep (hq q fl A B) (fl (qr q)) (qw q) s t from if_pos hi]
      exact y1
    · obtain ⟨V2, y1, y2⟩ := ih (t + 1) _ V x2 x3 (by omega) hm hR hS
      refine ⟨V2, wX12_answerOf_9 hK (bf (lp_in hm.2.1 (by omega) (by omega)) ⟨nI_v (show t < 80 by omega) (by omega), ?_⟩), y2⟩
      rw [nI_c (by omega), hm.2.2.2 t ht, nI_1]
      refine bz_n hi ?_
      unfold itr
      rw [show pst ins (hq q fl A B) (fl (qr q)) (qw q) t s = s from if_neg hi]
      exact y1
def frMb : Nat → Nat → Prop := fun x k => x = 57 ∧ ((27 ≤ k ∧ k ≤ 31) ∨ k = 33)
theorem c12_answerOf (hK : StK K) (hq : Qok q) (hC : QM p q V) (hp : p < 10) (hm : mT nT fl ins V) (hA : A ≤ 99) (hB : B ≤ 99) : ∃ V', Ev G (d + 3) mX12_answerOf 0 [(0, .ref 57), (1, .int (nI p)), (2, .int (nI A)), (3, .int (nI B))] (K, n, V, J, O) (some (.int (plA q fl ins nT A B))) (K, n, V', J, O) ∧ fr frMb V V' := by
  obtain ⟨V1, z1, z2, z3, z4, z5⟩ := c12_begin (G := G) (d := d + 2) (n := n) (J := J) (O := O) (A := A) (B := B) hK hq hC (mT_FM hm) hA hB hp
  obtain ⟨V2, y1, y2⟩ := c12_answer9 (G := G) (d := d) (n := n) (J := J) (O := O) (ins := ins) hK nT 0 _ V1 (nI A) (nI B) (by omega) (mT_fr hm (fr_mo z5 (fun x k q => by omega))) z2 z3
  rw [← pst_res hq] at y1
  exact ⟨V2, wX12_answerOf_0 hK ⟨V1, z1, y1⟩, fr_mo (fr_tr z5 y2) (fun x k q => by unfold frMs at q; unfold frMb; omega)⟩
theorem AskR_fr (h : AskR nA aa qq V) (hf : fr (fun x k => (∀ i, i < nA → x ≠ aa i + 1 ∧ x ≠ aa i + 2 ∧ x ≠ aa i + 3 ∧ (x = aa i → 7 ≤ k)) ∧ ¬ (63 ≤ x ∧ x ≤ 68)) V V') : AskR nA aa qq V' := fun i hi => ⟨(h i hi).1, QC_fr (h i hi).2.1 (fr_mo hf (fun x k q => q.1 i hi)), QM_fr (h i hi).2.2 (fr_mo hf (fun x k q => q.2))⟩
/-- the asks lie apart -/
theorem AkO_ap (hA : AkO nA aa ofn K O V) {i j : Nat} (hi : i < nA) (hj : j < nA) {x : Nat} (hx : x = aa i) : x ≠ aa j + 1 ∧ x ≠ aa j + 2 ∧ x ≠ aa j + 3 := by
  obtain ⟨-, s4, -⟩ := hA
  rcases Nat.lt_trichotomy i j with h | h | h
  · have := s4 i j h hj
    omega
  · subst h
    omega
  · have := s4 j i h hi
    omega
theorem AskR_run (h : AskR nA aa qq V) (hA : AkO nA aa ofn K O V) {i : Nat} (hi : i < nA) (hf : fr (fun x k => (x = aa i ∧ 7 ≤ k) ∨ (x < 96 ∧ ¬ (63 ≤ x ∧ x ≤ 68))) V V') : AskR nA aa qq V' := AskR_fr h (fr_mo hf (fun x k q => by
  rcases q with ⟨q1, q2⟩ | q
  · refine ⟨fun j hj => ?_, ?_⟩
    · obtain ⟨y1, y2, y3⟩ := AkO_ap hA hi hj q1
      exact ⟨y1, y2, y3, fun _ => q2⟩
    · have := (hA.2.2 i hi).1.1
      omega
  · refine ⟨fun j hj => ?_, q.2⟩
    have := (hA.2.2 j hj).1.1
    omega))
theorem p_answer (hK : StK K) (hA : AkO nA aa ofn K O V) (hQ : AskR nA aa qq V) (hc : cT nT nG fl ins wt V) (hm : mT nT fl ins V) {x1 x2 x3 : Int32} : ∃ (r : Int32) (V1 V2 : SV), Ev G (d + 4) mX11_answer 0 [(0, .ref 0), (1, .int x1), (2, .int x2), (3, .int x3)] (K, n, V, J, O) (some (.int r)) (K, n, V1, J, O) ∧ Ev G (d + 4) mX12_answer 0 [(0, .ref 57), (1, .int x1), (2, .int x2), (3, .int x3)] (K, n, V1, J, O) (some (.int r)) (K, n, V2, J, O) ∧ fr (fun x k => (7 ≤ k ∧ ∃ i, i < nA ∧ x = aa i) ∨ (x = 57 ∧ 27 ≤ k ∧ k ≤ 31)) V V2 ∧ AskR nA aa qq V2 := by
  have bad : fr (fun x k => (7 ≤ k ∧ ∃ i, i < nA ∧ x = aa i) ∨ (x = 57 ∧ 27 ≤ k ∧ k ≤ 31)) V (up2 V 57 33 (V 57 33)) := fun x k _ => by
    unfold up2
    split
    · rename_i e
      rw [e.1, e.2]
    · rfl
  have bq : AskR nA aa qq (up2 V 57 33 (V 57 33)) := AskR_fr hQ (fr_up fr_rfl ⟨fun i hi => by have := (hA.2.2 i hi).1.1; omega, by omega⟩)
  by_cases h1 : ∃ i, i < nA ∧ x1 = nI i
  · obtain ⟨i, hi, rfl⟩ := h1
    have a1 := c11_askAt (G := G) (d := d + 2) (n := n) (J := J) hK hA hi
    obtain ⟨q1, q2, q3⟩ := hQ i hi
    have hA' := hA
    obtain ⟨⟨s1, s2, s3⟩, s4, s5⟩ := hA
    obtain ⟨⟨h96, hO, hIs⟩, -⟩ := s5 i hi
    have a2 := c12_isAsk (G := G) (d := d + 3) (n := n) (J := J) hK hA' hi
    by_cases h2 : ∃ c, c ≤ 99 ∧ x2 = nI c
    · obtain ⟨A, hA9, rfl⟩ := h2
      have w1 : ∀ {V : SV}, Ev G (d + 3) mX11_isValue 0 [(0, .int (nI A))] (K, n, V, J, O) (some (.int 1)) (K, n, V, J, O) := ev_b (c11_isValue hK) ((btw_iff (N := 99) (by decide)).mpr ⟨A, hA9, rfl⟩)
      have w2 : ∀ {V : SV}, Ev G (d + 3) mX12_isValue 0 [(0, .int (nI A))] (K, n, V, J, O) (some (.int 1)) (K, n, V, J, O) := ev_b (c12_isValue hK) ((btw_iff (N := 99) (by decide)).mpr ⟨A, hA9, rfl⟩)
      by_cases h3 : ∃ c, c ≤ 99 ∧ x3 = nI c
      · obtain ⟨B, hB9, rfl⟩ := h3
        have w3 : ∀ {V : SV}, Ev G (d + 3) mX11_isValue 0 [(0, .int (nI B))] (K, n, V, J, O) (some (.int 1)) (K, n, V, J, O) := ev_b (c11_isValue hK) ((btw_iff (N := 99) (by decide)).mpr ⟨B, hB9, rfl⟩)
        have w4 : ∀ {V : SV}, Ev G (d + 3) mX12_isValue 0 [(0, .int (nI B))] (K, n, V, J, O) (some (.int 1)) (K, n, V, J, O) := ev_b (c12_isValue hK) ((btw_iff (N := 99) (by decide)).mpr ⟨B, hB9, rfl⟩)
        obtain ⟨V1, z1, z2⟩ := c11_plain (G := G) (d := d) (n := n) (J := J) (O := O) hK hIs h96 q1 q2 hc hA9 hB9
        have hQ1 : AskR nA aa qq V1 := AskR_run hQ hA' hi (fr_mo z2 (fun x k q => Or.inl q))
        have hA1 : AkO nA aa ofn K O V1 := AkO_fr hA' (fr_mo z2 (fun x k q => Or.inl ⟨by omega, by omega⟩))
        obtain ⟨V2, y1, y2⟩ := c12_answerOf (G := G) (d := d) (n := n) (J := J) (O := O) hK q1 (hQ1 i hi).2.2 (by omega) (mT_fr hm (fr_mo z2 (fun x k q => by omega))) hA9 hB9
        have e33 : fr (fun x k => x = 57 ∧ 27 ≤ k ∧ k ≤ 31) V1 (up2 V2 57 33 (V1 57 33)) := fun x k hn => by
          unfold up2
          split
          · rename_i e
            rw [e.1, e.2]
          · rename_i e
            exact y2 x k (by unfold frMb; omega)
        refine ⟨plA (qq i) fl ins nT A B, V1, up2 V2 57 33 (V1 57 33), wX11_answer_0 hK ⟨_, a1, Or.inr ⟨aa i, rfl, hIs, _, w1, bf one0 ⟨_, w3, nt one0 ⟨_, _, z1, rfl, rfl⟩⟩⟩⟩, wX12_answer_0 hK ⟨_, c12_isAsk hK hA1 hi, bf one0 ⟨_, w2, bf one0 ⟨_, w4, bf one0 ⟨_, _, y1, rfl, rfl⟩⟩⟩⟩, fr_mo (fr_tr z2 e33) (fun x k q => ?_), AskR_run hQ1 hA1 hi (fr_mo e33 (fun x k q => Or.inr (by omega)))⟩
        rcases q with q | q
        · exact Or.inl ⟨q.2, i, hi, q.1⟩
        · exact Or.inr q
      · exact ⟨_, _, _, wX11_answer_0 hK ⟨_, a1, Or.inr ⟨aa i, rfl, hIs, _, w1, bf one0 ⟨_, ev_n (c11_isValue hK) (fun q => h3 ((btw_iff (N := 99) (by decide)).mp q)), nf rfl ⟨rfl, rfl⟩⟩⟩⟩, wX12_answer_0 hK ⟨_, a2, bf one0 ⟨_, w2, bf one0 ⟨_, ev_n (c12_isValue hK) (fun q => h3 ((btw_iff (N := 99) (by decide)).mp q)), bt rfl ⟨rfl, rfl⟩⟩⟩⟩, bad, bq⟩
    · exact ⟨_, _, _, wX11_answer_0 hK ⟨_, a1, Or.inr ⟨aa i, rfl, hIs, _, ev_n (c11_isValue hK) (fun q => h2 ((btw_iff (N := 99) (by decide)).mp q)), bt rfl ⟨rfl, rfl⟩⟩⟩, wX12_answer_0 hK ⟨_, a2, bf one0 ⟨_, ev_n (c12_isValue hK) (fun q => h2 ((btw_iff (N := 99) (by decide)).mp q)), bt rfl ⟨rfl, rfl⟩⟩⟩, bad, bq⟩
  · exact ⟨_, _, _, wX11_answer_0 hK ⟨_, c11_askNo hK hA h1, Or.inl ⟨rfl, rfl, rfl⟩⟩, wX12_answer_0 hK ⟨_, c12_isAskNo hK hA h1, bt rfl ⟨rfl, rfl⟩⟩, bad, bq⟩
end
