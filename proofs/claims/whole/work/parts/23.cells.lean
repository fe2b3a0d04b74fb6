/-! ===== misses: by what comes, and the reference ===== -/
/-- what is held (h, the latest first) and the reference's shelf (os, us), by the places tau -/
def RLU (s i : Nat) (h os us tau : Nat → Nat) : Prop := (∀ p, p < s → tau p < s ∧ os (tau p) = h p ∧ us (tau p) < i) ∧ (∀ p p', p < p' → p' < s → us (tau p') < us (tau p)) ∧ (∀ k, k < s → ∃ p, p < s ∧ tau p = k) ∧ (∀ p p', p < s → p' < s → h p = h p' → p = p')
theorem mtf_q (x pl : Nat) (g : Nat → Nat) {p : Nat} (hp : p ≠ 0) : mtf x pl g p = g (if p ≤ pl then p - 1 else p) := by
  unfold mtf
  rw [if_neg hp]
  split <;> rfl
theorem RLU_up {s i s' pl t0 line : Nat} {h os us tau : Nat → Nat} (hR : RLU s i h os us tau) (h1 : pl < s') (h2 : ∀ q, q < s' → q ≠ pl → q < s ∧ tau q ≠ t0 ∧ h q ≠ line) (h3 : t0 < s') (h4 : s ≤ s') (h5 : ∀ k, k < s' → k ≠ t0 → ∃ q, q < s ∧ q ≠ pl ∧ tau q = k) : RLU s' (i + 1) (mtf line pl h) (fun k => if k = t0 then line else os k) (fun k => if k = t0 then i else us k) (mtf t0 pl tau) := by
  obtain ⟨r1, r2, r3, r4⟩ := hR
  have hq : ∀ p, p ≠ 0 → p < s' → (if p ≤ pl then p - 1 else p) < s' ∧ (if p ≤ pl then p - 1 else p) ≠ pl := by
    intro p h6 h7
    split <;> omega
  refine ⟨fun p hp => ?_, fun p p' hp hp' => ?_, fun k hk => ?_, fun p p' hp hp' he => ?_⟩
  · by_cases e : p = 0
    · subst e
      simp [mtf, h3]
    · rw [mtf_q _ _ _ e, mtf_q _ _ _ e]
      obtain ⟨q1, q2⟩ := hq p e hp
      obtain ⟨q3, q4, q5⟩ := h2 _ q1 q2
      obtain ⟨q6, q7, q8⟩ := r1 _ q3
      simp only [if_neg q4]
      exact ⟨by omega, q7, by omega⟩
  · have e' : p' ≠ 0 := by omega
    obtain ⟨q1, q2⟩ := hq p' e' hp'
    obtain ⟨q3, q4, q5⟩ := h2 _ q1 q2
    rw [mtf_q _ _ _ e']
    simp only [if_neg q4]
    by_cases e : p = 0
    · subst e
      have : mtf t0 pl tau 0 = t0 := rfl
      rw [this, if_pos rfl]
      exact (r1 _ q3).2.2
    · obtain ⟨w1, w2⟩ := hq p e (by omega)
      obtain ⟨w3, w4, w5⟩ := h2 _ w1 w2
      rw [mtf_q _ _ _ e, if_neg w4]
      refine r2 _ _ ?_ q3
      split <;> split <;> omega
  · by_cases e : k = t0
    · exact ⟨0, by omega, e.symm⟩
    · obtain ⟨q, q1, q2, q3⟩ := h5 k hk e
      by_cases hqp : q < pl
      · refine ⟨q + 1, by omega, ?_⟩
        rw [mtf_q _ _ _ (by omega), if_pos (by omega)]
        exact q3
      · refine ⟨q, by omega, ?_⟩
        by_cases hq0 : q = 0
        · omega
        · rw [mtf_q _ _ _ hq0, if_neg (by omega)]
          exact q3
  · by_cases e : p = 0
    · by_cases e' : p' = 0
      · omega
      · subst e
        rw [mtf_q _ _ _ e'] at he
        obtain ⟨q1, q2⟩ := hq p' e' hp'
        exact absurd he.symm (h2 _ q1 q2).2.2
    · by_cases e' : p' = 0
      · subst e'
        rw [mtf_q _ _ _ e] at he
        obtain ⟨q1, q2⟩ := hq p e hp
        exact absurd he (h2 _ q1 q2).2.2
      · rw [mtf_q _ _ _ e, mtf_q _ _ _ e'] at he
        obtain ⟨q1, q2⟩ := hq p e hp
        obtain ⟨w1, w2⟩ := hq p' e' hp'
        have := r4 _ _ (h2 _ q1 q2).1 (h2 _ w1 w2).1 he
        by_cases a : p ≤ pl <;> by_cases b : p' ≤ pl <;> simp only [a, b, if_true, if_false] at this q1 q2 w1 w2 <;> omega
section
variable {G : Gp} {dd : Nat} {K : SK} {n : Nat × Nat} {V V' : SV} {J J' : SJV} {O O' : SO} {r : Option Value}
variable {nC : Nat} {cel : Nat → Nat}
theorem dv (w x : Nat) (hw : 1 ≤ w ∧ w ≤ 8) (hx : x ≤ 99) : nI x / nI w = nI (x / w) ∧ x / w ≤ 99 := ⟨pk_div (by omega) (by omega) (by omega), Nat.le_trans (Nat.div_le_self _ _) hx⟩
theorem c9_nextUse3 (hK : StK K) (hC : cC nC cel V) {w line fr0 : Nat} (hw : 1 ≤ w ∧ w ≤ 8) (hl : line < 1000) : ∀ (k t : Nat), t + k = nC → Ev G dd mX9_nextUse 3 [(0, .ref 13), (1, .int (nI line)), (2, .int (nI w)), (3, .int (nI fr0)), (4, .int (nI t))] (K, n, V, J, O) (some (.int (nI (ffst (fun q => cel q / w == line) k t)))) (K, n, V, J, O)
  | 0, t, e => wX9_nextUse_3 hK (bt (lp_out hC.2.1 (by omega) (by have := hC.1; omega)) rfl)
  | k + 1, t, e => by
    have h60 := hC.1
    obtain ⟨h1, h2⟩ := hC.2.2 t (by omega)
    obtain ⟨d1, d2⟩ := dv w (cel t) hw h2
    refine wX9_nextUse_3 hK (bf (lp_in hC.2.1 (by omega) (by omega)) ⟨nI_v (by omega) (by omega), nI_ne0 (by omega) (by omega), ?_⟩)
    rw [nI_c (by omega), h1, d1, nI_eq' (by omega) (by omega), nI_1]
    unfold ffst
    by_cases q : cel t / w = line
    · exact bt q (by simp [q])
    · exact bf q (by simpa [q] using c9_nextUse3 hK hC hw hl k (t + 1) (by omega))
theorem c9_nextUse (hK : StK K) (hC : cC nC cel V) {w line t : Nat} (hw : 1 ≤ w ∧ w ≤ 8) (hl : line < 1000) (ht : t ≤ nC) : Ev G dd mX9_nextUse 0 [(0, .ref 13), (1, .int (nI line)), (2, .int (nI w)), (3, .int (nI t))] (K, n, V, J, O) (some (.int (nI (nxt nC (fun i => cel i / w) t line)))) (K, n, V, J, O) := wX9_nextUse_0 hK (c9_nextUse3 hK hC hw hl (nC - t) t (by omega))
theorem nxt_le {ln : Nat → Nat} {t line : Nat} (h : t ≤ nC) : nxt nC ln t line ≤ nC := by
  have := (ffst_le (fun q => ln q == line) (nC - t) t).2
  unfold nxt
  omega
theorem c9_latest9 (hK : StK K) (hC : cC nC cel V) {w s i : Nat} {g : Nat → Nat} (hw : 1 ≤ w ∧ w ≤ 8) (hs : s ≤ 8) (hi : i ≤ nC) (hh : ∀ q, q < s → V 17 q = nI (g q) ∧ g q < 1000) : ∀ (k t b : Nat), t + k = s → b < s → Ev G (dd + 1) mX9_latestNeeded 9 [(0, .ref 13), (1, .int (nI w)), (2, .int (nI s)), (3, .int (nI i)), (4, .int (nI b)), (5, .int (nI (nxt nC (fun i => cel i / w) i (g b)))), (6, .int (nI t))] (K, n, V, J, O) (some (.int (nI (vic (nxt nC (fun i => cel i / w) i) g k t b)))) (K, n, V, J, O)
  | 0, t, b, e, hb => wX9_latestNeeded_9 hK (bt (lp_out rfl (by omega) (by omega)) rfl)
  | k + 1, t, b, e, hb => by
    have h60 := hC.1
    obtain ⟨h1, h2⟩ := hh t (by omega)
    obtain ⟨h3, h4⟩ := hh b hb
    have l1 := nxt_le (nC := nC) (ln := fun i => cel i / w) (line := g t) hi
    have l2 := nxt_le (nC := nC) (ln := fun i => cel i / w) (line := g b) hi
    have ih := fun b' hb' => c9_latest9 hK hC hw hs hi hh k (t + 1) b' (by omega) hb'
    refine wX9_latestNeeded_9 hK (bf (lp_in rfl (by omega) (by omega)) ⟨nI_v (by omega) (by omega), _, by rw [nI_c (by omega), h1]; exact c9_nextUse hK hC hw h2 hi, ?_⟩)
    rw [nI_lt' (by omega) (by omega), nI_ne (by omega) (by omega), nI_eq' (by omega) (by omega), nI_c (show t < 100000 by omega), nI_c (show b < 100000 by omega), h1, h3, nI_le' (by omega) (by omega), nI_1]
    unfold vic
    by_cases c1 : nxt nC (fun i => cel i / w) i (g b) < nxt nC (fun i => cel i / w) i (g t)
    · rw [if_pos c1]
      exact bt c1 (ih t (by omega))
    · rw [if_neg c1]
      refine bf c1 ?_
      by_cases c2 : nxt nC (fun i => cel i / w) i (g t) = nxt nC (fun i => cel i / w) i (g b)
      · refine nf c2 ⟨nI_v (by omega) (by omega), nI_v (by omega) (by omega), ?_⟩
        by_cases c3 : g t < g b
        · rw [if_pos ⟨c2, c3⟩]
          exact bf (by omega) (ih t (by omega))
        · rw [if_neg (fun q => c3 q.2)]
          exact bt (by omega) (ih b hb)
      · rw [if_neg (fun q => c2 q.1)]
        exact nt c2 (ih b hb)
theorem c9_latest (hK : StK K) (hC : cC nC cel V) {w s i : Nat} {g : Nat → Nat} (hw : 1 ≤ w ∧ w ≤ 8) (hs : s ≤ 8) (h0 : 0 < s) (hi : i ≤ nC) (hh : ∀ q, q < s → V 17 q = nI (g q) ∧ g q < 1000) : Ev G (dd + 1) mX9_latestNeeded 0 [(0, .ref 13), (1, .int (nI w)), (2, .int (nI s)), (3, .int (nI i))] (K, n, V, J, O) (some (.int (nI (vic (nxt nC (fun i => cel i / w) i) g (s - 1) 1 0)))) (K, n, V, J, O) := by
  have h60 := hC.1
  obtain ⟨h1, h2⟩ := hh 0 h0
  have l1 := nxt_le (nC := nC) (ln := fun i => cel i / w) (line := g 0) hi
  refine wX9_latestNeeded_0 hK (wX9_latestNeeded_9 hK (bf (lp_in (t := 0) rfl h0 (by omega)) ⟨nI_v (a := 0) (by omega) (by omega), _, by rw [z0, h1]; exact c9_nextUse hK hC hw h2 hi, bt ?_ ?_⟩))
  · exact Int32.lt_of_lt_of_le (show (-1 : Int32) < 0 by decide) (nI_pos' (by omega))
  · exact c9_latest9 hK hC hw hs hi hh (s - 1) 1 0 (by omega) h0
theorem c9_opt (hK : StK K) {w f : Nat} (hw : 1 ≤ w ∧ w ≤ 8) (hf : 1 ≤ f ∧ f ≤ 8) : ∀ (k i s ms : Nat) (g : Nat → Nat) (V : SV), i + k = nC → s ≤ f → cC nC cel V → (∀ q, q < s → V 17 q = nI (g q) ∧ g q < 1000) → ∃ V', Ev G (dd + 2) mX9_missesByComing 8 [(0, .ref 13), (1, .int (nI w)), (2, .int (nI f)), (3, .int (nI s)), (4, .int (nI ms)), (5, .int (nI i))] (K, n, V, J, O) (some (.int (nI (ms + opt nC f (fun i => cel i / w) k i s g)))) (K, n, V', J, O) ∧ fr (fun a _ => a = 17) V V' := by
  intro k
  induction k with
  | zero =>
    intro i s ms h V e hs hC hh
    exact ⟨V, wX9_missesByComing_8 hK (bt (lp_out hC.2.1 (by omega) (by have := hC.1; omega)) ⟨rfl, rfl⟩), fr_rfl⟩
  | succ k ih =>
    intro i s ms g V e hs hC hh
    have h60 := hC.1
    obtain ⟨hc1, hc2⟩ := hC.2.2 i (by omega)
    obtain ⟨hdiv, hd9⟩ := dv w (cel i) hw hc2
    have hhe := c9_heldAt (G := G) (dd := dd + 1) (n := n) (V := V) (J := J) (O := O) hK (s := s) (line := cel i / w) (h := g) (by omega) (by omega) hh
    have fr17 : ∀ (j : Nat) (y : Int32), fr (fun a _ => a = 17) V (up2 V 17 j y) := fun X y => fr_up fr_rfl rfl
    unfold opt
    by_cases hfo : ffst (fun q => g q == cel i / w) s 0 < s
    · rw [if_pos hfo]
      rw [if_pos hfo] at hhe
      obtain ⟨V', z1, z2⟩ := ih (i + 1) s ms g V (by omega) hs hC hh
      refine ⟨V', wX9_missesByComing_8 hK (bf (lp_in hC.2.1 (by omega) (by omega)) ⟨nI_v (by omega) (by omega), nI_ne0 (by omega) (by omega), _, by rw [nI_c (by omega), hc1, hdiv]; exact hhe, bf ?_ ?_⟩), z2⟩
      · intro q
        have q2 : nI (ffst (fun q => g q == cel i / w) s 0) < 0 := by rw [q]; decide
        exact nI_pos (by omega) q2
      · rw [nI_1]
        exact z1
    · rw [if_neg hfo]
      rw [if_neg hfo] at hhe
      by_cases hsf : s < f
      · rw [if_pos hsf]
        obtain ⟨V', z1, z2⟩ := ih (i + 1) (s + 1) (ms + 1) (fun q => if q = s then cel i / w else g q) _ (by omega) (by omega) (hC.fr (fr17 s (nI (cel i / w)))) (fun q hq => by
          by_cases e : q = s
          · subst e; simp [up2]; omega
          · rw [up2_k e]
            simp only [if_neg e]
            exact hh q (by omega))
        refine ⟨V', wX9_missesByComing_8 hK (bf (lp_in hC.2.1 (by omega) (by omega)) ⟨nI_v (by omega) (by omega), nI_ne0 (by omega) (by omega), _, by rw [nI_c (by omega), hc1, hdiv]; exact hhe, bt rfl (bf ?_ ⟨nI_v (by omega) (by omega), ?_⟩)⟩), fr_mo (fr_tr (fr17 _ _) z2) (fun a k q => by omega)⟩
        · rw [nI_le' (by omega) (by omega)]; omega
        · rw [nI_c (show s < 100000 by omega), nI_c (show i < 100000 by omega), hc1, hdiv, nI_1, nI_1, nI_1, ← Nat.add_assoc]
          exact z1
      · rw [if_neg hsf]
        have hv := vic_lt (nu := nxt nC (fun i => cel i / w) (i + 1)) (g := g) (k := s - 1) (t := 1) (b := 0) (s := s) (by omega) (by omega)
        obtain ⟨V', z1, z2⟩ := ih (i + 1) s (ms + 1) (fun q => if q = vic (nxt nC (fun i => cel i / w) (i + 1)) g (s - 1) 1 0 then cel i / w else g q) _ (by omega) (by omega) (hC.fr (fr17 (vic (nxt nC (fun i => cel i / w) (i + 1)) g (s - 1) 1 0) (nI (cel i / w)))) (fun q hq => by
          by_cases e : q = vic (nxt nC (fun i => cel i / w) (i + 1)) g (s - 1) 1 0
          · rw [← e]; simp [up2]; omega
          · rw [up2_k e]
            simp only [if_neg e]
            exact hh q (by omega))
        refine ⟨V', wX9_missesByComing_8 hK (bf (lp_in hC.2.1 (by omega) (by omega)) ⟨nI_v (by omega) (by omega), nI_ne0 (by omega) (by omega), _, by rw [nI_c (by omega), hc1, hdiv]; exact hhe, bt rfl (bt ?_ ⟨_, by rw [nI_1]; exact c9_latest hK hC hw (by omega) (by omega) (by omega) hh, nI_v (by omega) (by omega), ?_⟩)⟩), fr_mo (fr_tr (fr17 _ _) z2) (fun a k q => by omega)⟩
        · rw [nI_le' (by omega) (by omega)]; omega
        · rw [nI_c (show vic (nxt nC (fun i => cel i / w) (i + 1)) g (s - 1) 1 0 < 100000 by omega), nI_c (show i < 100000 by omega), hc1, hdiv, nI_1, nI_1, ← Nat.add_assoc]
          exact z1
/-! the reference -/
def mx (nC v : Nat) : Int32 := if v < nC then nI v else 2147483647
theorem mx_lt {a b : Nat} (hn : nC ≤ 60) (ha : a ≤ nC) (hb : b ≤ nC) : (mx nC a < mx nC b) = (a < b) := by
  have e : (2147483647 : Int32) = nI 2147483647 := rfl
  unfold mx
  by_cases h1 : a < nC <;> by_cases h2 : b < nC
  · rw [if_pos h1, if_pos h2, nI_lt' (by omega) (by omega)]
  · rw [if_pos h1, if_neg h2, e, propext (nI_ltI (by omega) (by decide))]
    apply propext; constructor <;> intro <;> omega
  · rw [if_neg h1, if_pos h2, e, propext (nI_ltI (by decide) (by omega))]
    apply propext; constructor <;> intro <;> omega
  · rw [if_neg h1, if_neg h2, e, propext (nI_ltI (by decide) (by decide))]
    apply propext; constructor <;> intro <;> omega
theorem mx_eq {a b : Nat} (hn : nC ≤ 60) (ha : a ≤ nC) (hb : b ≤ nC) : (mx nC a = mx nC b) = (a = b) := by
  have e : (2147483647 : Int32) = nI 2147483647 := rfl
  unfold mx
  by_cases h1 : a < nC <;> by_cases h2 : b < nC
  · rw [if_pos h1, if_pos h2, nI_eq' (by omega) (by omega)]
  · rw [if_pos h1, if_neg h2, e, propext (nI_eq (by omega) (by decide))]
    apply propext; constructor <;> intro <;> omega
  · rw [if_neg h1, if_pos h2, e, propext (nI_eq (by decide) (by omega))]
    apply propext; constructor <;> intro <;> omega
  · rw [if_neg h1, if_neg h2]
    apply propext; constructor
    · intro; omega
    · intro; rfl
theorem c12_nextUse5 (hK : StK K) (hC : mC' nC cel V) {w line fr0 : Nat} (hw : 1 ≤ w ∧ w ≤ 8) (hl : line < 1000) : ∀ (k t : Nat), t + k = nC → Ev G dd mX12_nextUse 5 [(0, .ref 57), (1, .int (nI line)), (2, .int (nI w)), (3, .int (nI fr0)), (4, .int (nI t))] (K, n, V, J, O) (some (.int (mx nC (ffst (fun q => cel q / w == line) k t)))) (K, n, V, J, O)
  | 0, t, e => wX12_nextUse_5 hK (bt (lp_out hC.2.1 (by omega) (by have := hC.1; omega)) (by simp [ffst, mx, show ¬ t < nC by omega]))
  | k + 1, t, e => by
    have h60 := hC.1
    obtain ⟨h1, h2⟩ := hC.2.2 t (by omega)
    obtain ⟨d1, d2⟩ := dv w (cel t) hw h2
    refine wX12_nextUse_5 hK (bf (lp_in hC.2.1 (by omega) (by omega)) ⟨nI_v (by omega) (by omega), nI_ne0 (by omega) (by omega), ?_⟩)
    rw [nI_c (by omega), h1, d1, nI_ne (by omega) (by omega), nI_eq' (by omega) (by omega), nI_1]
    unfold ffst
    by_cases q : cel t / w = line
    · exact nf q (by simp [q, mx, show t < nC by omega])
    · exact nt q (by simpa [q] using c12_nextUse5 hK hC hw hl k (t + 1) (by omega))
theorem c12_nextUse (hK : StK K) (hC : mC' nC cel V) {w line t : Nat} (hw : 1 ≤ w ∧ w ≤ 8) (hl : line < 1000) (ht : t < nC) : Ev G dd mX12_nextUse 0 [(0, .ref 57), (1, .int (nI line)), (2, .int (nI w)), (3, .int (nI t))] (K, n, V, J, O) (some (.int (mx nC (nxt nC (fun i => cel i / w) (t + 1) line)))) (K, n, V, J, O) := by
  refine wX12_nextUse_0 hK ?_
  rw [nI_1]
  exact c12_nextUse5 hK hC hw hl (nC - (t + 1)) (t + 1) (by omega)
theorem c12_off1 (hK : StK K) (hC : mC' nC cel V) {w s i : Nat} {g : Nat → Nat} (hw : 1 ≤ w ∧ w ≤ 8) (hs : s ≤ 8) (hi : i < nC) (hh : ∀ q, q < s → V 83 q = nI (g q) ∧ g q < 1000) : ∀ (k t b : Nat), t + k = s → b < s → Ev G (dd + 1) mX12_goesOff 6 [(0, .ref 57), (1, .int (nI s)), (2, .int (nI w)), (3, .int (nI i)), (4, .int 1), (5, .int (nI b)), (6, .int (nI t))] (K, n, V, J, O) (some (.int (nI (vic (nxt nC (fun i => cel i / w) (i + 1)) g k t b)))) (K, n, V, J, O)
  | 0, t, b, e, hb => wX12_goesOff_6 hK (bt (lp_out rfl (by omega) (by omega)) rfl)
  | k + 1, t, b, e, hb => by
    have h60 := hC.1
    obtain ⟨h1, h2⟩ := hh t (by omega)
    obtain ⟨h3, h4⟩ := hh b hb
    have l1 := nxt_le (nC := nC) (ln := fun i => cel i / w) (line := g t) (show i + 1 ≤ nC by omega)
    have l2 := nxt_le (nC := nC) (ln := fun i => cel i / w) (line := g b) (show i + 1 ≤ nC by omega)
    have ih := fun b' hb' => c12_off1 hK hC hw hs hi hh k (t + 1) b' (by omega) hb'
    refine wX12_goesOff_6 hK (bf (lp_in rfl (by omega) (by omega)) (nt (by decide) ⟨nI_v (by omega) (by omega), _, by rw [nI_c (by omega), h1]; exact c12_nextUse hK hC hw h2 hi, nI_v (by omega) (by omega), _, by rw [nI_c (by omega), h3]; exact c12_nextUse hK hC hw h4 hi, ?_⟩))
    rw [mx_lt h60 l2 l1, ne_eq, mx_eq h60 l1 l2, nI_c (show t < 100000 by omega), nI_c (show b < 100000 by omega), h1, h3, nI_le' (by omega) (by omega), nI_1]
    unfold vic
    by_cases c1 : nxt nC (fun i => cel i / w) (i + 1) (g b) < nxt nC (fun i => cel i / w) (i + 1) (g t)
    · rw [if_pos c1]
      exact bt c1 (ih t (by omega))
    · rw [if_neg c1]
      refine bf c1 ?_
      by_cases c2 : nxt nC (fun i => cel i / w) (i + 1) (g t) = nxt nC (fun i => cel i / w) (i + 1) (g b)
      · refine nf c2 ⟨nI_v (by omega) (by omega), nI_v (by omega) (by omega), ?_⟩
        by_cases c3 : g t < g b
        · rw [if_pos ⟨c2, c3⟩]
          exact bf (by omega) (ih t (by omega))
        · rw [if_neg (fun q => c3 q.2)]
          exact bt (by omega) (ih b hb)
      · rw [if_neg (fun q => c2 q.1)]
        exact nt c2 (ih b hb)
theorem c12_off0 (hK : StK K) {s : Nat} {us : Nat → Nat} {x2 x3 : Int32} {t0 : Nat} (hs : s ≤ 8) (hh : ∀ q, q < s → V 84 q = nI (us q) ∧ us q < 1000) (h0 : t0 < s) (hm : ∀ q, q < s → q ≠ t0 → us t0 < us q) : ∀ (k t b : Nat), t + k = s → b < s → (t ≤ t0 ∨ b = t0) → Ev G (dd + 1) mX12_goesOff 6 [(0, .ref 57), (1, .int (nI s)), (2, .int x2), (3, .int x3), (4, .int 0), (5, .int (nI b)), (6, .int (nI t))] (K, n, V, J, O) (some (.int (nI t0))) (K, n, V, J, O)
  | 0, t, b, e, hb, hd => by
    refine wX12_goesOff_6 hK (bt (lp_out rfl (by omega) (by omega)) ?_)
    rw [show b = t0 by omega]
  | k + 1, t, b, e, hb, hd => by
    obtain ⟨h1, h2⟩ := hh t (by omega)
    obtain ⟨h3, h4⟩ := hh b hb
    have ih := fun b' hb' hd' => c12_off0 (x2 := x2) (x3 := x3) hK hs hh h0 hm k (t + 1) b' (by omega) hb' hd'
    refine wX12_goesOff_6 hK (bf (lp_in rfl (by omega) (by omega)) (nf rfl ⟨nI_v (by omega) (by omega), nI_v (by omega) (by omega), ?_⟩))
    rw [nI_c (show t < 100000 by omega), nI_c (show b < 100000 by omega), h1, h3, nI_le' (by omega) (by omega), nI_1]
    by_cases c : us b ≤ us t
    · refine bt c (ih b hb ?_)
      by_cases e2 : t = t0
      · by_cases e3 : b = t0
        · exact Or.inr e3
        · have := hm b hb e3
          rw [e2] at c
          omega
      · omega
    · refine bf c (ih t (by omega) ?_)
      by_cases e3 : b = t0
      · by_cases e4 : t = t0
        · exact Or.inr e4
        · have := hm t (by omega) e4
          rw [e3] at c
          omega
      · omega
theorem c12_find (hK : StK K) {s : Nat} {os : Nat → Nat} {line : Nat} {x1 x2 x3 x5 x6 : Int32} (hs : s ≤ 8) (hl : line < 1000) (hh : ∀ q, q < s → V 83 q = nI (os q) ∧ os q < 1000) (hk : Ev G (dd + 2) mX12_misses 100 [(0, .ref 57), (1, .int x1), (2, .int x2), (3, .int x3), (4, .int (nI s)), (5, .int x5), (6, .int x6), (7, .int (nI line)), (8, .int (nI (ffst (fun q => os q == line) s 0)))] (K, n, V, J, O) r (K, n, V', J, O)) : ∀ (k t : Nat), t + k = s → ffst (fun q => os q == line) k t = ffst (fun q => os q == line) s 0 → Ev G (dd + 2) mX12_misses 75 [(0, .ref 57), (1, .int x1), (2, .int x2), (3, .int x3), (4, .int (nI s)), (5, .int x5), (6, .int x6), (7, .int (nI line)), (8, .int (nI t))] (K, n, V, J, O) r (K, n, V', J, O)
  | 0, t, e, h0 => by
    have h0 : t = ffst (fun q => os q == line) s 0 := h0
    rw [← h0] at hk
    exact wX12_misses_75 hK (bt (lp_out rfl (by omega) (by omega)) hk)
  | k + 1, t, e, h0 => by
    obtain ⟨h1, h2⟩ := hh t (by omega)
    rw [ffst_s] at h0
    refine wX12_misses_75 hK (bf (lp_in rfl (by omega) (by omega)) ⟨nI_v (by omega) (by omega), ?_⟩)
    rw [nI_c (by omega), h1, nI_eq' (by omega) (by omega), nI_1]
    by_cases q : os t = line
    · refine bt q ?_
      simp only [q, beq_self_eq_true, if_true] at h0
      rw [h0]
      exact hk
    · refine bf q (c12_find hK hs hl hh hk k (t + 1) (by omega) ?_)
      simpa [q] using h0
end
