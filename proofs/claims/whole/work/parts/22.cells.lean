/-! ===== cell, misses, uncell ===== -/
theorem ffst_s {p : Nat → Bool} {k t : Nat} : ffst p (k + 1) t = if p t then t else ffst p k (t + 1) := rfl
def mtf (x : Nat) (pl : Nat) (g : Nat → Nat) : Nat → Nat := fun q => if q = 0 then x else if q ≤ pl then g (q - 1) else g q
/-- the misses of the cells i .. i + k - 1, if the one that was used longest ago goes; s lines are held, h 0 the latest -/
def lru (f : Nat) (ln : Nat → Nat) : Nat → Nat → Nat → (Nat → Nat) → Nat
  | 0, _, _, _ => 0
  | k + 1, i, s, h => if ffst (fun q => h q == ln i) s 0 < s then lru f ln k (i + 1) s (mtf (ln i) (ffst (fun q => h q == ln i) s 0) h)
    else if s < f then 1 + lru f ln k (i + 1) (s + 1) (mtf (ln i) s h) else 1 + lru f ln k (i + 1) s (mtf (ln i) (s - 1) h)
/-- where the line comes next, from i on; the end, if it doesn't -/
def nxt (nC : Nat) (ln : Nat → Nat) (i line : Nat) : Nat := ffst (fun q => ln q == line) (nC - i) i
/-- the one of g 0 .. that goes: k steps from t, b known -/
def vic (nu : Nat → Nat) (g : Nat → Nat) : Nat → Nat → Nat → Nat
  | 0, _, b => b
  | k + 1, t, b => vic nu g k (t + 1) (if nu (g b) < nu (g t) then t else if nu (g t) = nu (g b) ∧ g t < g b then t else b)
theorem vic_lt {nu g : Nat → Nat} : ∀ {k t b s : Nat}, t + k ≤ s → b < s → vic nu g k t b < s
  | 0, _, _, _, _, h => h
  | k + 1, t, b, s, h1, h2 => by
    unfold vic
    refine vic_lt (by omega) ?_
    split
    · omega
    · split <;> omega
def opt (nC f : Nat) (ln : Nat → Nat) : Nat → Nat → Nat → (Nat → Nat) → Nat
  | 0, _, _, _ => 0
  | k + 1, i, s, g => if ffst (fun q => g q == ln i) s 0 < s then opt nC f ln k (i + 1) s g
    else if s < f then 1 + opt nC f ln k (i + 1) (s + 1) (fun q => if q = s then ln i else g q)
    else 1 + opt nC f ln k (i + 1) s (fun q => if q = vic (nxt nC ln (i + 1)) g (s - 1) 1 0 then ln i else g q)
def cC (nC : Nat) (cel : Nat → Nat) (V : SV) : Prop := nC ≤ 60 ∧ V 13 1 = nI nC ∧ ∀ i, i < nC → V 16 i = nI (cel i) ∧ cel i ≤ 99
def mC' (nC : Nat) (cel : Nat → Nat) (V : SV) : Prop := nC ≤ 60 ∧ V 57 38 = nI nC ∧ ∀ i, i < nC → V 82 i = nI (cel i) ∧ cel i ≤ 99
section
variable {G : Gp} {dd : Nat} {K : SK} {n : Nat × Nat} {V V' : SV} {J J' : SJV} {O O' : SO} {r : Option Value}
variable {nC : Nat} {cel : Nat → Nat}
theorem nI_ne {a b : Nat} (ha : a < 100000) (hb : b < 100000) : (nI a ≠ nI b) = (a ≠ b) := by rw [ne_eq, nI_e' ha hb]
theorem nI_eq' {a b : Nat} (ha : a < 100000) (hb : b < 100000) : (nI a = nI b) = (a = b) := propext (nI_e' ha hb)
theorem c9_heldAt2 (hK : StK K) {s line : Nat} {h : Nat → Nat} (hs : s ≤ 8) (hl : line < 1000) (hh : ∀ q, q < s → V 17 q = nI (h q) ∧ h q < 1000) : ∀ (k t : Nat), t + k = s → Ev G dd mX9_heldAt 2 [(0, .ref 13), (1, .int (nI line)), (2, .int (nI s)), (3, .int (nI t))] (K, n, V, J, O) (some (.int (if ffst (fun q => h q == line) k t < s then nI (ffst (fun q => h q == line) k t) else -1))) (K, n, V, J, O)
  | 0, t, e => wX9_heldAt_2 hK (bt (lp_out rfl (by omega) (by omega)) (by simp [ffst, show ¬ t < s by omega]))
  | k + 1, t, e => by
    obtain ⟨h1, h2⟩ := hh t (by omega)
    have ih := c9_heldAt2 hK hs hl hh k (t + 1) (by omega)
    refine wX9_heldAt_2 hK (bf (lp_in rfl (by omega) (by omega)) ⟨nI_v (by omega) (by omega), ?_⟩)
    rw [nI_c (by omega), h1, nI_1, nI_ne (by omega) (by omega), nI_eq' (by omega) (by omega)]
    unfold ffst
    by_cases q : h t = line
    · exact nf q (by simp [q, show t < s by omega])
    · exact nt q (by simpa [q] using ih)
theorem c9_heldAt (hK : StK K) {s line : Nat} {h : Nat → Nat} (hs : s ≤ 8) (hl : line < 1000) (hh : ∀ q, q < s → V 17 q = nI (h q) ∧ h q < 1000) : Ev G dd mX9_heldAt 0 [(0, .ref 13), (1, .int (nI line)), (2, .int (nI s))] (K, n, V, J, O) (some (.int (if ffst (fun q => h q == line) s 0 < s then nI (ffst (fun q => h q == line) s 0) else -1))) (K, n, V, J, O) := wX9_heldAt_0 hK (c9_heldAt2 hK hs hl hh s 0 (by omega))
theorem cC.fr (h : cC nC cel V) (hf : fr (fun a _ => a = 17) V V') : cC nC cel V' := ⟨h.1, by rw [hf 13 1 (by simp)]; exact h.2.1, fun i hi => by rw [hf 16 i (by simp)]; exact h.2.2 i hi⟩
theorem mC'.fr (h : mC' nC cel V) (hf : fr (fun a _ => a = 83 ∨ a = 84) V V') : mC' nC cel V' := ⟨h.1, by rw [hf 57 38 (by simp)]; exact h.2.1, fun i hi => by rw [hf 82 i (by simp)]; exact h.2.2 i hi⟩
theorem z0 : (0 : Int32).toNatClampNeg = 0 := nI_c (a := 0) (by decide)
theorem z1' : (1 : Int32).toNatClampNeg = 1 := nI_c (a := 1) (by decide)
theorem mtf_V {V : SV} {h : Nat → Nat} {s pl line : Nat} (hh : ∀ q, q < s → V 17 q = nI (h q) ∧ h q < 1000) (hl : line < 1000) {s' : Nat} (h1 : pl ≤ s) (h2 : s' ≤ s + 1) (h3 : pl < s → s' ≤ s) : ∀ q, q < s' → up2 (upA V 17 (va_cpy (V 17) (V 17) 0 1 pl)) 17 0 (nI line) 17 q = nI (mtf line pl h q) ∧ mtf line pl h q < 1000 := by
  intro q hq
  unfold mtf
  by_cases e : q = 0
  · subst e
    rw [up2_s]
    simp [hl]
  · rw [up2_k e, upA_s]
    simp only [if_neg e]
    by_cases e2 : q ≤ pl
    · rw [pk_cpy_in (by omega) (by omega), if_pos e2]
      have := hh (q - 1) (by omega)
      rw [show 0 + (q - 1) = q - 1 by omega]
      exact this
    · rw [pk_cpy_out (by omega), if_neg e2]
      exact hh q (by omega)
theorem c9_lru (hK : StK K) {w f : Nat} (hw : 1 ≤ w ∧ w ≤ 8) (hf : 1 ≤ f ∧ f ≤ 8) : ∀ (k i s ms : Nat) (h : Nat → Nat) (V : SV), i + k = nC → s ≤ f → cC nC cel V → (∀ q, q < s → V 17 q = nI (h q) ∧ h q < 1000) → ∃ V', Ev G (dd + 1) mX9_missesByUsed 8 [(0, .ref 13), (1, .int (nI w)), (2, .int (nI f)), (3, .int (nI s)), (4, .int (nI ms)), (5, .int (nI i))] (K, n, V, J, O) (some (.int (nI (ms + lru f (fun i => cel i / w) k i s h)))) (K, n, V', J, O) ∧ fr (fun a _ => a = 17) V V' := by
  intro k
  induction k with
  | zero =>
    intro i s ms h V e hs hC hh
    exact ⟨V, wX9_missesByUsed_8 hK (bt (lp_out hC.2.1 (by omega) (by have := hC.1; omega)) ⟨rfl, rfl⟩), fr_rfl⟩
  | succ k ih =>
    intro i s ms h V e hs hC hh
    have h60 := hC.1
    obtain ⟨hc1, hc2⟩ := hC.2.2 i (by omega)
    have hln : cel i / w < 1000 := Nat.lt_of_le_of_lt (Nat.div_le_self _ _) (by omega)
    have hhe := c9_heldAt (G := G) (dd := dd) (n := n) (V := V) (J := J) (O := O) hK (s := s) (line := cel i / w) (h := h) (by omega) hln hh
    have hdiv : nI (cel i) / nI w = nI (cel i / w) := pk_div (by omega) (by omega) (by omega)
    have hp := ffst_le (fun q => h q == cel i / w) s 0
    have fr17 : ∀ (X : Nat → Int32) (y : Int32), fr (fun a _ => a = 17) V (up2 (upA V 17 X) 17 0 y) := fun X y => fr_up (fr_upA fr_rfl (fun _ => rfl)) rfl
    unfold lru
    by_cases hfo : ffst (fun q => h q == cel i / w) s 0 < s
    · rw [if_pos hfo]
      rw [if_pos hfo] at hhe
      generalize ffst (fun q => h q == cel i / w) s 0 = p at *
      obtain ⟨V', z1, z2⟩ := ih (i + 1) s ms (mtf (cel i / w) p h) _ (by omega) hs (hC.fr (fr17 (va_cpy (V 17) (V 17) 0 1 p) (nI (cel i / w)))) (mtf_V hh hln (by omega) (by omega) (by omega))
      refine ⟨V', wX9_missesByUsed_8 hK (bf (lp_in hC.2.1 (by omega) (by omega)) ⟨nI_v (by omega) (by omega), nI_ne0 (by omega) (by omega), _, by rw [nI_c (by omega), hc1, hdiv]; exact hhe, nt ?_ ?_⟩), fr_mo (fr_tr (fr17 _ _) z2) (fun a k q => by omega)⟩
      · intro q
        exact absurd (congrArg (fun x : Int32 => x < 0) q) (by simp only [eq_iff_iff]; intro q2; exact nI_pos (n := p) (by omega) (q2.mpr (by decide)))
      · rw [z0, z1', nI_c (show p < 100000 by omega), nI_c (show i < 100000 by omega), hc1, hdiv, nI_1]
        exact ⟨⟨by decide, by decide, nI_pos (by omega), by omega, by omega⟩, nI_v (a := 0) (by omega) (by omega), z1⟩
    · rw [if_neg hfo]
      rw [if_neg hfo] at hhe
      by_cases hsf : s < f
      · rw [if_pos hsf]
        obtain ⟨V', z1, z2⟩ := ih (i + 1) (s + 1) (ms + 1) (mtf (cel i / w) s h) _ (by omega) (by omega) (hC.fr (fr17 (va_cpy (V 17) (V 17) 0 1 s) (nI (cel i / w)))) (mtf_V hh hln (by omega) (by omega) (by omega))
        refine ⟨V', wX9_missesByUsed_8 hK (bf (lp_in hC.2.1 (by omega) (by omega)) ⟨nI_v (by omega) (by omega), nI_ne0 (by omega) (by omega), _, by rw [nI_c (by omega), hc1, hdiv]; exact hhe, nf rfl ?_⟩), fr_mo (fr_tr (fr17 _ _) z2) (fun a k q => by omega)⟩
        have e1 : (if nI f < nI s + 1 then nI f else nI s + 1) = nI (s + 1) := by
          rw [nI_1, min_n (by omega) (by omega)]
          congr 1
          split <;> omega
        rw [e1, nI_pred, z0, z1', nI_c (show s < 100000 by omega), nI_c (show i < 100000 by omega), hc1, hdiv, nI_1, nI_1]
        rw [show ms + (1 + lru f (fun i => cel i / w) k (i + 1) (s + 1) (mtf (cel i / w) s h)) = ms + 1 + lru f (fun i => cel i / w) k (i + 1) (s + 1) (mtf (cel i / w) s h) by omega]
        exact ⟨⟨by decide, by decide, nI_pos (by omega), by omega, by omega⟩, nI_v (a := 0) (by omega) (by omega), z1⟩
      · rw [if_neg hsf]
        have hsf2 : s = f := by omega
        obtain ⟨V', z1, z2⟩ := ih (i + 1) s (ms + 1) (mtf (cel i / w) (s - 1) h) _ (by omega) (by omega) (hC.fr (fr17 (va_cpy (V 17) (V 17) 0 1 (s - 1)) (nI (cel i / w)))) (mtf_V hh hln (by omega) (by omega) (by omega))
        refine ⟨V', wX9_missesByUsed_8 hK (bf (lp_in hC.2.1 (by omega) (by omega)) ⟨nI_v (by omega) (by omega), nI_ne0 (by omega) (by omega), _, by rw [nI_c (by omega), hc1, hdiv]; exact hhe, nf rfl ?_⟩), fr_mo (fr_tr (fr17 _ _) z2) (fun a k q => by omega)⟩
        have e1 : (if nI f < nI s + 1 then nI f else nI s + 1) = nI s := by
          rw [nI_1, min_n (by omega) (by omega)]
          congr 1
          split <;> omega
        have e2 : nI s - 1 = nI (s - 1) := by rw [show (1 : Int32) = nI 1 from rfl, nI_s (by omega)]
        rw [e1, e2, z0, z1', nI_c (show s - 1 < 100000 by omega), nI_c (show i < 100000 by omega), hc1, hdiv, nI_1, nI_1]
        rw [show ms + (1 + lru f (fun i => cel i / w) k (i + 1) s (mtf (cel i / w) (s - 1) h)) = ms + 1 + lru f (fun i => cel i / w) k (i + 1) s (mtf (cel i / w) (s - 1) h) by omega]
        exact ⟨⟨by decide, by decide, nI_pos (by omega), by omega, by omega⟩, nI_v (a := 0) (by omega) (by omega), z1⟩
end
