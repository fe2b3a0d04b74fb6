/-! ===== of, unlike, most ===== -/
section
variable {G : Gp} {d : Nat} {K : SK} {n : Nat × Nat} {V V' : SV} {J J' : SJV} {O O' : SO} {r : Option Value}
variable {nT nG : Nat} {fl : Nat → Nat → Nat} {ins : Nat → Bool} {wt : Nat → Nat} {un : Nat → Bool} {mo : Nat → Option Nat}
theorem x_has (hK : StK K) (hc : cT nT nG fl ins wt V) {t : Nat} (ht : t < nT) : Ev G (d + 1) mX8_has 0 [(0, .ref 1), (1, .int (nI t))] (K, n, V, J, O) (some (.int 1)) (K, n, V, J, O) := ev_b (c8_has hK) (by rw [hc.2.1, ix_iff (by have := hc.1.1; omega)]; exact ⟨t, ht, rfl⟩)
theorem x_hasn (hK : StK K) (hc : cT nT nG fl ins wt V) {x : Int32} (h : ¬ ∃ t, t < nT ∧ x = nI t) : Ev G (d + 1) mX8_has 0 [(0, .ref 1), (1, .int x)] (K, n, V, J, O) (some (.int 0)) (K, n, V, J, O) := ev_n (c8_has hK) (by rw [hc.2.1, ix_iff (by have := hc.1.1; omega)]; exact h)
theorem m_has (hK : StK K) (hm : mT nT fl ins V) {t : Nat} (ht : t < nT) : Ev G d mX12_isThing 0 [(0, .ref 57), (1, .int (nI t))] (K, n, V, J, O) (some (.int 1)) (K, n, V, J, O) := ev_b (c12_isThing hK) (by rw [hm.2.1, lt_iff (by have := hm.1; omega)]; exact ⟨t, ht, rfl⟩)
theorem m_hasn (hK : StK K) (hm : mT nT fl ins V) {x : Int32} (h : ¬ ∃ t, t < nT ∧ x = nI t) : Ev G d mX12_isThing 0 [(0, .ref 57), (1, .int x)] (K, n, V, J, O) (some (.int 0)) (K, n, V, J, O) := ev_n (c12_isThing hK) (by rw [hm.2.1, lt_iff (by have := hm.1; omega)]; exact h)
theorem x_wi (hK : StK K) {N k : Nat} (hN : N < 100000) (h : k ≤ N) : Ev G d mX11_isWithin 0 [(0, .int (nI k)), (1, .int 0), (2, .int (nI N))] (K, n, V, J, O) (some (.int 1)) (K, n, V, J, O) := ev_b (c11_isWithin hK) ((btw_iff hN).mpr ⟨k, h, rfl⟩)
theorem x_win (hK : StK K) {N : Nat} {x : Int32} (hN : N < 100000) (h : ¬ ∃ k, k ≤ N ∧ x = nI k) : Ev G d mX11_isWithin 0 [(0, .int x), (1, .int 0), (2, .int (nI N))] (K, n, V, J, O) (some (.int 0)) (K, n, V, J, O) := ev_n (c11_isWithin hK) (fun q => h ((btw_iff hN).mp q))
theorem m_wi (hK : StK K) {N k : Nat} {N' : Int64} (hN : N < 100000) (e : N' = (nI N).toInt64) (h : k ≤ N) : Ev G d mX12_within 0 [(0, .long (nI k).toInt64), (2, .long (0 : Int64)), (4, .long N')] (K, n, V, J, O) (some (.int 1)) (K, n, V, J, O) := ev_b (c12_wi hK (lo := 0) (by decide) e) ((btw_iff hN).mpr ⟨k, h, rfl⟩)
theorem m_win (hK : StK K) {N : Nat} {x : Int32} {N' : Int64} (hN : N < 100000) (e : N' = (nI N).toInt64) (h : ¬ ∃ k, k ≤ N ∧ x = nI k) : Ev G d mX12_within 0 [(0, .long x.toInt64), (2, .long (0 : Int64)), (4, .long N')] (K, n, V, J, O) (some (.int 0)) (K, n, V, J, O) := ev_n (c12_wi hK (lo := 0) (by decide) e) (fun q => h ((btw_iff hN).mp q))
theorem p_of (hK : StK K) (hc : cT nT nG fl ins wt V) (hm : mT nT fl ins V) {x1 x2 : Int32} : ∃ r : Int32, Ev G (d + 2) mX11_of 0 [(0, .ref 0), (1, .int x1), (2, .int x2)] (K, n, V, J, O) (some (.int r)) (K, n, V, J, O) ∧ Ev G (d + 2) mX12_of 0 [(0, .ref 57), (1, .int x1), (2, .int x2)] (K, n, V, J, O) (some (.int r)) (K, n, V, J, O) := by
  have h80 := hc.1.1
  by_cases h1 : ∃ t, t < nT ∧ x1 = nI t
  · obtain ⟨t, ht, rfl⟩ := h1
    by_cases h2 : ∃ f, f ≤ 4 ∧ x2 = nI f
    · obtain ⟨f, hf, rfl⟩ := h2
      by_cases h4 : f = 4
      · subst h4
        refine ⟨bI (ins t = true), wX11_of_0 hK ⟨_, x_has hK hc ht, bf one0 ⟨_, x_wi (N := 4) hK (by decide) (by decide), nt one0 (nf rfl ⟨_, c8_isIn hK hc ht, bI_r⟩)⟩⟩, wX12_of_0 hK ⟨_, m_has hK hm ht, bf one0 ⟨_, m_wi (N := 4) hK (by decide) (by decide) (by decide), nt one0 (bt (by decide) ⟨nI_v (by omega) (by decide), ?_⟩)⟩⟩⟩
        rw [nI_c (by omega), hm.2.2.2 t ht]
        exact bI_r
      · refine ⟨nI (fl f t), wX11_of_0 hK ⟨_, x_has hK hc ht, bf one0 ⟨_, x_wi (N := 4) hK (by decide) hf, nt one0 (nt (fun q => h4 ((nI_e' (by omega) (by decide)).mp q)) ⟨_, c8_value hK hc ht (by omega), rfl⟩)⟩⟩, wX12_of_0 hK ⟨_, m_has hK hm ht, bf one0 ⟨_, m_wi (N := 4) hK (by decide) (by decide) hf, nt one0 (bf (fun q => ?_) ⟨?_, ?_⟩)⟩⟩⟩
        · rw [show (4 : Int32) = nI 4 from rfl, nI_le' (by decide) (by omega)] at q
          omega
        · rw [ix4]
          exact nI_v (by omega) (by decide)
        · rw [ix4, nI_c (by omega), hm.f58 (by omega) ht]
    · exact ⟨-1, wX11_of_0 hK ⟨_, x_has hK hc ht, bf one0 ⟨_, x_win (N := 4) hK (by decide) h2, nf rfl rfl⟩⟩, wX12_of_0 hK ⟨_, m_has hK hm ht, bf one0 ⟨_, m_win (N := 4) hK (by decide) (by decide) h2, nf rfl rfl⟩⟩⟩
  · exact ⟨-1, wX11_of_0 hK ⟨_, x_hasn hK hc h1, bt rfl rfl⟩, wX12_of_0 hK ⟨_, m_hasn hK hm h1, bt rfl rfl⟩⟩
/-- two that are in have one value of a field -/
def dupF (nT : Nat) (fl : Nat → Nat → Nat) (ins : Nat → Bool) (f : Nat) : Bool := anyF (fun t => ins t && anyF (fun u => ins u && fl f u == fl f t) t 0) nT 0
theorem m_unlike36 (hK : StK K) (hm : mT nT fl ins V) {f t : Nat} {x2 : Int32} (hf : f < 4) (ht : t < nT) {b1 : Bool} (hk : Ev G (d + 1) mX12_unlike 24 [(0, .ref 57), (1, .int (nI f)), (2, .int x2), (3, .int (bI (b1 = true))), (4, .int (nI (t + 1)))] (K, n, V, J, O) r (K, n, V', J, O)) : ∀ (k u : Nat) (b : Bool), u + k = t → (b && !(ins t && anyF (fun u => ins u && fl f u == fl f t) k u)) = b1 → Ev G (d + 1) mX12_unlike 36 [(0, .ref 57), (1, .int (nI f)), (2, .int x2), (3, .int (bI (b = true))), (4, .int (nI t)), (5, .int (nI u))] (K, n, V, J, O) r (K, n, V', J, O)
  | 0, u, b, e, hb => by
    have h80 := hm.1
    refine wX12_unlike_36 hK (bt ?_ ?_)
    · exact lp_out rfl (by omega) (by omega)
    · rw [nI_1]
      rw [anyF_0, Bool.and_false, Bool.not_false, Bool.and_true] at hb
      rw [hb]
      exact hk
  | k + 1, u, b, e, hb => by
    have h80 := hm.1
    have ih := m_unlike36 hK hm hf ht hk k (u + 1)
    rw [anyF_s] at hb
    refine wX12_unlike_36 hK (bf (lp_in rfl (by omega) (by omega)) ?_)
    rw [nI_1, ix4, ix4, nI_c (show t < 100000 by omega), nI_c (show u < 100000 by omega), nI_c (show 4 * t + f < 100000 by omega), nI_c (show 4 * u + f < 100000 by omega), hm.2.2.2 t ht, hm.2.2.2 u (by omega), hm.f58 hf ht, hm.f58 hf (show u < nT by omega)]
    have l1 := (hm.2.2.1 f t hf ht).2
    have l2 := (hm.2.2.1 f u hf (by omega)).2
    simp only [bI_e, Classical.not_not, nI_e' (show fl f t < 100000 by omega) (show fl f u < 100000 by omega)]
    have v1 := nI_v (a := t) (N := 80) (by omega) (by omega)
    have v2 := nI_v (a := u) (N := 80) (by omega) (by omega)
    have v3 := nI_v (a := 4 * t + f) (N := 320) (by omega) (by omega)
    have v4 := nI_v (a := 4 * u + f) (N := 320) (by omega) (by omega)
    refine ⟨fun q => ih false (by omega) (by rw [← hb]; simp [q]), fun q => ⟨v1, fun q1 => ih true (by omega) (by rw [← hb]; simp [q, q1]), fun q1 => ⟨v2, fun q2 => ih true (by omega) (by rw [← hb]; simp [q, q2]), fun q2 => ⟨v3, v4, fun q3 => ih false (by omega) (by rw [← hb]; simp [q1, q2, q3]), fun q3 => ih true (by omega) ?_⟩⟩⟩⟩
    have q4 : (fl f u == fl f t) = false := by simpa using fun z => q3 z.symm
    rw [← hb]
    simp [q, q4]
theorem m_unlike24 (hK : StK K) (hm : mT nT fl ins V) {f c : Nat} (hf : f < 4) (hc : c ≤ 1) (h60 : V 60 f = bI (un f = true)) : ∀ (k t : Nat) (b : Bool), t + k = nT → (b && !anyF (fun t => ins t && anyF (fun u => ins u && fl f u == fl f t) t 0) k t) = !dupF nT fl ins f → Ev G (d + 1) mX12_unlike 24 [(0, .ref 57), (1, .int (nI f)), (2, .int (nI c)), (3, .int (bI (b = true))), (4, .int (nI t))] (K, n, V, J, O) (some (.int (if c = 1 ∧ dupF nT fl ins f = true then -5 else bI (un f = true)))) (K, n, if c = 1 ∧ dupF nT fl ins f = true then V else up2 V 60 f (nI c), J, O)
  | 0, t, b, e, hb => by
    have h80 := hm.1
    have hi := nI_v (a := f) (N := 4) hf (by omega)
    rw [anyF_0, Bool.not_false, Bool.and_true] at hb
    refine wX12_unlike_24 hK (bt (lp_out hm.2.1 (by omega) (by omega)) ?_)
    rw [nI_c (by omega), h60]
    rcases (show c = 0 ∨ c = 1 by omega) with rfl | rfl
    · simp only [show ¬ (0 = 1 ∧ dupF nT fl ins f = true) from fun q => absurd q.1 (by decide), if_false]
      refine nt (by decide) ⟨hi, ?_⟩
      by_cases hu : un f = true
      · rw [bI_t hu]
        exact bf one0 (nt (by decide) ⟨hi, rfl, by rw [nar0]; rfl⟩)
      · rw [bI_f hu]
        exact bt rfl (nt (by decide) ⟨hi, rfl, by rw [nar0]; rfl⟩)
    · refine nf rfl ?_
      cases hd : dupF nT fl ins f with
      | true =>
        rw [hd] at hb
        rw [hb]
        simp only [and_self, if_true]
        exact nf rfl (by simp)
      | false =>
        rw [hd] at hb
        rw [hb]
        simp only [show ¬ (1 = 1 ∧ false = true) from fun q => absurd q.2 (by decide), if_false]
        refine nt (by decide) ⟨hi, ?_⟩
        by_cases hu : un f = true
        · rw [bI_t hu]
          exact bf one0 (nf rfl ⟨hi, rfl, by rw [nar1]; rfl⟩)
        · rw [bI_f hu]
          exact bt rfl (nf rfl ⟨hi, rfl, by rw [nar1]; rfl⟩)
  | k + 1, t, b, e, hb => by
    have h80 := hm.1
    rw [anyF_s] at hb
    refine wX12_unlike_24 hK (bf (lp_in hm.2.1 (by omega) (by omega)) ?_)
    refine m_unlike36 hK hm hf (show t < nT by omega) (b1 := b && !(ins t && anyF (fun u => ins u && fl f u == fl f t) t 0)) ?_ t 0 b (by omega) rfl
    refine m_unlike24 hK hm hf hc h60 k (t + 1) _ (by omega) ?_
    rw [← hb]
    cases b <;> simp [Bool.and_assoc]
theorem LW.set {A B : Nat → Int32} (h : LW un mo A B) {f c : Nat} (hc : c ≤ 1) {V : SV} {a : Nat} (hA : A = V a) : LW (fun g => if g = f then decide (c = 1) else un g) mo (up2 V a f (nI c) a) B := by
  intro g hg
  obtain ⟨e1, e2, e3⟩ := h g hg
  refine ⟨?_, e2, e3⟩
  by_cases e : g = f
  · subst e
    rw [up2_s]
    rcases (show c = 0 ∨ c = 1 by omega) with rfl | rfl <;> simp [bI, nI]
  · rw [up2_k e, ← hA, e1]
    simp [e]
/-- unlike: the answer and the laws behind it -/
theorem p_unlike (hK : StK K) (hc : cT nT nG fl ins wt V) (hm : mT nT fl ins V) (hL : LW un mo (V 2) (V 3)) (hM : LW un mo (V 60) (V 61)) {x1 x2 : Int32} : ∃ (r : Int32) (V1 V2 : SV) (un' : Nat → Bool), Ev G (d + 3) mX11_unlike 0 [(0, .ref 0), (1, .int x1), (2, .int x2)] (K, n, V, J, O) (some (.int r)) (K, n, V1, J, O) ∧ Ev G (d + 3) mX12_unlike 0 [(0, .ref 57), (1, .int x1), (2, .int x2)] (K, n, V1, J, O) (some (.int r)) (K, n, V2, J, O) ∧ fr (fun a _ => a = 2 ∨ a = 60) V V2 ∧ LW un' mo (V2 2) (V2 3) ∧ LW un' mo (V2 60) (V2 61) := by
  have h80 := hc.1.1
  by_cases h1 : ∃ f, f ≤ 3 ∧ x1 = nI f
  · obtain ⟨f, hf, rfl⟩ := h1
    have hi := nI_v (a := f) (N := 4) (by omega) (by omega)
    have y1 : ∀ {V : SV}, Ev G (d + 2) mX11_isField 0 [(0, .int (nI f))] (K, n, V, J, O) (some (.int 1)) (K, n, V, J, O) := ev_b (c11_isField hK) ((btw_iff (N := 3) (by decide)).mpr ⟨f, hf, rfl⟩)
    have y2 : ∀ {V : SV}, Ev G (d + 2) mX12_isField 0 [(0, .int (nI f))] (K, n, V, J, O) (some (.int 1)) (K, n, V, J, O) := ev_b (c12_isField hK) ((btw_iff (N := 3) (by decide)).mpr ⟨f, hf, rfl⟩)
    by_cases h2 : ∃ c, c ≤ 1 ∧ x2 = nI c
    · obtain ⟨c, hc1, rfl⟩ := h2
      obtain ⟨e1, e2, e3⟩ := hL f (by omega)
      obtain ⟨g1, g2, g3⟩ := hM f (by omega)
      have hx : Ev G (d + 3) mX11_unlike 0 [(0, .ref 0), (1, .int (nI f)), (2, .int (nI c))] (K, n, V, J, O) (some (.int (if c = 1 ∧ dupF nT fl ins f = true then -5 else bI (un f = true)))) (K, n, if c = 1 ∧ dupF nT fl ins f = true then V else up2 V 2 f (nI c), J, O) := by
        refine wX11_unlike_0 hK ⟨_, y1, bf one0 ⟨_, x_wi (N := 1) hK (by decide) hc1, nt one0 ?_⟩⟩
        rw [nI_c (by omega), e1]
        rcases (show c = 0 ∨ c = 1 by omega) with rfl | rfl
        · simp only [show ¬ (0 = 1 ∧ dupF nT fl ins f = true) from fun q => absurd q.1 (by decide), if_false]
          exact nt (by decide) ⟨hi, hi, by simp⟩
        · refine nf rfl ⟨_, c8_hasLikes hK hc (by omega), ?_⟩
          change (bI (dupF nT fl ins f = true) = 0 → _) ∧ (¬ bI (dupF nT fl ins f = true) = 0 → _)
          cases hd : dupF nT fl ins f with
          | true => exact bf (by decide) ⟨by simp, by simp⟩
          | false => exact bt (by decide) ⟨hi, hi, by simp, by simp⟩
      by_cases hd : c = 1 ∧ dupF nT fl ins f = true
      · rw [if_pos hd, if_pos hd] at hx
        have hy := m_unlike24 (G := G) (d := d + 2) (n := n) (J := J) (O := O) hK hm (show f < 4 by omega) hc1 g1 nT 0 true (by omega) (by simp [dupF])
        rw [if_pos hd, if_pos hd] at hy
        exact ⟨_, V, V, un, hx, wX12_unlike_0 hK ⟨_, y2, bf one0 ⟨_, m_wi (N := 1) hK (by decide) (by decide) hc1, nt one0 hy⟩⟩, fr_rfl, hL, hM⟩
      · rw [if_neg hd, if_neg hd] at hx
        have hm1 : mT nT fl ins (up2 V 2 f (nI c)) := by
          obtain ⟨m1, m2, m3, m4⟩ := hm
          exact ⟨m1, m2, m3, m4⟩
        have hy := m_unlike24 (G := G) (d := d + 2) (n := n) (J := J) (O := O) (un := un) hK hm1 (show f < 4 by omega) hc1 (by rw [up2_a (by decide)]; exact g1) nT 0 true (by omega) (by simp [dupF])
        rw [if_neg hd, if_neg hd] at hy
        refine ⟨_, _, _, fun g => if g = f then decide (c = 1) else un g, hx, wX12_unlike_0 hK ⟨_, y2, bf one0 ⟨_, m_wi (N := 1) hK (by decide) (by decide) hc1, nt one0 hy⟩⟩, fr_up (fr_up fr_rfl (Or.inl rfl)) (Or.inr rfl), ?_, ?_⟩
        · exact hL.set (f := f) hc1 (V := V) (a := 2) rfl
        · exact hM.set (f := f) hc1 (V := up2 V 2 f (nI c)) (a := 60) rfl
    · exact ⟨_, V, V, un, wX11_unlike_0 hK ⟨_, y1, bf one0 ⟨_, x_win (N := 1) hK (by decide) h2, nf rfl ⟨rfl, rfl⟩⟩⟩, wX12_unlike_0 hK ⟨_, y2, bf one0 ⟨_, m_win (N := 1) hK (by decide) (by decide) h2, nf rfl ⟨rfl, rfl⟩⟩⟩, fr_rfl, hL, hM⟩
  · exact ⟨_, V, V, un, wX11_unlike_0 hK ⟨_, ev_n (c11_isField hK) (fun q => h1 ((btw_iff (N := 3) (by decide)).mp q)), bt rfl ⟨rfl, rfl⟩⟩, wX12_unlike_0 hK ⟨_, ev_n (c12_isField hK) (fun q => h1 ((btw_iff (N := 3) (by decide)).mp q)), bt rfl ⟨rfl, rfl⟩⟩, fr_rfl, hL, hM⟩
theorem moI_le {m : Option Nat} {s k : Nat} (hk : k < 100000) (hs : s < 100000) : (nI s ≤ nI k) = (s ≤ k) := propext (nI_le' hs hk)
theorem most_cases {x : Int32} (h : btw (-1) x 9999) : x = -1 ∨ ∃ k, k ≤ 9999 ∧ x = nI k := by
  by_cases h0 : x < 0
  · left
    have h1 := Int32.le_iff_toInt_le.mp h.1
    have h2 := Int32.lt_iff_toInt_lt.mp h0
    have e1 : (-1 : Int32).toInt = -1 := by decide
    have e2 : (0 : Int32).toInt = 0 := by decide
    exact Int32.toInt_inj.mp (by omega)
  · exact Or.inr (btw_n (N := 9999) (by decide) ⟨Int32.not_lt.mp h0, h.2⟩)
theorem LW.setm {A B : Nat → Int32} (h : LW un mo A B) {f : Nat} {m : Option Nat} (hc : ∀ k, m = some k → k ≤ 9999) {V : SV} {a : Nat} (hA : B = V a) : LW un (fun g => if g = f then m else mo g) A (up2 V a f (moI m) a) := by
  intro g hg
  obtain ⟨e1, e2, e3⟩ := h g hg
  by_cases e : g = f
  · subst e
    rw [up2_s]
    simp only [if_true]
    exact ⟨e1, trivial, hc⟩
  · rw [up2_k e, ← hA]
    simp only [e, if_false]
    exact ⟨e1, e2, e3⟩
theorem p_most (hK : StK K) (hc : cT nT nG fl ins wt V) (hm : mT nT fl ins V) (hL : LW un mo (V 2) (V 3)) (hM : LW un mo (V 60) (V 61)) {x1 x2 : Int32} : ∃ (r : Int32) (V1 V2 : SV) (mo' : Nat → Option Nat), Ev G (d + 3) mX11_most 0 [(0, .ref 0), (1, .int x1), (2, .int x2)] (K, n, V, J, O) (some (.int r)) (K, n, V1, J, O) ∧ Ev G (d + 3) mX12_most 0 [(0, .ref 57), (1, .int x1), (2, .int x2)] (K, n, V1, J, O) (some (.int r)) (K, n, V2, J, O) ∧ fr (fun a _ => a = 3 ∨ a = 61) V V2 ∧ LW un mo' (V2 2) (V2 3) ∧ LW un mo' (V2 60) (V2 61) := by
  have h80 := hc.1.1
  by_cases h1 : ∃ f, f ≤ 3 ∧ x1 = nI f
  · obtain ⟨f, hf, rfl⟩ := h1
    have hi := nI_v (a := f) (N := 4) (by omega) (by omega)
    have hcl : (nI f).toNatClampNeg = f := nI_c (by omega)
    have y1 : ∀ {V : SV}, Ev G (d + 2) mX11_isField 0 [(0, .int (nI f))] (K, n, V, J, O) (some (.int 1)) (K, n, V, J, O) := ev_b (c11_isField hK) ((btw_iff (N := 3) (by decide)).mpr ⟨f, hf, rfl⟩)
    have y2 : ∀ {V : SV}, Ev G (d + 2) mX12_isField 0 [(0, .int (nI f))] (K, n, V, J, O) (some (.int 1)) (K, n, V, J, O) := ev_b (c12_isField hK) ((btw_iff (N := 3) (by decide)).mpr ⟨f, hf, rfl⟩)
    obtain ⟨e1, e2, e3⟩ := hL f (by omega)
    obtain ⟨g1, g2, g3⟩ := hM f (by omega)
    have hs : sumF ins (fl f) nT 0 ≤ 100 * nT := sumF_le fun j _ hj => by have := (hm.2.2.1 f j (by omega) (by omega)).2; omega
    by_cases h2 : btw (-1) x2 9999
    · have z1 : Ev G (d + 2) mX11_isWithin 0 [(0, .int x2), (1, .int (-1)), (2, .int 9999)] (K, n, V, J, O) (some (.int 1)) (K, n, V, J, O) := ev_b (c11_isWithin hK) h2
      have z2 : ∀ {V : SV}, Ev G (d + 2) mX12_within 0 [(0, .long x2.toInt64), (2, .long (-1 : Int64)), (4, .long (9999 : Int64))] (K, n, V, J, O) (some (.int 1)) (K, n, V, J, O) := ev_b (c12_wi hK (lo := -1) (hi := 9999) (by decide) (by decide)) h2
      have good : ∀ m : Option Nat, (∀ k, m = some k → k ≤ 9999 ∧ sumF ins (fl f) nT 0 ≤ k) → x2 = moI m → ∃ (r : Int32) (V1 V2 : SV) (mo' : Nat → Option Nat), Ev G (d + 3) mX11_most 0 [(0, .ref 0), (1, .int (nI f)), (2, .int x2)] (K, n, V, J, O) (some (.int r)) (K, n, V1, J, O) ∧ Ev G (d + 3) mX12_most 0 [(0, .ref 57), (1, .int (nI f)), (2, .int x2)] (K, n, V1, J, O) (some (.int r)) (K, n, V2, J, O) ∧ fr (fun a _ => a = 3 ∨ a = 61) V V2 ∧ LW un mo' (V2 2) (V2 3) ∧ LW un mo' (V2 60) (V2 61) := by
        intro m hm0 hx
        have hmk : ∀ k, m = some k → k ≤ 9999 := fun k hk => (hm0 k hk).1
        have hm1 : mT nT fl ins (up2 V 3 f (moI m)) := hm
        refine ⟨moI (mo f), up2 V 3 f x2, up2 (up2 V 3 f x2) 61 f x2, fun g => if g = f then m else mo g, ?_, ?_, fr_up (fr_up fr_rfl (Or.inl rfl)) (Or.inr rfl), ?_, ?_⟩
        · refine wX11_most_0 hK ⟨_, y1, bf one0 ⟨_, z1, nt one0 ?_⟩⟩
          rw [hcl, e2]
          cases m with
          | none => exact bt hx ⟨hi, hi, rfl, rfl⟩
          | some k =>
            refine bf (fun q => ?_) ⟨_, c8_sum hK hc (by omega), bt ?_ ⟨hi, hi, rfl, rfl⟩⟩
            · rw [hx] at q
              rw [moI_m1 hmk] at q
              cases q
            · rw [hx]
              exact nI_le (hm0 k rfl).2 (by have := hmk k rfl; omega)
        · refine wX12_most_0 hK ⟨_, y2, bf one0 ⟨_, z2, nt one0 ?_⟩⟩
          rw [hcl, up2_a (by decide), g2]
          cases m with
          | none =>
            refine bt ?_ ⟨hi, hi, rfl, rfl⟩
            rw [hx, moI_neg hmk]
          | some k =>
            refine bf (fun q => ?_) ⟨_, c12_sumOf hK (by rw [hx]; exact hm1) (by omega), bt ?_ ⟨hi, hi, rfl, rfl⟩⟩
            · rw [hx, moI_neg hmk] at q
              cases q
            · rw [hx]
              exact nI_le (hm0 k rfl).2 (by have := hmk k rfl; omega)
        · rw [hx]
          exact hL.setm (f := f) hmk (V := V) (a := 3) rfl
        · rw [hx]
          exact hM.setm (f := f) hmk (V := up2 V 3 f (moI m)) (a := 61) rfl
      rcases most_cases h2 with rfl | ⟨k, hk, rfl⟩
      · exact good none (fun k h => by cases h) rfl
      · by_cases hsk : sumF ins (fl f) nT 0 ≤ k
        · exact good (some k) (fun k' h => by cases h; exact ⟨hk, hsk⟩) rfl
        · have hn : ¬ nI (sumF ins (fl f) nT 0) ≤ nI k := by rw [nI_le' (by omega) (by omega)]; exact hsk
          refine ⟨-2, V, V, mo, wX11_most_0 hK ⟨_, y1, bf one0 ⟨_, z1, nt one0 (bf (fun q => ?_) ⟨_, c8_sum hK hc (by omega), bf hn ⟨rfl, rfl⟩⟩)⟩⟩, wX12_most_0 hK ⟨_, y2, bf one0 ⟨_, z2, nt one0 (bf (nI_pos (by omega)) ⟨_, c12_sumOf hK hm (by omega), bf hn ⟨rfl, rfl⟩⟩)⟩⟩, fr_rfl, hL, hM⟩
          have : moI (some k) = -1 := q
          rw [moI_m1 (fun k' h => by cases h; exact hk)] at this
          cases this
    · exact ⟨_, V, V, mo, wX11_most_0 hK ⟨_, y1, bf one0 ⟨_, ev_n (c11_isWithin hK) h2, nf rfl ⟨rfl, rfl⟩⟩⟩, wX12_most_0 hK ⟨_, y2, bf one0 ⟨_, ev_n (c12_wi hK (lo := -1) (hi := 9999) (by decide) (by decide)) h2, nf rfl ⟨rfl, rfl⟩⟩⟩, fr_rfl, hL, hM⟩
  · exact ⟨_, V, V, mo, wX11_most_0 hK ⟨_, ev_n (c11_isField hK) (fun q => h1 ((btw_iff (N := 3) (by decide)).mp q)), bt rfl ⟨rfl, rfl⟩⟩, wX12_most_0 hK ⟨_, ev_n (c12_isField hK) (fun q => h1 ((btw_iff (N := 3) (by decide)).mp q)), bt rfl ⟨rfl, rfl⟩⟩, fr_rfl, hL, hM⟩
end
