/-! ===== rows of a shelf: row, shift, taken ===== -/
/-- from j up to e, all v -/
def filJ (J : SJV) (a j e : Nat) (v : Int64) : SJV := fun b k => if b = a ∧ j ≤ k ∧ k < e then v else J b k
theorem filJ_up {J : SJV} {a j e : Nat} {v : Int64} (h : j < e) : filJ (up2 J a j v) a (j + 1) e v = filJ J a j e v := by
  funext b k
  unfold filJ
  by_cases c : b = a ∧ j ≤ k ∧ k < e
  · rw [if_pos c]
    by_cases e1 : k = j
    · rw [if_neg (by omega), c.1, e1, up2_s]
    · rw [if_pos (by omega)]
  · rw [if_neg c, if_neg (by omega)]
    by_cases e1 : b = a
    · rw [up2_k (by omega)]
    · rw [up2_a e1]
theorem filJ_0 {J : SJV} {a j e : Nat} {v : Int64} (h : e ≤ j) : filJ J a j e v = J := by
  funext b k
  unfold filJ
  rw [if_neg (by omega)]
/-- k places, from sp of a to dp of b -/
def cpJ (J : SJV) (a b sp dp k : Nat) : SJV := upA J b (va_cpy (J a) (J b) sp dp k)
theorem cpJ_in {J : SJV} {a b sp dp k j : Nat} (h1 : dp ≤ j) (h2 : j < dp + k) : cpJ J a b sp dp k b j = J a (sp + (j - dp)) := by
  unfold cpJ
  rw [upA_s, pk_cpy_in h1 h2]
theorem cpJ_out {J : SJV} {a b sp dp k j : Nat} (h : ¬ (dp ≤ j ∧ j < dp + k)) : cpJ J a b sp dp k b j = J b j := by
  unfold cpJ
  rw [upA_s, pk_cpy_out (by omega)]
theorem cpJ_o {J : SJV} {a b sp dp k c j : Nat} (h : c ≠ b) : cpJ J a b sp dp k c j = J c j := by
  unfold cpJ
  rw [upA_o h]
theorem cpJ_0 {J : SJV} {a b sp dp : Nat} : cpJ J a b sp dp 0 = J := by
  funext c j
  by_cases e : c = b
  · rw [e, cpJ_out (by omega)]
  · rw [cpJ_o e]
theorem cpJ_up {J : SJV} {a b sp dp k : Nat} : up2 (cpJ J a b sp dp k) b (dp + k) (J a (sp + k)) = cpJ J a b sp dp (k + 1) := by
  funext c j
  by_cases e : c = b
  · rw [e]
    by_cases e1 : j = dp + k
    · rw [e1, up2_s, cpJ_in (by omega) (by omega)]
      congr 1
      omega
    · rw [up2_k e1]
      by_cases e2 : dp ≤ j ∧ j < dp + k
      · rw [cpJ_in e2.1 e2.2, cpJ_in e2.1 (by omega)]
      · rw [cpJ_out e2, cpJ_out (by omega)]
  · rw [up2_a e, cpJ_o e, cpJ_o e]
section
variable {G : Gp} {d : Nat} {K : SK} {n : Nat × Nat} {V V' : SV} {J J' : SJV} {O O' : SO} {r : Option Value}
variable {nS nT i : Nat} {ad kd ky : Nat → Nat} {fl : Nat → Nat → Nat} {ins : Nat → Bool} {x : Nat → SX} {sh : Nat → SHT} {y : Int32}
theorem J7_fill (hK : StK K) {a : Nat} (ha : K a = some (arJ 60)) {v : Int64} : ∀ m j J, j + m = 60 → Ev G d mJ7_fill_d0a16 6 [(0, .ref a), (1, .long v), (3, .int (nI j)), (4, .int (nI 60))] (K, n, V, J, O) none (K, n, V, filJ J a j 60 v, O)
  | 0, j, J, h => by
    refine wJ7_fill_d0a16_6 hK ha (bt ?_ ⟨rfl, filJ_0 (by omega)⟩)
    rw [nI_le' (by omega) (by omega)]
    omega
  | m + 1, j, J, h => by
    refine wJ7_fill_d0a16_6 hK ha (bf ?_ ⟨nI_v (by omega) (by omega), ?_⟩)
    · rw [nI_le' (by omega) (by omega)]
      omega
    · rw [nI_1, nI_c (by omega), ← filJ_up (by omega)]
      exact J7_fill hK ha m (j + 1) _ (by omega)
theorem J7_fill0 (hK : StK K) {a : Nat} (ha : K a = some (arJ 60)) {v : Int64} : Ev G d mJ7_fill_d0a16 0 [(0, .ref a), (1, .long v)] (K, n, V, J, O) none (K, n, V, filJ J a 0 60 v, O) := wJ7_fill_d0a16_0 hK ha (J7_fill hK ha 60 0 J rfl)
theorem k5x (hK : StK K) (hi : i < 6) : K (50 + 1 + i) = some (arJ 60) := by
  rcases (show i = 0 ∨ i = 1 ∨ i = 2 ∨ i = 3 ∨ i = 4 ∨ i = 5 by omega) with rfl | rfl | rfl | rfl | rfl | rfl
  · exact k51 hK
  · exact k52 hK
  · exact k53 hK
  · exact k54 hK
  · exact k55 hK
  · exact k56 hK
theorem m_row57 (hK : StK K) (hi : i < 6) {x2 x3 : Int32} : ∀ m j J, j + m = 60 * i + 60 → Ev G (d + 1) mX12_row 57 [(0, .ref 57), (1, .int (nI i)), (2, .int x2), (3, .int x3), (4, .int (nI j))] (K, n, V, J, O) (some (.int 1)) (K, n, V, filJ J 94 j (60 * i + 60) 0, O)
  | 0, j, J, h => by
    refine wX12_row_57 (x1 := nI i) (x4 := nI j) hK ?_
    refine (bt ?_ ⟨rfl, rfl, filJ_0 (by omega)⟩)
    rw [ix60', show (60 : Int32) = nI 60 from rfl, nI_add, nI_le' (by omega) (by omega)]
    omega
  | m + 1, j, J, h => by
    refine wX12_row_57 (x1 := nI i) (x4 := nI j) hK ?_
    refine (bf ?_ ⟨nI_v (by omega) (by omega), ?_⟩)
    · rw [ix60', show (60 : Int32) = nI 60 from rfl, nI_add, nI_le' (by omega) (by omega)]
      omega
    · rw [nI_1, nI_c (by omega), ← filJ_up (by omega)]
      exact m_row57 hK hi m (j + 1) _ (by omega)
theorem p_row (hK : StK K) (h : ShR nS ad sh V J O) {x1 x2 x3 : Int32} : ∃ (r : Int32) (V1 V2 : SV) (J1 J2 : SJV) (O2 : SO) (sh' : Nat → SHT), Ev G (d + 3) mX11_row 0 [(0, .ref 0), (1, .int x1), (2, .int x2), (3, .int x3)] (K, n, V, J, O) (some (.int r)) (K, n, V1, J1, O2) ∧ Ev G (d + 3) mX12_row 0 [(0, .ref 57), (1, .int x1), (2, .int x2), (3, .int x3)] (K, n, V1, J1, O2) (some (.int r)) (K, n, V2, J2, O2) ∧ fr (fun a _ => a = 48 ∨ a = 49 ∨ a = 92 ∨ a = 93) V V2 ∧ (∀ a k, a ≠ 47 → O2 a k = O a k) ∧ ShR nS ad sh' V2 J2 O2 := by
  by_cases h1 : ∃ k, k ≤ 5 ∧ x1 = nI k
  · obtain ⟨i, hi, rfl⟩ := h1
    have hi6 : i < 6 := by omega
    have hv : vp_in (nI i) 6 := nI_v hi6 (by omega)
    have hci : (nI i).toNatClampNeg = i := nI_c (by omega)
    have w1 := fun (V : SV) (J : SJV) (O : SO) => (yesShelf (G := G) (d := d + 1) (n := n) (V := V) (J := J) (O := O) hK hi6)
    by_cases h2 : ∃ k, k ≤ 4 ∧ x2 = nI k
    · obtain ⟨so, hso, rfl⟩ := h2
      have t1 : Ev G (d + 2) mX11_isWithin 0 [(0, .int (nI so)), (1, .int 0), (2, .int 4)] (K, n, V, J, O) (some (.int 1)) (K, n, V, J, O) := x_wi (N := 4) hK (by decide) hso
      have t2 : ∀ (V : SV) (J : SJV) (O : SO), Ev G (d + 2) mX12_within 0 [(0, .long (nI so).toInt64), (2, .long (0 : Int64)), (4, .long (4 : Int64))] (K, n, V, J, O) (some (.int 1)) (K, n, V, J, O) := fun V J O => m_wi (N := 4) hK (by decide) (by decide) hso
      by_cases c1 : x3 ≤ 60
      · by_cases c2 : 0 ≤ x3
        · obtain ⟨m, hm, rfl⟩ := (btw_iff (N := 60) (by decide)).mp ⟨c2, c1⟩
          refine ⟨1, up2 (up2 V 48 i (nI so)) 49 i (nI m), up2 (up2 (up2 (up2 V 48 i (nI so)) 49 i (nI m)) 92 i (nI (10 + so))) 93 i (nI m), filJ J (50 + 1 + i) 0 60 0, filJ (filJ J (50 + 1 + i) 0 60 0) 94 (60 * i) (60 * i + 60) 0, up2 O 47 i none, shU sh i (some (.inr (so, m))), wX11_row_0 hK ⟨_, (w1 _ _ _).1, bf one0 ⟨_, t1, bf one0 (bt c1 (bt c2 ⟨hv, hv, hv, hv, filJ J (50 + 1 + i) 0 60 0, ?_, rfl, ?_, rfl, ?_⟩))⟩⟩, wX12_row_0 hK ⟨_, (w1 _ _ _).2, bf one0 ⟨_, t2 _ _ _, bf one0 (bt c1 (bt c2 ⟨hv, hv, ?_⟩))⟩⟩, fr_up (fr_up (fr_up (fr_up fr_rfl (Or.inl rfl)) (Or.inr (Or.inl rfl))) (Or.inr (Or.inr (Or.inl rfl)))) (Or.inr (Or.inr (Or.inr rfl))), fun a k ha => up2_a ha, h.1, ?_, fun j hj => ?_⟩
          · rw [hci]
            exact J7_fill0 hK (k5x hK hi6)
          · rw [hci]
          · rw [hci]
          · rw [hci, ix60', show (10 : Int32) + nI so = nI (10 + so) from nI_add 10 so]
            have := m_row57 (G := G) (d := d + 2) (n := n) (V := up2 (up2 (up2 (up2 V 48 i (nI so)) 49 i (nI m)) 92 i (nI (10 + so))) 93 i (nI m)) (O := up2 O 47 i none) (x2 := nI so) (x3 := nI m) hK hi6 60 (60 * i) (filJ J (50 + 1 + i) 0 60 0) rfl
            exact this
          · intro a b ha hb
            have hJ := h.2.1 a b ha hb
            have e1 : filJ (filJ J (50 + 1 + i) 0 60 0) 94 (60 * i) (60 * i + 60) 0 (50 + 1 + a) b = filJ J (50 + 1 + i) 0 60 0 (50 + 1 + a) b := if_neg (by omega)
            rw [e1]
            by_cases e : a = i
            · have e2 : filJ J (50 + 1 + i) 0 60 0 (50 + 1 + a) b = 0 := if_pos (by omega)
              have e3 : filJ (filJ J (50 + 1 + i) 0 60 0) 94 (60 * i) (60 * i + 60) 0 94 (60 * a + b) = 0 := if_pos (by omega)
              rw [e2, e3]
            · have e2 : filJ J (50 + 1 + i) 0 60 0 (50 + 1 + a) b = J (50 + 1 + a) b := if_neg (by omega)
              have e3 : filJ (filJ J (50 + 1 + i) 0 60 0) 94 (60 * i) (60 * i + 60) 0 94 (60 * a + b) = filJ J (50 + 1 + i) 0 60 0 94 (60 * a + b) := if_neg (by omega)
              have e4 : filJ J (50 + 1 + i) 0 60 0 94 (60 * a + b) = J 94 (60 * a + b) := if_neg (by omega)
              rw [e2, e3, e4]
              exact hJ
          · unfold shU
            by_cases e : j = i
            · rw [if_pos e, e]
              exact ⟨⟨by omega, hm⟩, up2_s, by rw [up2_a (by decide), up2_a (by decide), up2_a (by decide), up2_s], by rw [up2_a (by decide), up2_a (by decide), up2_s], by rw [up2_a (by decide), up2_s], up2_s⟩
            · rw [if_neg e]
              have := h.2.2 j hj
              have g48 : up2 (up2 (up2 (up2 V 48 i (nI so)) 49 i (nI m)) 92 i (nI (10 + so))) 93 i (nI m) 48 j = V 48 j := by rw [up2_a (by decide), up2_a (by decide), up2_a (by decide), up2_k e]
              have g49 : up2 (up2 (up2 (up2 V 48 i (nI so)) 49 i (nI m)) 92 i (nI (10 + so))) 93 i (nI m) 49 j = V 49 j := by rw [up2_a (by decide), up2_a (by decide), up2_k e, up2_a (by decide)]
              have g92 : up2 (up2 (up2 (up2 V 48 i (nI so)) 49 i (nI m)) 92 i (nI (10 + so))) 93 i (nI m) 92 j = V 92 j := by rw [up2_a (by decide), up2_k e, up2_a (by decide), up2_a (by decide)]
              have g93 : up2 (up2 (up2 (up2 V 48 i (nI so)) 49 i (nI m)) 92 i (nI (10 + so))) 93 i (nI m) 93 j = V 93 j := by rw [up2_k e, up2_a (by decide), up2_a (by decide), up2_a (by decide)]
              have gO : up2 O 47 i (none : Option Nat) 47 j = O 47 j := up2_k e
              unfold shOK at *
              rw [g48, g49, g92, g93, gO]
              exact this
        · exact ⟨_, V, V, J, J, O, sh, wX11_row_0 hK ⟨_, (w1 _ _ _).1, bf one0 ⟨_, t1, bf one0 (bt c1 (bf c2 ⟨rfl, rfl, rfl, rfl⟩))⟩⟩, wX12_row_0 hK ⟨_, (w1 _ _ _).2, bf one0 ⟨_, t2 _ _ _, bf one0 (bt c1 (bf c2 ⟨rfl, rfl, rfl⟩))⟩⟩, fr_rfl, fun _ _ _ => rfl, h⟩
      · exact ⟨_, V, V, J, J, O, sh, wX11_row_0 hK ⟨_, (w1 _ _ _).1, bf one0 ⟨_, t1, bf one0 (bf c1 ⟨rfl, rfl, rfl, rfl⟩)⟩⟩, wX12_row_0 hK ⟨_, (w1 _ _ _).2, bf one0 ⟨_, t2 _ _ _, bf one0 (bf c1 ⟨rfl, rfl, rfl⟩)⟩⟩, fr_rfl, fun _ _ _ => rfl, h⟩
    · exact ⟨_, V, V, J, J, O, sh, wX11_row_0 hK ⟨_, (w1 _ _ _).1, bf one0 ⟨_, x_win (N := 4) hK (by decide) h2, bt rfl ⟨rfl, rfl, rfl, rfl⟩⟩⟩, wX12_row_0 hK ⟨_, (w1 _ _ _).2, bf one0 ⟨_, m_win (N := 4) hK (by decide) (by decide) h2, bt rfl ⟨rfl, rfl, rfl⟩⟩⟩, fr_rfl, fun _ _ _ => rfl, h⟩
  · obtain ⟨n1, n2⟩ := noShelf (G := G) (d := d + 1) (n := n) (V := V) (J := J) (O := O) hK h1
    exact ⟨-1, V, V, J, J, O, sh, wX11_row_0 hK ⟨_, n1, bt rfl ⟨rfl, rfl, rfl, rfl⟩⟩, wX12_row_0 hK ⟨_, n2, bt rfl ⟨rfl, rfl, rfl⟩⟩, fr_rfl, fun _ _ _ => rfl, h⟩
/-- so many places, from here -/
def hpQ (m : Nat) (y l : Int32) : Prop := ∃ p q, y = nI p ∧ l = nI q ∧ p + q ≤ m
theorem hp_sub {m : Nat} (hm : m ≤ 60) (hl : ¬ y < 0) : (nI m - y).toInt = m - y.toInt := by
  have h1 := Int32.le_iff_toInt_le.mp (Int32.not_lt.mp hl)
  have h2 := Int32.toInt_lt y
  have h3 : (0 : Int32).toInt = 0 := rfl
  rw [Int32.toInt_sub, nI_ti (by omega)]
  exact Int.bmod_eq_of_le (by omega) (by omega)
theorem hp_iff {m : Nat} {l : Int32} (hm : m ≤ 60) (hy : ¬ y < 0) (hl : ¬ l < 0) : y ≤ nI m - l ↔ hpQ m y l := by
  have h1 := Int32.le_iff_toInt_le.mp (Int32.not_lt.mp hl)
  have h2 := Int32.le_iff_toInt_le.mp (Int32.not_lt.mp hy)
  have h3 : (0 : Int32).toInt = 0 := rfl
  rw [h3] at h1 h2
  rw [Int32.le_iff_toInt_le, hp_sub hm hl]
  constructor
  · intro q
    obtain ⟨a, ha, ea⟩ := (btw_iff (x := y) (N := 60) (by decide)).mp ⟨Int32.not_lt.mp hy, by rw [Int32.le_iff_toInt_le, nI_ti (by omega)]; omega⟩
    obtain ⟨b, hb, eb⟩ := (btw_iff (x := l) (N := 60) (by decide)).mp ⟨Int32.not_lt.mp hl, by rw [Int32.le_iff_toInt_le, nI_ti (by omega)]; omega⟩
    refine ⟨a, b, ea, eb, ?_⟩
    rw [ea, eb, nI_ti (by omega), nI_ti (by omega)] at q
    omega
  · rintro ⟨a, b, ea, eb, hab⟩
    rw [ea, eb, nI_ti (by omega), nI_ti (by omega)]
    omega
theorem c11_hasP (hK : StK K) {m : Nat} {l : Int32} (hi : i < 6) (h49 : V 49 i = nI m) (hm : m ≤ 60) : (hpQ m y l ∧ Ev G d mX11_hasPlaces 0 [(0, .ref 0), (1, .int (nI i)), (2, .int y), (3, .int l)] (K, n, V, J, O) (some (.int 1)) (K, n, V, J, O)) ∨ (¬ hpQ m y l ∧ Ev G d mX11_hasPlaces 0 [(0, .ref 0), (1, .int (nI i)), (2, .int y), (3, .int l)] (K, n, V, J, O) (some (.int 0)) (K, n, V, J, O)) := by
  have hv : vp_in (nI i) 6 := nI_v hi (by omega)
  have neg : ∀ {z : Int32} {k : Nat}, k < 100000 → z < 0 → z = nI k → False := fun {z k} hk h e => by
    rw [e] at h
    exact nI_pos (by omega) h
  by_cases c1 : y < 0
  · exact Or.inr ⟨fun ⟨p, q, e1, e2, e3⟩ => neg (show p < 100000 by omega) c1 e1, wX11_hasPlaces_0 hK (bt c1 rfl)⟩
  by_cases c2 : l < 0
  · exact Or.inr ⟨fun ⟨p, q, e1, e2, e3⟩ => neg (show q < 100000 by omega) c2 e2, wX11_hasPlaces_0 hK (bf c1 (bt c2 rfl))⟩
  by_cases c3 : nI m < l
  · refine Or.inr ⟨fun ⟨p, q, e1, e2, e3⟩ => ?_, wX11_hasPlaces_0 hK (bf c1 (bf c2 ⟨hv, bt (by rw [nI_c (by omega), h49]; exact c3) rfl⟩))⟩
    rw [e2, nI_l' (by omega) (by omega)] at c3
    omega
  by_cases c4 : nI m - l < y
  · exact Or.inr ⟨fun q => Int32.not_le.mpr c4 ((hp_iff hm c1 c2).mpr q), wX11_hasPlaces_0 hK (bf c1 (bf c2 ⟨hv, bf (by rw [nI_c (by omega), h49]; exact c3) ⟨hv, bt (by rw [nI_c (by omega), h49]; exact c4) rfl⟩⟩))⟩
  · exact Or.inl ⟨(hp_iff hm c1 c2).mp (Int32.not_lt.mp c4), wX11_hasPlaces_0 hK (bf c1 (bf c2 ⟨hv, bf (by rw [nI_c (by omega), h49]; exact c3) ⟨hv, bf (by rw [nI_c (by omega), h49]; exact c4) rfl⟩⟩))⟩
end
