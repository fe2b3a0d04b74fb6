/-! ===== things from a shelf ===== -/
theorem w64_add {a b : Nat} (ha : a < 100000) (hb : b < 100000) : (nI a).toInt64 + (nI b).toInt64 = (nI (a + b)).toInt64 := by
  rw [← Int64.toInt_inj, Int64.toInt_add, Int32.toInt_toInt64, Int32.toInt_toInt64, Int32.toInt_toInt64, nI_ti ha, nI_ti hb, nI_toInt (by omega)]
  rw [Int.bmod_eq_of_le (by omega) (by omega)]
  omega
theorem w64_mul {a b : Nat} (ha : a < 1000) (hb : b < 1000) : (nI a).toInt64 * (nI b).toInt64 = (nI (a * b)).toInt64 := by
  have h : a * b < 1000000 := by
    have := Nat.mul_le_mul (show a ≤ 999 by omega) (show b ≤ 999 by omega)
    omega
  rw [← Int64.toInt_inj, Int64.toInt_mul, Int32.toInt_toInt64, Int32.toInt_toInt64, Int32.toInt_toInt64, nI_ti (by omega), nI_ti (by omega), nI_toInt (by omega)]
  have e : ((a : Int) * (b : Int)) = ((a * b : Nat) : Int) := by simp
  rw [e, Int.bmod_eq_of_le (by omega) (by omega)]
theorem fr4 {p dn : Nat} (hp : p ≤ 60) (hd : dn ≤ 15) : (nI p).toInt64 + (4 : Int64) * (nI dn).toInt64 = (nI (p + 4 * dn)).toInt64 := by
  rw [show (4 : Int64) = (nI 4).toInt64 from by decide, w64_mul (by omega) (by omega), w64_add (by omega) (by omega)]
theorem fr43 {a : Nat} (h : a < 1000) : (nI a).toInt64 + (3 : Int64) = (nI (a + 3)).toInt64 := by
  rw [show (3 : Int64) = (nI 3).toInt64 from by decide, w64_add (by omega) (by omega)]
section
variable {G : Gp} {d : Nat} {K : SK} {n : Nat × Nat} {V V' : SV} {J : SJV} {O : SO} {r : Option Value}
variable {nS nT nG i : Nat} {ad kd ky : Nat → Nat} {fl : Nat → Nat → Nat} {ins : Nat → Bool} {wt : Nat → Nat} {x : Nat → SX} {un : Nat → Bool} {mo : Nat → Option Nat} {sh : Nat → SHT}
theorem things_sep (hK : StK K) (hi : i < 6) {m p cnt : Nat} (hm60 : m ≤ 60) (hp60 : p ≤ 60) (hc15 : cnt ≤ 15) (hJ : JR J) : ∀ (k dn nT : Nat) (fl : Nat → Nat → Nat) (ins : Nat → Bool) (x : Nat → SX), dn + k = cnt → nT ≤ 80 → cn ins nT + nG = nT → StRS nS nT ad kd ky fl ins K x → ∃ (r : Int32) (nT' : Nat) (fl' : Nat → Nat → Nat) (ins' : Nat → Bool) (x' : Nat → SX), (nT' ≤ 80 ∧ (cn ins' nT' + nG = nT' ∧ kpS nT nG ins wt nT' nG ins' wt) ∧ StRS nS nT' ad kd ky fl' ins' K x') ∧ (∀ (V : SV), cT nT nG fl ins wt V → LW un mo (V 2) (V 3) → StRC nS ad kd ky fl K O x V → V 49 i = nI m → ∃ V1, Ev G (d + 8) mX11_things 52 [(0, .ref 0), (1, .int (nI i)), (2, .int (nI p)), (3, .int (nI cnt)), (4, .ref (50 + 1 + i)), (5, .int (nI dn))] (K, n, V, J, O) (some (.int r)) (K, n, V1, J, O) ∧ cT nT' nG fl' ins' wt V1 ∧ StRC nS ad kd ky fl' K O x' V1 ∧ fr (frKc nS ad kd) V V1) ∧ (∀ (V : SV), mT nT fl ins V → LW un mo (V 60) (V 61) → StRM nS kd ky x V → V 93 i = nI m → ∃ V2, Ev G (d + 8) mX12_things 65 [(0, .ref 57), (1, .int (nI i)), (2, .int (nI p)), (3, .int (nI cnt)), (4, .int (nI dn)), (5, .int 1)] (K, n, V, J, O) (some (.int r)) (K, n, V2, J, O) ∧ mT nT' fl' ins' V2 ∧ StRM nS kd ky x' V2 ∧ fr (frKm nS) V V2)
  | 0, dn, nT, fl, ins, x, hdn, h80, hG, hS => by
    refine ⟨nI dn, nT, fl, ins, x, ⟨h80, ⟨hG, kpS_rfl⟩, hS⟩, fun V hc hL hs h49 => ⟨V, wX11_things_52 hK (k5x hK hi) (bt ?_ ⟨rfl, rfl⟩), hc, hs, fr_rfl⟩, fun V hm hM hs h93 => ⟨V, wX12_things_65 hK (bf one0 (bt ?_ ⟨rfl, rfl⟩)), hm, hs, fr_rfl⟩⟩
    · rw [nI_le' (by omega) (by omega)]
      omega
    · rw [nI_le' (by omega) (by omega)]
      omega
  | k + 1, dn, nT, fl, ins, x, hdn, h80, hG, hS => by
    have hle : ¬ nI cnt ≤ nI dn := by
      rw [nI_le' (by omega) (by omega)]
      omega
    have e4 : (4 : Int32) * (nI dn + 1) = nI (4 * (dn + 1)) := by
      rw [nI_1, show (4 : Int32) = nI 4 from rfl, nI_mul]
    by_cases hf : p + 4 * (dn + 1) ≤ m
    · -- there is room
      obtain ⟨r, nT', fl', ins', x', ⟨t1, t2, t3⟩, t4, t5⟩ := put_sep (G := G) (d := d) (wt := wt) (un := un) (mo := mo) hK h80 hG hS (J (50 + 1 + i) (p + 4 * dn)).toInt32 (J (50 + 1 + i) (p + 4 * dn + 1)).toInt32 (J (50 + 1 + i) (p + 4 * dn + 2)).toInt32 (J (50 + 1 + i) (p + 4 * dn + 3)).toInt32
      have ec : (nI p + 4 * nI dn) = nI (p + 4 * dn) := by
        rw [show (4 : Int32) = nI 4 from rfl, nI_mul, nI_add]
      have em : 60 * nI i + ((nI p).toInt64 + (4 : Int64) * (nI dn).toInt64).toInt32 = nI (60 * i + (p + 4 * dn)) := by
        rw [fr4 hp60 (by omega), Int32.toInt32_toInt64, ix60]
      have j0 := hJ i (p + 4 * dn) hi (by omega)
      have j1 := hJ i (p + 4 * dn + 1) hi (by omega)
      have j2 := hJ i (p + 4 * dn + 2) hi (by omega)
      have j3 := hJ i (p + 4 * dn + 3) hi (by omega)
      have cls : ∀ {V V6 Vz : SV} {rr : Int32}, V 49 i = nI m → Ev G (d + 7) mX11_put 0 [(0, .ref 0), (1, .int (J (50 + 1 + i) (p + 4 * dn)).toInt32), (2, .int (J (50 + 1 + i) (p + 4 * dn + 1)).toInt32), (3, .int (J (50 + 1 + i) (p + 4 * dn + 2)).toInt32), (4, .int (J (50 + 1 + i) (p + 4 * dn + 3)).toInt32)] (K, n, V, J, O) (some (.int r)) (K, n, V6, J, O) → (0 ≤ r → Ev G (d + 8) mX11_things 52 [(0, .ref 0), (1, .int (nI i)), (2, .int (nI p)), (3, .int (nI cnt)), (4, .ref (50 + 1 + i)), (5, .int (nI (dn + 1)))] (K, n, V6, J, O) (some (.int rr)) (K, n, Vz, J, O)) → (¬ 0 ≤ r → rr = nI dn ∧ Vz = V6) → Ev G (d + 8) mX11_things 52 [(0, .ref 0), (1, .int (nI i)), (2, .int (nI p)), (3, .int (nI cnt)), (4, .ref (50 + 1 + i)), (5, .int (nI dn))] (K, n, V, J, O) (some (.int rr)) (K, n, Vz, J, O) := by
        intro V V6 Vz rr h49 hp h1 h2
        rcases c11_hasP (G := G) (d := d + 7) (n := n) (J := J) (O := O) (y := nI p) (l := nI (4 * (dn + 1))) hK hi h49 hm60 with ⟨-, q⟩ | ⟨q, -⟩
        · refine wX11_things_52 hK (k5x hK hi) (bf hle ⟨1, by rw [e4]; exact q, bf one0 ?_⟩)
          rw [ec, show (nI (p + 4 * dn)) + 1 = nI (p + 4 * dn + 1) from nI_1 _, show (nI (p + 4 * dn)) + 2 = nI (p + 4 * dn + 2) from nI_add _ 2, show (nI (p + 4 * dn)) + 3 = nI (p + 4 * dn + 3) from nI_add _ 3, nI_c (by omega), nI_c (by omega), nI_c (by omega), nI_c (by omega)]
          refine ⟨nI_v (by omega) (by omega), nI_v (by omega) (by omega), nI_v (by omega) (by omega), nI_v (by omega) (by omega), r, V6, hp, fun z => ?_, fun z => ?_⟩
          · rw [nI_1]
            exact h1 z
          · obtain ⟨y1, y2⟩ := h2 z
            rw [y1, y2]
            exact ⟨rfl, rfl⟩
        · exact absurd ⟨p, _, rfl, rfl, hf⟩ q
      have rfn : ∀ {V V6 Vz : SV} {rr : Int32}, V 93 i = nI m → Ev G (d + 7) mX12_put 0 [(0, .ref 57), (1, .int (J (50 + 1 + i) (p + 4 * dn)).toInt32), (2, .int (J (50 + 1 + i) (p + 4 * dn + 1)).toInt32), (3, .int (J (50 + 1 + i) (p + 4 * dn + 2)).toInt32), (4, .int (J (50 + 1 + i) (p + 4 * dn + 3)).toInt32)] (K, n, V, J, O) (some (.int r)) (K, n, V6, J, O) → (0 ≤ r → Ev G (d + 8) mX12_things 65 [(0, .ref 57), (1, .int (nI i)), (2, .int (nI p)), (3, .int (nI cnt)), (4, .int (nI (dn + 1))), (5, .int 1)] (K, n, V6, J, O) (some (.int rr)) (K, n, Vz, J, O)) → (¬ 0 ≤ r → rr = nI dn ∧ Vz = V6) → Ev G (d + 8) mX12_things 65 [(0, .ref 57), (1, .int (nI i)), (2, .int (nI p)), (3, .int (nI cnt)), (4, .int (nI dn)), (5, .int 1)] (K, n, V, J, O) (some (.int rr)) (K, n, Vz, J, O) := by
        intro V V6 Vz rr h93 hp h1 h2
        refine wX12_things_65 hK (bf one0 (bf hle (bf ?_ ⟨nI_v hi (by omega), bf ?_ ?_⟩)))
        · rw [lg_cmp_lt, fr4 hp60 (by omega), Int64.not_lt, show (0 : Int64) = (nI 0).toInt64 from by decide, w64_le, nI_le' (by omega) (by omega)]
          omega
        · rw [lg_cmp_ge, fr4 hp60 (by omega), fr43 (by omega), nI_c (by omega), h93, w64_le, nI_le' (by omega) (by omega)]
          omega
        · rw [em, show (nI (60 * i + (p + 4 * dn))) + 1 = nI (60 * i + (p + 4 * dn) + 1) from nI_1 _, show (nI (60 * i + (p + 4 * dn))) + 2 = nI (60 * i + (p + 4 * dn) + 2) from nI_add _ 2, show (nI (60 * i + (p + 4 * dn))) + 3 = nI (60 * i + (p + 4 * dn) + 3) from nI_add _ 3, nI_c (by omega), nI_c (by omega), nI_c (by omega), nI_c (by omega)]
          refine ⟨nI_v (by omega) (by omega), nI_v (by omega) (by omega), nI_v (by omega) (by omega), nI_v (by omega) (by omega), r, V6, ?_, fun z => ?_, fun z => ?_⟩
          · rw [Nat.add_assoc (60 * i), Nat.add_assoc (60 * i), Nat.add_assoc (60 * i), ← j0, ← j1, ← j2, ← j3]
            exact hp
          · obtain ⟨y1, y2⟩ := h2 (Int32.not_le.mpr z)
            rw [y1, y2, show (nI dn) + 0 = nI dn from nI_add _ 0]
            exact wX12_things_201 hK (wX12_things_65 hK (bt rfl ⟨rfl, rfl⟩))
          · rw [nI_1]
            exact wX12_things_201 hK (h1 (Int32.not_lt.mp z))
      by_cases hr : 0 ≤ r
      · obtain ⟨rr, nT2, fl2, ins2, x2, u1, u2, u3⟩ := things_sep hK hi hm60 hp60 hc15 hJ k (dn + 1) nT' fl' ins' x' (by omega) t1 t2.1 t3
        refine ⟨rr, nT2, fl2, ins2, x2, ⟨u1.1, ⟨u1.2.1.1, kpS_tr t2.2 u1.2.1.2⟩, u1.2.2⟩, fun V hc hL hs h49 => ?_, fun V hm hM hs h93 => ?_⟩
        · obtain ⟨V1, y1, y2, y3, y4⟩ := t4 n V J O hc hL hs
          have hlo : ∀ a k, frKc nS ad kd a k → (5 ≤ a ∧ a ≤ 9) ∨ (a = 1 ∧ (k = 2 ∨ k = 6)) ∨ 96 ≤ a := fun a k q => by
            rcases q with q | q | q
            · omega
            · omega
            · exact Or.inr (Or.inr (frS_lo (fun i hi => (hS.2.1 i hi).1.1) q))
          have y4' := fr_mo y4 hlo
          obtain ⟨Vz, z1, z2, z3, z4⟩ := u2 V1 y2 (LW_fr hL (fun k => y4' _ _ (by omega)) (fun k => y4' _ _ (by omega))) y3 (by rw [y4' _ _ (by omega)]; exact h49)
          exact ⟨Vz, cls h49 y1 (fun _ => z1) (fun q => absurd hr q), z2, z3, fr_mo (fr_tr y4 z4) (fun a k q => q.elim id id)⟩
        · obtain ⟨V1, y1, y2, y3, y4⟩ := t5 n V J O hm hM hs
          obtain ⟨Vz, z1, z2, z3, z4⟩ := u3 V1 y2 (LW_fr hM (fun k => y4 _ _ (by unfold frKm frQ; omega)) (fun k => y4 _ _ (by unfold frKm frQ; omega))) y3 (by rw [y4 _ _ (by unfold frKm frQ; omega)]; exact h93)
          exact ⟨Vz, rfn h93 y1 (fun _ => z1) (fun q => absurd hr q), z2, z3, fr_mo (fr_tr y4 z4) (fun a k q => q.elim id id)⟩
      · refine ⟨nI dn, nT', fl', ins', x', ⟨t1, t2, t3⟩, fun V hc hL hs h49 => ?_, fun V hm hM hs h93 => ?_⟩
        · obtain ⟨V1, y1, y2, y3, y4⟩ := t4 n V J O hc hL hs
          exact ⟨V1, cls h49 y1 (fun q => absurd q hr) (fun _ => ⟨rfl, rfl⟩), y2, y3, y4⟩
        · obtain ⟨V1, y1, y2, y3, y4⟩ := t5 n V J O hm hM hs
          exact ⟨V1, rfn h93 y1 (fun q => absurd q hr) (fun _ => ⟨rfl, rfl⟩), y2, y3, y4⟩
    · -- there is none
      refine ⟨nI dn, nT, fl, ins, x, ⟨h80, ⟨hG, kpS_rfl⟩, hS⟩, fun V hc hL hs h49 => ⟨V, ?_, hc, hs, fr_rfl⟩, fun V hm hM hs h93 => ⟨V, wX12_things_65 hK (bf one0 (bf hle (bf ?_ ⟨nI_v hi (by omega), bt ?_ (wX12_things_116 hK (wX12_things_201 hK (wX12_things_65 hK (bt rfl ⟨rfl, rfl⟩))))⟩))), hm, hs, fr_rfl⟩⟩
      · rcases c11_hasP (G := G) (d := d + 7) (n := n) (J := J) (O := O) (y := nI p) (l := nI (4 * (dn + 1))) hK hi h49 hm60 with ⟨⟨a, b, e1, e2, e3⟩, -⟩ | ⟨-, q⟩
        · have e1' : p = a := Classical.byContradiction (fun z => nI_nq (by omega) (by omega) z e1)
          have e2' : 4 * (dn + 1) = b := Classical.byContradiction (fun z => nI_nq (by omega) (by omega) z e2)
          omega
        · exact wX11_things_52 hK (k5x hK hi) (bf hle ⟨0, by rw [e4]; exact q, bt rfl ⟨rfl, rfl⟩⟩)
      · rw [lg_cmp_lt, fr4 hp60 (by omega), Int64.not_lt, show (0 : Int64) = (nI 0).toInt64 from by decide, w64_le, nI_le' (by omega) (by omega)]
        omega
      · rw [lg_cmp_ge, fr4 hp60 (by omega), fr43 (by omega), nI_c (by omega), h93, w64_le, nI_le' (by omega) (by omega)]
        omega
theorem bad_p {x2 : Int32} {m : Nat} (hm : m ≤ 60) (h : ¬ ∃ p, p ≤ 60 ∧ x2 = nI p) : x2.toInt64 + (4 : Int64) * (nI 0).toInt64 < 0 ∨ (nI m).toInt64 ≤ x2.toInt64 + (4 : Int64) * (nI 0).toInt64 + 3 := by
  have e0 : x2.toInt64 + (4 : Int64) * (nI 0).toInt64 = x2.toInt64 := by
    rw [show (4 : Int64) * (nI 0).toInt64 = 0 from by decide, Int64.add_zero]
  rw [e0]
  by_cases c : x2 < 0
  · left
    rw [Int64.lt_iff_toInt_lt, Int32.toInt_toInt64]
    exact Int32.lt_iff_toInt_lt.mp c
  · right
    have c1 : ¬ x2 ≤ 60 := fun q => h ((btw_iff (N := 60) (by decide)).mp ⟨Int32.not_lt.mp c, q⟩)
    have c2 := Int32.lt_iff_toInt_lt.mp (Int32.not_le.mp c1)
    have c3 := Int32.toInt_lt x2
    rw [show (60 : Int32).toInt = 60 from rfl] at c2
    rw [Int64.le_iff_toInt_le, Int64.toInt_add, Int32.toInt_toInt64, Int32.toInt_toInt64, nI_ti (by omega), show (3 : Int64).toInt = 3 from rfl, Int.bmod_eq_of_le (by omega) (by omega)]
    omega
theorem p_things (hK : StK K) (hc : cT nT nG fl ins wt V) (hm : mT nT fl ins V) (hL : LW un mo (V 2) (V 3)) (hM : LW un mo (V 60) (V 61)) (hG : cn ins nT + nG = nT) (hS : StR nS nT ad kd ky fl ins K O x V) (h : ShR nS ad sh V J O) {x1 x2 x3 : Int32} : ∃ (r : Int32) (V1 V2 : SV) (nT' : Nat) (fl' : Nat → Nat → Nat) (ins' : Nat → Bool) (x' : Nat → SX), Ev G (d + 8) mX11_things 0 [(0, .ref 0), (1, .int x1), (2, .int x2), (3, .int x3)] (K, n, V, J, O) (some (.int r)) (K, n, V1, J, O) ∧ Ev G (d + 8) mX12_things 0 [(0, .ref 57), (1, .int x1), (2, .int x2), (3, .int x3)] (K, n, V1, J, O) (some (.int r)) (K, n, V2, J, O) ∧ fr (frK nS ad kd) V V2 ∧ cT nT' nG fl' ins' wt V2 ∧ mT nT' fl' ins' V2 ∧ cn ins' nT' + nG = nT' ∧ kpS nT nG ins wt nT' nG ins' wt ∧ StR nS nT' ad kd ky fl' ins' K O x' V2 := by
  have done : ∀ {rr : Int32}, Ev G (d + 8) mX11_things 0 [(0, .ref 0), (1, .int x1), (2, .int x2), (3, .int x3)] (K, n, V, J, O) (some (.int rr)) (K, n, V, J, O) → Ev G (d + 8) mX12_things 0 [(0, .ref 57), (1, .int x1), (2, .int x2), (3, .int x3)] (K, n, V, J, O) (some (.int rr)) (K, n, V, J, O) → ∃ (r : Int32) (V1 V2 : SV) (nT' : Nat) (fl' : Nat → Nat → Nat) (ins' : Nat → Bool) (x' : Nat → SX), Ev G (d + 8) mX11_things 0 [(0, .ref 0), (1, .int x1), (2, .int x2), (3, .int x3)] (K, n, V, J, O) (some (.int r)) (K, n, V1, J, O) ∧ Ev G (d + 8) mX12_things 0 [(0, .ref 57), (1, .int x1), (2, .int x2), (3, .int x3)] (K, n, V1, J, O) (some (.int r)) (K, n, V2, J, O) ∧ fr (frK nS ad kd) V V2 ∧ cT nT' nG fl' ins' wt V2 ∧ mT nT' fl' ins' V2 ∧ cn ins' nT' + nG = nT' ∧ kpS nT nG ins wt nT' nG ins' wt ∧ StR nS nT' ad kd ky fl' ins' K O x' V2 := fun {rr} a b => ⟨rr, V, V, nT, fl, ins, x, a, b, fr_rfl, hc, hm, hG, kpS_rfl, hS⟩
  by_cases h1 : ∃ k, k ≤ 5 ∧ x1 = nI k
  · obtain ⟨i, hi, rfl⟩ := h1
    have hi6 : i < 6 := by omega
    have hv : vp_in (nI i) 6 := nI_v hi6 (by omega)
    have hci : (nI i).toNatClampNeg = i := nI_c (by omega)
    have w1 := fun (V : SV) => (yesShelf (G := G) (d := d + 6) (n := n) (V := V) (J := J) (O := O) hK hi6)
    by_cases h2 : ∃ k, (1 ≤ k ∧ k ≤ 15) ∧ x3 = nI k
    · obtain ⟨cnt, ⟨hc1, hc15⟩, rfl⟩ := h2
      have t1 : Ev G (d + 7) mX11_isWithin 0 [(0, .int (nI cnt)), (1, .int 1), (2, .int 15)] (K, n, V, J, O) (some (.int 1)) (K, n, V, J, O) := ev_b (c11_isWithin hK) ((btw1_iff (N := 15) (by decide)).mpr ⟨cnt, ⟨hc1, hc15⟩, rfl⟩)
      have t2 : ∀ (V : SV), Ev G (d + 7) mX12_within 0 [(0, .long (nI cnt).toInt64), (2, .long (1 : Int64)), (4, .long (15 : Int64))] (K, n, V, J, O) (some (.int 1)) (K, n, V, J, O) := fun V => ev_b (c12_wi hK (lo := 1) (hi := 15) (by decide) (by decide)) ((btw1_iff (N := 15) (by decide)).mpr ⟨cnt, ⟨hc1, hc15⟩, rfl⟩)
      have na := c11_holdsNothing (G := G) (d := d + 7) (n := n) (J := J) hK hS h hi6
      have ho := h.2.2 i hi6
      cases e : sh i with
      | none =>
        rw [e] at ho
        refine done (rr := 0) (wX11_things_0 hK ⟨_, (w1 V).1, bf one0 ⟨_, t1, nt one0 ⟨_, ev_b na e, bf one0 ⟨rfl, rfl⟩⟩⟩⟩) (wX12_things_0 hK ⟨_, (w1 V).2, bf one0 ⟨_, t2 V, nt one0 ⟨hv, bt ?_ (wX12_things_45 hK ⟨hv, bt ?_ (wX12_things_65 hK (bt rfl ⟨rfl, rfl⟩))⟩)⟩⟩⟩)
        · rw [hci]
          exact ho.2.2
        · rw [hci]
          exact ho.2.2
      | some s =>
        rw [e] at ho
        have na0 := ev_n na (by rw [e]; simp)
        cases s with
        | inl a =>
          have h10 := h.1
          have ha := ho.1
          refine done (rr := -12) (wX11_things_0 hK ⟨_, (w1 V).1, bf one0 ⟨_, t1, nt one0 ⟨_, na0, bt rfl ⟨hv, bf ?_ ⟨rfl, rfl⟩⟩⟩⟩⟩) (wX12_things_0 hK ⟨_, (w1 V).2, bf one0 ⟨_, t2 V, nt one0 ⟨hv, bf ?_ ⟨hv, bf ?_ ⟨rfl, rfl⟩⟩⟩⟩⟩)
          · rw [hci, ho.2.2.1]
            decide
          · rw [hci, ho.2.2.2]
            exact nI_n1 (by omega)
          · rw [hci, ho.2.2.2]
            exact nI_nq (b := 10) (by omega) (by omega) (by omega)
        | inr q =>
          obtain ⟨⟨g1, g1'⟩, g2, g3, g4, g5, g6⟩ := ho
          by_cases es : q.1 = 0
          · rw [es] at g3 g5
            have ea : 50 + 1 + (nI i).toNatClampNeg = 50 + 1 + i := by rw [hci]
            by_cases h3 : ∃ p, p ≤ 60 ∧ x2 = nI p
            · obtain ⟨p, hp, rfl⟩ := h3
              obtain ⟨y1, y2, y3⟩ := StR_parts hS
              obtain ⟨rr, nT', fl', ins', x', ⟨z1, z2, z3⟩, z4, z5⟩ := things_sep (G := G) (d := d) (n := n) (O := O) (wt := wt) (un := un) (mo := mo) hK hi6 g1' hp hc15 h.2.1 cnt 0 nT fl ins x (by omega) hc.1.1 hG y1
              obtain ⟨V1, a1, a2, a3, a4⟩ := z4 V hc hL y2 g4
              have a4' : fr (fun a k => (5 ≤ a ∧ a ≤ 9) ∨ (a = 1 ∧ (k = 2 ∨ k = 6)) ∨ 96 ≤ a) V V1 := fr_mo a4 (fun a k q => by
                rcases q with q | q | q
                · omega
                · omega
                · exact Or.inr (Or.inr (frS_lo (fun i hi => (y1.2.1 i hi).1.1) q)))
              obtain ⟨V2, b1, b2, b3, b4⟩ := z5 V1 (mT_fr hm (fr_mo a4' (fun a k q => by omega))) (LW_fr hM (fun k => a4' _ _ (by omega)) (fun k => a4' _ _ (by omega))) ⟨by rw [a4' _ _ (by omega)]; exact y3.1, fun j hj => SMi_o (y3.2 j hj) (fr_mo a4' (fun a k q => by omega))⟩ (by rw [a4' _ _ (by omega)]; exact g6)
              refine ⟨rr, V1, V2, nT', fl', ins', x', wX11_things_0 hK ⟨_, (w1 V).1, bf one0 ⟨_, t1, nt one0 ⟨_, na0, bt rfl ⟨hv, bt ?_ ⟨hv, ?_⟩⟩⟩⟩⟩, wX12_things_0 hK ⟨_, (w1 V1).2, bf one0 ⟨_, t2 V1, nt one0 ⟨hv, bf ?_ ⟨hv, bt ?_ (wX12_things_45 hK ⟨hv, bf ?_ b1⟩)⟩⟩⟩⟩, ?_, cT_fr a2 (fr_mo b4 (fun a k q => by unfold frKm frQ at q; omega)), b2, z2.1, z2.2, StR_of z3 ⟨?_, fun j hj => SCi_o (a3.2 j hj) (fr_mo b4 (fun a k q => by unfold frKm frQ at q; omega))⟩ b3⟩
              · rw [hci]
                exact g3
              · rw [hci]
                exact a1
              · rw [hci, a4' _ _ (by omega), g5]
                decide
              · rw [hci, a4' _ _ (by omega), g5]
                rfl
              · rw [hci, a4' _ _ (by omega), g5]
                decide
              · exact fr_mo (fr_tr a4 b4) (fun a k q => by
                  unfold frK
                  rcases q with (q | q | q) | (q | q | q | q)
                  · exact Or.inl q
                  · exact Or.inr (Or.inl q)
                  · exact Or.inr (Or.inr (Or.inr (Or.inr (Or.inr (Or.inl q)))))
                  · exact Or.inr (Or.inr (Or.inl q))
                  · exact Or.inr (Or.inr (Or.inr (Or.inl q)))
                  · exact Or.inr (Or.inr (Or.inr (Or.inr (Or.inl q))))
                  · exact Or.inr (Or.inr (Or.inr (Or.inr (Or.inr (Or.inr q))))))
              · rw [b4 _ _ (by unfold frKm frQ; omega)]
                exact a3.1
            · have hle : ¬ nI cnt ≤ 0 := by
                show ¬ nI cnt ≤ nI 0
                rw [nI_le' (by omega) (by omega)]
                omega
              refine done (rr := 0) (wX11_things_0 hK ⟨_, (w1 V).1, bf one0 ⟨_, t1, nt one0 ⟨_, na0, bt rfl ⟨hv, bt ?_ ⟨hv, ?_⟩⟩⟩⟩⟩) (wX12_things_0 hK ⟨_, (w1 V).2, bf one0 ⟨_, t2 V, nt one0 ⟨hv, bf ?_ ⟨hv, bt ?_ (wX12_things_45 hK ⟨hv, bf ?_ (wX12_things_65 hK (bf one0 (bf hle ⟨fun _ => wX12_things_116 hK (wX12_things_201 hK (wX12_things_65 hK (bt rfl ⟨rfl, rfl⟩))), fun y1 => ⟨hv, fun _ => wX12_things_116 hK (wX12_things_201 hK (wX12_things_65 hK (bt rfl ⟨rfl, rfl⟩))), fun y2 => ?_⟩⟩)))⟩)⟩⟩⟩⟩)
              · rw [hci]
                exact g3
              · rw [hci]
                rcases c11_hasP (G := G) (d := d + 7) (n := n) (J := J) (O := O) (y := x2) (l := nI 4) hK hi6 g4 g1' with ⟨⟨a, b, e1, e2, e3⟩, -⟩ | ⟨-, z⟩
                · exact absurd ⟨a, by omega, e1⟩ h3
                · exact wX11_things_52 hK (k5x hK hi6) (bf hle ⟨0, z, bt rfl ⟨rfl, rfl⟩⟩)
              · rw [hci, g5]
                decide
              · rw [hci, g5]
                rfl
              · rw [hci, g5]
                decide
              · exfalso
                rw [hci, g6, lg_cmp_ge] at y2
                rw [lg_cmp_lt] at y1
                rcases bad_p g1' h3 with z | z
                · exact y1 z
                · exact y2 z
          · refine done (rr := -12) (wX11_things_0 hK ⟨_, (w1 V).1, bf one0 ⟨_, t1, nt one0 ⟨_, na0, bt rfl ⟨hv, bf ?_ ⟨rfl, rfl⟩⟩⟩⟩⟩) (wX12_things_0 hK ⟨_, (w1 V).2, bf one0 ⟨_, t2 V, nt one0 ⟨hv, bf ?_ ⟨hv, bf ?_ ⟨rfl, rfl⟩⟩⟩⟩⟩)
            · rw [hci, g3]
              exact nI_nq (b := 0) (by omega) (by omega) es
            · rw [hci, g5]
              exact nI_n1 (by omega)
            · rw [hci, g5]
              exact nI_nq (b := 10) (by omega) (by omega) (by omega)
    · refine done (rr := -1) (wX11_things_0 hK ⟨_, (w1 V).1, bf one0 ⟨_, ev_n (c11_isWithin hK) (fun q => h2 ((btw1_iff (N := 15) (by decide)).mp q)), nf rfl ⟨rfl, rfl⟩⟩⟩) (wX12_things_0 hK ⟨_, (w1 V).2, bf one0 ⟨_, ev_n (c12_wi hK (lo := 1) (hi := 15) (by decide) (by decide)) (fun q => h2 ((btw1_iff (N := 15) (by decide)).mp q)), nf rfl ⟨rfl, rfl⟩⟩⟩)
  · obtain ⟨n1, n2⟩ := noShelf (G := G) (d := d + 6) (n := n) (V := V) (J := J) (O := O) hK h1
    exact done (rr := -1) (wX11_things_0 hK ⟨_, n1, bt rfl ⟨rfl, rfl⟩⟩) (wX12_things_0 hK ⟨_, n2, bt rfl ⟨rfl, rfl⟩⟩)
end
