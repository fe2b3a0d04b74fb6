/-! ===== a new ask ===== -/
def kAk (K : SK) (a : Nat) : SK := fun b => if a ≤ b ∧ b < a + 4 then (akC a)[b - a]? else K b
def vAk (V : SV) (a : Nat) : SV := fun b k => if a ≤ b ∧ b < a + 4 then (if b = a ∧ k = 0 then 1 else 0) else V b k
abbrev ak0 : List Value := [.int 0, .null, .null, .null, .int 0, .int 0, .int 0, .int 0, .int 0, .int 0, .int 0, .int 0, .int 0]
section
variable {G : Gp} {d : Nat} {K : SK} {n : Nat × Nat} {V V' : SV} {J : SJV} {O : SO} {r : Option Value} {a b ci k m nA : Nat} {S : List Nat} {fs : List Value}
theorem kAk_is : IsAk (kAk K a) a := fun i c h => by
  have h4 : i < 4 := (List.getElem?_eq_some_iff.mp h).1
  unfold kAk
  rw [if_pos (by omega), show a + i - a = i by omega]
  exact h
theorem kAk_o (h : b < a) : kAk K a b = K b := if_neg (by omega)
theorem kAk_St (hK : StK K) (h : 96 ≤ a) : StK (kAk K a) := fun i c e => by
  have h96 : i < 96 := (List.getElem?_eq_some_iff.mp e).1
  rw [kAk_o (by omega)]
  exact hK i c e
theorem fi_cz {P : Int32 → Prop} (hk : K a = some (.inr (ci, fs))) (hs : ci ∈ S) (hv : fs[k]? = some (.int 0)) (h : P (V a k)) : FI S (cz (K, n, V, J, O)) a k P := ⟨ci, _, _, cz_obj hk, hs, cfill_int hv, h⟩
theorem frf_cz {P : Nat → Prop} (hk : K a = some (.inr (ci, fs))) (hs : ci ∈ S) (hv : fs[k]? = some (.ref b)) (h : P b) : FR S (cz (K, n, V, J, O)) a k P := ⟨ci, _, _, cz_obj hk, hs, cfill_ref hv, h⟩
theorem fsi_cz {P : AH → Prop} {x : Int32} (hk : K a = some (.inr (ci, fs))) (hs : ci ∈ S) (hv : fs[k]? = some (.int 0)) (h : P (cz (K, n, up2 V a k x, J, O))) : FS S (cz (K, n, V, J, O)) a k (.int x) P := ⟨ci, _, cz_obj hk, hs, cfill_len hv, by rw [cz_putI hk hv]; exact h⟩
theorem mk_ask {Q : Option Value → AH → Prop} (hq : Q none (cz (kAk K n.1, (n.1 + 4, n.2 + 58), vAk V n.1, J, O))) : wp G d mX0_init 0 [(0, .ref n.1)] [] (hnew (cz (K, n, V, J, O)) (.inr (0, ak0)) 13) (n.1 + 4, n.2 + 58) Q := by
  refine vX0_init_0 ⟨0, ak0, if_pos rfl, by decide, by decide, ?_⟩
  refine ⟨by show n.1 + 1 + 1 ≤ n.1 + 4; omega, by show n.2 + 13 + 15 ≤ n.2 + 58; omega, ?_⟩
  refine ⟨0, ak0.set 0 (.int 1), ?_, by decide, by decide, ?_⟩
  · show (if n.1 = n.1 + 1 then _ else if n.1 = n.1 then _ else _) = _
    rw [if_neg (by omega), if_pos rfl]
  refine ⟨by show n.1 + 1 + 1 + 1 ≤ n.1 + 4; omega, by show n.2 + 13 + 15 + 15 ≤ n.2 + 58; omega, ?_⟩
  refine ⟨0, (ak0.set 0 (.int 1)).set 1 (.ref (n.1 + 1)), ?_, by decide, Nat.le_of_ble_eq_true rfl, ?_⟩
  · show (if n.1 = n.1 + 1 + 1 then _ else if n.1 = n.1 then _ else _) = _
    rw [if_neg (by omega), if_pos rfl]
    rfl
  refine ⟨by show n.1 + 1 + 1 + 1 + 1 ≤ n.1 + 4; omega, by show n.2 + 13 + 15 + 15 + 15 ≤ n.2 + 58; omega, ?_⟩
  refine ⟨0, ((ak0.set 0 (.int 1)).set 1 (.ref (n.1 + 1))).set 2 (.ref (n.1 + 2)), ?_, by decide, Nat.le_of_ble_eq_true rfl, ?_⟩
  · show (if n.1 = n.1 + 1 + 1 + 1 then _ else if n.1 = n.1 then _ else _) = _
    rw [if_neg (by omega), if_pos rfl]
    rfl
  refine ⟨rfl, ?_⟩
  have e : ∀ h : AH, h = cz (kAk K n.1, (n.1 + 4, n.2 + 58), vAk V n.1, J, O) → Q none h := fun h e => e ▸ hq
  refine e _ (Prod.ext (funext fun b => ?_) rfl)
  have hv0 : ∀ i k, i < 4 → 0 < i → vAk V n.1 (n.1 + i) k = 0 := fun i k h1 h2 => by
    unfold vAk
    rw [if_pos (by omega), if_neg (by omega)]
  have arr : ∀ i, i < 4 → 0 < i → kAk K n.1 (n.1 + i) = some (arI 15) → (cz (kAk K n.1, (n.1 + 4, n.2 + 58), vAk V n.1, J, O)).1 (n.1 + i) = some (.inl (0, 15, .inl (fun _ => 0))) := fun i h1 h2 h => by
    rw [cz_arr h]
    show some (Sum.inl (0, 15, Sum.inl (vAk V n.1 (n.1 + i)))) = _
    rw [show vAk V n.1 (n.1 + i) = (fun _ => 0) from funext fun k => hv0 i k h1 h2]
  by_cases b0 : b = n.1
  · rw [b0, cz_obj (ak_0 kAk_is)]
    simp [hset, hnew, cfill, cfil, vAk]
    rfl
  by_cases b1 : b = n.1 + 1
  · rw [b1, arr 1 (by omega) (by omega) (ak_1 kAk_is)]
    simp [hset, hnew, cz]
  by_cases b2 : b = n.1 + 2
  · rw [b2, arr 2 (by omega) (by omega) (ak_2 kAk_is)]
    simp [hset, hnew, cz]
  by_cases b3 : b = n.1 + 3
  · rw [b3, arr 3 (by omega) (by omega) (ak_3 kAk_is)]
    simp [hset, hnew, cz]
  have ho : ¬ (n.1 ≤ b ∧ b < n.1 + 4) := by omega
  have h1 : (cz (kAk K n.1, (n.1 + 4, n.2 + 58), vAk V n.1, J, O)).1 b = (cz (K, n, V, J, O)).1 b := by
    show (kAk K n.1 b).map (ccell (vAk V n.1 b) (J b) (O b)) = (K b).map (ccell (V b) (J b) (O b))
    rw [show kAk K n.1 b = K b from if_neg ho, show vAk V n.1 b = V b from funext fun k => if_neg ho]
  rw [h1]
  show (if b = n.1 then _ else if b = n.1 + 1 + 1 + 1 then _ else if b = n.1 then _ else if b = n.1 + 1 + 1 then _ else if b = n.1 then _ else if b = n.1 + 1 then _ else if b = n.1 then _ else if b = n.1 then _ else _) = _
  rw [if_neg b0, if_neg (by omega), if_neg b0, if_neg (by omega), if_neg b0, if_neg (by omega), if_neg b0, if_neg b0]
end
