/-! ===== a heap as a list of cells: for the constructors ===== -/
def LH (L : List AC) (s : Nat) : AH := (fun a => L[a]?, L.length, s)
section
variable {L : List AC} {s a ci k N b : Nat} {S : List Nat} {fs : List Value} {v : Value} {c : AC} {fin : Nat × Nat}
theorem LH_new : hnew (LH L s) c N = LH (L ++ [c]) (s + N) := by
  refine Prod.ext (funext fun b => ?_) (Prod.ext ?_ rfl)
  · show (if b = L.length then some c else L[b]?) = (L ++ [c])[b]?
    by_cases e : b = L.length
    · rw [if_pos e, e]
      simp
    · rw [if_neg e]
      by_cases e2 : b < L.length
      · rw [List.getElem?_append_left e2]
      · rw [List.getElem?_eq_none (by omega), List.getElem?_eq_none (by rw [List.length_append, List.length_singleton]; omega)]
  · show L.length + 1 = (L ++ [c]).length
    rw [List.length_append, List.length_singleton]
theorem LH_set (h : a < L.length) : hset (LH L s) a c = LH (L.set a c) s := by
  refine Prod.ext (funext fun b => ?_) (Prod.ext ?_ rfl)
  · show (if b = a then some c else L[b]?) = (L.set a c)[b]?
    rw [List.getElem?_set]
    by_cases e : b = a
    · rw [if_pos e, if_pos e.symm, if_pos h]
    · rw [if_neg e, if_neg (fun z => e z.symm)]
  · show L.length = (L.set a c).length
    rw [List.length_set]
theorem FS_L {P : AH → Prop} (h : L[a]? = some (.inr (ci, fs))) (hs : ci ∈ S) (hk : k < fs.length) (hp : P (LH (L.set a (.inr (ci, fs.set k v))) s)) : FS S (LH L s) a k v P := ⟨ci, fs, h, hs, hk, by rw [LH_set (List.getElem?_eq_some_iff.mp h).1]; exact hp⟩
theorem FR_L {P : Nat → Prop} (h : L[a]? = some (.inr (ci, fs))) (hs : ci ∈ S) (hk : fs[k]? = some (.ref b)) (hp : P b) : FR S (LH L s) a k P := ⟨ci, fs, b, h, hs, hk, hp⟩
theorem NW_L {P : Nat → AH → Prop} (h1 : L.length + 1 ≤ fin.1) (h2 : s + N ≤ fin.2) (hp : P L.length (LH (L ++ [c]) (s + N))) : NW (LH L s) c N fin P := ⟨h1, h2, by rw [LH_new]; exact hp⟩
theorem LH_mul {t r K : Nat} {z : AK} : hmul t r z (LH L s) N K = LH (L ++ .inl (t, N, .inr (.inr (.inr (.inr (fun j => if j < N then some (L.length + 1 + j) else none))))) :: List.replicate N (.inl (r, K, z))) (s + (N + N * K)) := by
  refine Prod.ext (funext fun b => ?_) (Prod.ext ?_ rfl)
  · show (if b = L.length then (some (.inl (t, N, .inr (.inr (.inr (.inr (fun j => if j < N then some (L.length + 1 + j) else none)))))) : Option AC) else if L.length < b ∧ b < L.length + 1 + N then some (.inl (r, K, z)) else L[b]?) = (L ++ .inl (t, N, .inr (.inr (.inr (.inr (fun j => if j < N then some (L.length + 1 + j) else none))))) :: List.replicate N (.inl (r, K, z)))[b]?
    by_cases e : b = L.length
    · rw [if_pos e, e]
      simp
    · rw [if_neg e]
      by_cases e2 : b < L.length
      · rw [if_neg (by omega), List.getElem?_append_left e2]
      · rw [List.getElem?_append_right (by omega)]
        obtain ⟨m, hm⟩ : ∃ m, b - L.length = m + 1 := ⟨b - L.length - 1, by omega⟩
        rw [hm, List.getElem?_cons_succ, List.getElem?_replicate]
        by_cases e3 : m < N
        · rw [if_pos e3, if_pos (by omega)]
        · rw [if_neg e3, if_neg (by omega), List.getElem?_eq_none (by omega)]
  · show L.length + (1 + N) = (L ++ _ :: List.replicate N _).length
    rw [List.length_append, List.length_cons, List.length_replicate]
    omega
theorem NMI_L {K : Nat} {P : Nat → AH → Prop} (h1 : L.length + (1 + N) ≤ fin.1) (h2 : s + (N + N * K) ≤ fin.2) (hp : P L.length (LH (L ++ .inl (3, N, .inr (.inr (.inr (.inr (fun j => if j < N then some (L.length + 1 + j) else none))))) :: List.replicate N (.inl (0, K, .inl (fun _ => 0)))) (s + (N + N * K)))) : NMI (LH L s) N K fin P := ⟨h1, h2, by unfold hmulI; rw [LH_mul]; exact hp⟩
theorem NMJ_L {K : Nat} {P : Nat → AH → Prop} (h1 : L.length + (1 + N) ≤ fin.1) (h2 : s + (N + N * K) ≤ fin.2) (hp : P L.length (LH (L ++ .inl (4, N, .inr (.inr (.inr (.inr (fun j => if j < N then some (L.length + 1 + j) else none))))) :: List.replicate N (.inl (1, K, .inr (.inl (fun _ => 0))))) (s + (N + N * K)))) : NMJ (LH L s) N K fin P := ⟨h1, h2, by unfold hmulJ; rw [LH_mul]; exact hp⟩
end
