/-! ===== states: shape, counts, ints by address and place, longs, references ===== -/
abbrev SV : Type := Nat → Nat → Int32
abbrev SJV : Type := Nat → Nat → Int64
abbrev SO : Type := Nat → Nat → Option Nat
abbrev SK : Type := Nat → Option AC
abbrev SG : Type := SK × (Nat × Nat) × SV × SJV × SO
def cfil (V : Nat → Int32) (O : Nat → Option Nat) (k : Nat) (v : Value) : Value := match v with
  | .int _ => .int (V k)
  | .null => va_rf (O k)
  | .ref a => .ref a
  | w => w
def cfill (V : Nat → Int32) (O : Nat → Option Nat) (fs : List Value) : List Value := fs.mapIdx (cfil V O)
def carr (t : Nat) (V : Nat → Int32) (J : Nat → Int64) (O : Nat → Option Nat) (c : AK) : AK := match c with
  | .inl _ => .inl V
  | .inr (.inl _) => .inr (.inl J)
  | .inr (.inr (.inr (.inr f))) => .inr (.inr (.inr (.inr (if t < 5 then f else O))))
  | c => c
def ccell (V : Nat → Int32) (J : Nat → Int64) (O : Nat → Option Nat) (c : AC) : AC := match c with
  | .inr (ci, fs) => .inr (ci, cfill V O fs)
  | .inl (t, n, c) => .inl (t, n, carr t V J O c)
def cz (s : SG) : AH := (fun a => (s.1 a).map (ccell (s.2.2.1 a) (s.2.2.2.1 a) (s.2.2.2.2 a)), s.2.1)
def upA {α : Type} (V : Nat → Nat → α) (a : Nat) (f : Nat → α) : Nat → Nat → α := fun b => if b = a then f else V b
def up2 {α : Type} (V : Nat → Nat → α) (a k : Nat) (x : α) : Nat → Nat → α := fun b j => if b = a ∧ j = k then x else V b j
theorem up2_upA {α : Type} (V : Nat → Nat → α) (a k : Nat) (x : α) : up2 V a k x = upA V a (fun j => if j = k then x else V a j) := by
  funext b j
  unfold up2 upA
  by_cases h : b = a
  · subst h; simp
  · simp [h]
theorem up2_s {α : Type} {V : Nat → Nat → α} {a k : Nat} {x : α} : up2 V a k x a k = x := by simp [up2]
theorem up2_a {α : Type} {V : Nat → Nat → α} {a k b j : Nat} {x : α} (h : b ≠ a) : up2 V a k x b j = V b j := by simp [up2, h]
theorem up2_k {α : Type} {V : Nat → Nat → α} {a k b j : Nat} {x : α} (h : j ≠ k) : up2 V a k x b j = V b j := by simp [up2, h]
theorem upA_s {α : Type} {V : Nat → Nat → α} {a : Nat} {f : Nat → α} : upA V a f a = f := if_pos rfl
theorem upA_o {α : Type} {V : Nat → Nat → α} {a b : Nat} {f : Nat → α} (h : b ≠ a) : upA V a f b = V b := if_neg h
abbrev arI (n : Nat) : AC := .inl (0, n, .inl (fun _ => 0))
abbrev arZ (n : Nat) : AC := .inl (2, n, .inl (fun _ => 0))
abbrev arJ (n : Nat) : AC := .inl (1, n, .inr (.inl (fun _ => 0)))
abbrev arA (n : Nat) : AC := .inl (5, n, .inr (.inr (.inr (.inr (fun _ => none)))))
abbrev arS (n : Nat) : AC := .inl (6, n, .inr (.inr (.inr (.inr (fun _ => none)))))
abbrev arII (b n : Nat) : AC := .inl (3, n, .inr (.inr (.inr (.inr (fun j => if j < n then some (b + 1 + j) else none)))))
abbrev arJJ (b n : Nat) : AC := .inl (4, n, .inr (.inr (.inr (.inr (fun j => if j < n then some (b + 1 + j) else none)))))
section Cz
variable {K : SK} {n : Nat × Nat} {V : SV} {J : SJV} {O : SO} {a : Nat}
theorem cz_obj {ci : Nat} {fs : List Value} (hk : K a = some (.inr (ci, fs))) : (cz (K, n, V, J, O)).1 a = some (.inr (ci, cfill (V a) (O a) fs)) := by
  show (K a).map _ = _
  rw [hk]
  rfl
theorem cz_arr {t N : Nat} {c : AK} (hk : K a = some (.inl (t, N, c))) : (cz (K, n, V, J, O)).1 a = some (.inl (t, N, carr t (V a) (J a) (O a) c)) := by
  show (K a).map _ = _
  rw [hk]
  rfl
theorem cfill_int {V : Nat → Int32} {O : Nat → Option Nat} {fs : List Value} {k : Nat} (hv : fs[k]? = some (.int 0)) : (cfill V O fs)[k]? = some (.int (V k)) := by simp [cfill, hv, cfil]
theorem cfill_ref {V : Nat → Int32} {O : Nat → Option Nat} {fs : List Value} {k b : Nat} (hv : fs[k]? = some (.ref b)) : (cfill V O fs)[k]? = some (.ref b) := by simp [cfill, hv, cfil]
theorem cfill_nul {V : Nat → Int32} {O : Nat → Option Nat} {fs : List Value} {k : Nat} (hv : fs[k]? = some .null) : (cfill V O fs)[k]? = some (va_rf (O k)) := by simp [cfill, hv, cfil]
theorem cfill_len {V : Nat → Int32} {O : Nat → Option Nat} {fs : List Value} {k : Nat} {v : Value} (hv : fs[k]? = some v) : k < (cfill V O fs).length := by
  rw [cfill, List.length_mapIdx]
  exact (List.getElem?_eq_some_iff.mp hv).1
theorem hset_cz {c : AC} {V' : SV} {J' : SJV} {O' : SO} (h1 : ∀ b, b ≠ a → V' b = V b ∧ J' b = J b ∧ O' b = O b) (h2 : (K a).map (ccell (V' a) (J' a) (O' a)) = some c) : hset (cz (K, n, V, J, O)) a c = cz (K, n, V', J', O') := by
  refine Prod.ext (funext fun b => ?_) rfl
  show (if b = a then some c else (K b).map (ccell (V b) (J b) (O b))) = (K b).map (ccell (V' b) (J' b) (O' b))
  by_cases h : b = a
  · subst h
    rw [if_pos rfl, h2]
  · obtain ⟨e1, e2, e3⟩ := h1 b h
    rw [if_neg h, e1, e2, e3]
theorem upA_ne {α : Type} {V : Nat → Nat → α} {f : Nat → α} {b : Nat} (h : b ≠ a) : upA V a f b = V b := if_neg h
theorem upA_eq {α : Type} {V : Nat → Nat → α} {f : Nat → α} : upA V a f a = f := if_pos rfl
theorem cz_putI {ci k : Nat} {fs : List Value} {x : Int32} (hk : K a = some (.inr (ci, fs))) (hv : fs[k]? = some (.int 0)) : hset (cz (K, n, V, J, O)) a (.inr (ci, (cfill (V a) (O a) fs).set k (.int x))) = cz (K, n, up2 V a k x, J, O) := by
  refine hset_cz (fun b hb => ⟨?_, rfl, rfl⟩) ?_
  · rw [up2_upA, upA_ne hb]
  · rw [hk]
    show some (Sum.inr (ci, cfill _ _ fs)) = _
    congr 3
    apply List.ext_getElem?
    intro j
    rw [up2_upA, upA_eq, List.getElem?_set]
    by_cases hj : k = j
    · subst hj
      rw [if_pos rfl, if_pos (cfill_len hv), cfill_int hv]
      simp
    · rw [if_neg hj]
      simp only [cfill, List.getElem?_mapIdx]
      cases fs[j]? with
      | none => rfl
      | some v => cases v <;> simp [cfil, show ¬ j = k from fun q => hj q.symm]
theorem cz_putO {ci k : Nat} {fs : List Value} {o : Option Nat} (hk : K a = some (.inr (ci, fs))) (hv : fs[k]? = some .null) : hset (cz (K, n, V, J, O)) a (.inr (ci, (cfill (V a) (O a) fs).set k (va_rf o))) = cz (K, n, V, J, up2 O a k o) := by
  refine hset_cz (fun b hb => ⟨rfl, rfl, ?_⟩) ?_
  · rw [up2_upA, upA_ne hb]
  · rw [hk]
    show some (Sum.inr (ci, cfill _ _ fs)) = _
    congr 3
    apply List.ext_getElem?
    intro j
    rw [up2_upA, upA_eq, List.getElem?_set]
    by_cases hj : k = j
    · subst hj
      rw [if_pos rfl, if_pos (cfill_len hv), cfill_nul hv]
      simp
    · rw [if_neg hj]
      simp only [cfill, List.getElem?_mapIdx]
      cases fs[j]? with
      | none => rfl
      | some v => cases v <;> simp [cfil, show ¬ j = k from fun q => hj q.symm]
theorem cz_setI {t N : Nat} {c f : Nat → Int32} (hk : K a = some (.inl (t, N, .inl c))) : hset (cz (K, n, V, J, O)) a (.inl (t, N, .inl f)) = cz (K, n, upA V a f, J, O) := hset_cz (fun b hb => ⟨upA_ne hb, rfl, rfl⟩) (by rw [hk, upA_eq]; rfl)
theorem cz_setJ {t N : Nat} {c f : Nat → Int64} (hk : K a = some (.inl (t, N, .inr (.inl c)))) : hset (cz (K, n, V, J, O)) a (.inl (t, N, .inr (.inl f))) = cz (K, n, V, upA J a f, O) := hset_cz (fun b hb => ⟨rfl, upA_ne hb, rfl⟩) (by rw [hk, upA_eq]; rfl)
theorem cz_setO {t N : Nat} {c f : Nat → Option Nat} (hk : K a = some (.inl (t, N, .inr (.inr (.inr (.inr c)))))) (ht : ¬ t < 5) : hset (cz (K, n, V, J, O)) a (.inl (t, N, .inr (.inr (.inr (.inr f))))) = cz (K, n, V, J, upA O a f) := hset_cz (fun b hb => ⟨rfl, rfl, upA_ne hb⟩) (by rw [hk, upA_eq]; show some (Sum.inl (t, N, Sum.inr (Sum.inr (Sum.inr (Sum.inr (if t < 5 then c else f)))))) = _; rw [if_neg ht])
end Cz
/-- from (pc, ls) in the state s the method comes to its end with r, in the state t -/
def Ev (G : Gp) (d : Nat) (M : AM) (pc : Nat) (ls : AL) (s : SG) (r : Option Value) (t : SG) : Prop := ∀ Q : Option Value → AH → Prop, Q r (cz t) → wp G d M pc ls [] (cz s) t.2.1 Q
theorem Ev.mk {G : Gp} {d : Nat} {M : AM} {pc : Nat} {ls : AL} {s : SG} {r : Option Value} {K : SK} {n : Nat × Nat} {V : SV} {J : SJV} {O : SO} (h : ∀ Q : Option Value → AH → Prop, Q r (cz (K, n, V, J, O)) → wp G d M pc ls [] (cz s) n Q) : Ev G d M pc ls s r (K, n, V, J, O) := h
section Wz
variable {G : Gp} {d : Nat} {M M' : AM} {pc idx nn : Nat} {ls : AL} {st vs : List Value} {K : SK} {n fin : Nat × Nat} {V V' : SV} {J J' : SJV} {O O' : SO} {Q : Option Value → AH → Prop} {a : Nat} {r : Option Value}
theorem wz_getI {ci k : Nat} {fs : List Value} (hd : decode (mC M) pc = .ok (.getfield idx, 3)) (hk : K a = some (.inr (ci, fs))) (hf : fOK (mY M).cls idx ci k) (hv : fs[k]? = some (.int 0)) (kk : wp G d M (pc + 3) ls (.int (V a k) :: st) (cz (K, n, V, J, O)) fin Q) : wp G d M pc ls (.ref a :: st) (cz (K, n, V, J, O)) fin Q := wp_getfield hd (cz_obj hk) hf (cfill_int hv) kk
theorem wz_getR {ci k b : Nat} {fs : List Value} (hd : decode (mC M) pc = .ok (.getfield idx, 3)) (hk : K a = some (.inr (ci, fs))) (hf : fOK (mY M).cls idx ci k) (hv : fs[k]? = some (.ref b)) (kk : wp G d M (pc + 3) ls (.ref b :: st) (cz (K, n, V, J, O)) fin Q) : wp G d M pc ls (.ref a :: st) (cz (K, n, V, J, O)) fin Q := wp_getfield hd (cz_obj hk) hf (cfill_ref hv) kk
theorem wz_getN {ci k : Nat} {fs : List Value} (hd : decode (mC M) pc = .ok (.getfield idx, 3)) (hk : K a = some (.inr (ci, fs))) (hf : fOK (mY M).cls idx ci k) (hv : fs[k]? = some .null) (ho : O a k = none) (kk : wp G d M (pc + 3) ls (.null :: st) (cz (K, n, V, J, O)) fin Q) : wp G d M pc ls (.ref a :: st) (cz (K, n, V, J, O)) fin Q := wp_getfield hd (cz_obj hk) hf (by rw [cfill_nul hv, ho]; rfl) kk
theorem wz_getS {ci k b : Nat} {fs : List Value} (hd : decode (mC M) pc = .ok (.getfield idx, 3)) (hk : K a = some (.inr (ci, fs))) (hf : fOK (mY M).cls idx ci k) (hv : fs[k]? = some .null) (ho : O a k = some b) (kk : wp G d M (pc + 3) ls (.ref b :: st) (cz (K, n, V, J, O)) fin Q) : wp G d M pc ls (.ref a :: st) (cz (K, n, V, J, O)) fin Q := wp_getfield hd (cz_obj hk) hf (by rw [cfill_nul hv, ho]; rfl) kk
theorem wz_getIe {ci k : Nat} {fs : List Value} {v : Int32} (hd : decode (mC M) pc = .ok (.getfield idx, 3)) (hk : K a = some (.inr (ci, fs))) (hf : fOK (mY M).cls idx ci k) (hv : fs[k]? = some (.int 0)) (he : V a k = v) (kk : wp G d M (pc + 3) ls (.int v :: st) (cz (K, n, V, J, O)) fin Q) : wp G d M pc ls (.ref a :: st) (cz (K, n, V, J, O)) fin Q := wz_getI hd hk hf hv (by rw [he]; exact kk)
theorem wz_putI {ci k : Nat} {fs : List Value} {x : Int32} (hd : decode (mC M) pc = .ok (.putfield idx, 3)) (hk : K a = some (.inr (ci, fs))) (hf : fWK (mY M).cls idx ci k .int false) (hv : fs[k]? = some (.int 0)) (kk : wp G d M (pc + 3) ls st (cz (K, n, up2 V a k x, J, O)) fin Q) : wp G d M pc ls (.int x :: .ref a :: st) (cz (K, n, V, J, O)) fin Q := wp_putI hd (cz_obj hk) hf (cfill_len hv) (by rw [cz_putI hk hv]; exact kk)
theorem wz_putR {ci k b : Nat} {fs : List Value} {ty : FieldType} (hd : decode (mC M) pc = .ok (.putfield idx, 3)) (hk : K a = some (.inr (ci, fs))) (hf : fWK (mY M).cls idx ci k ty false) (hty : (∃ n, ty = .object n) ∨ ∃ t, ty = .array t) (hv : fs[k]? = some .null) (kk : wp G d M (pc + 3) ls st (cz (K, n, V, J, up2 O a k (some b))) fin Q) : wp G d M pc ls (.ref b :: .ref a :: st) (cz (K, n, V, J, O)) fin Q := wp_putR hd (cz_obj hk) hf hty (cfill_len hv) (by have e := cz_putO (n := n) (V := V) (J := J) (O := O) (o := some b) hk hv; change hset _ _ (.inr (ci, (cfill (V a) (O a) fs).set k (.ref b))) = _ at e; rw [e]; exact kk)
theorem wz_putN {ci k : Nat} {fs : List Value} {ty : FieldType} (hd : decode (mC M) pc = .ok (.putfield idx, 3)) (hk : K a = some (.inr (ci, fs))) (hf : fWK (mY M).cls idx ci k ty false) (hty : (∃ n, ty = .object n) ∨ ∃ t, ty = .array t) (hv : fs[k]? = some .null) (kk : wp G d M (pc + 3) ls st (cz (K, n, V, J, up2 O a k none)) fin Q) : wp G d M pc ls (.null :: .ref a :: st) (cz (K, n, V, J, O)) fin Q := wp_putN hd (cz_obj hk) hf hty (cfill_len hv) (by have e := cz_putO (n := n) (V := V) (J := J) (O := O) (o := none) hk hv; change hset _ _ (.inr (ci, (cfill (V a) (O a) fs).set k .null)) = _ at e; rw [e]; exact kk)
theorem wz_iaload {N : Nat} {i : Int32} (hd : decode (mC M) pc = .ok (.iaload, 1)) (hk : K a = some (arI N)) (hi : vp_in i N) (kk : wp G d M (pc + 1) ls (.int (V a i.toNatClampNeg) :: st) (cz (K, n, V, J, O)) fin Q) : wp G d M pc ls (.int i :: .ref a :: st) (cz (K, n, V, J, O)) fin Q := wp_iaload hd (cz_arr hk) hi kk
theorem wz_baload {N : Nat} {i : Int32} (hd : decode (mC M) pc = .ok (.baload, 1)) (hk : K a = some (arZ N)) (hi : vp_in i N) (kk : wp G d M (pc + 1) ls (.int (V a i.toNatClampNeg) :: st) (cz (K, n, V, J, O)) fin Q) : wp G d M pc ls (.int i :: .ref a :: st) (cz (K, n, V, J, O)) fin Q := wp_baload hd (cz_arr hk) hi kk
theorem wz_laload {N : Nat} {i : Int32} (hd : decode (mC M) pc = .ok (.laload, 1)) (hk : K a = some (arJ N)) (hi : vp_in i N) (kk : wp G d M (pc + 1) ls (.long (J a i.toNatClampNeg) :: st) (cz (K, n, V, J, O)) fin Q) : wp G d M pc ls (.int i :: .ref a :: st) (cz (K, n, V, J, O)) fin Q := wp_laload hd (cz_arr hk) hi kk
theorem wz_ialoade {N : Nat} {i v : Int32} (hd : decode (mC M) pc = .ok (.iaload, 1)) (hk : K a = some (arI N)) (hi : vp_in i N) (he : V a i.toNatClampNeg = v) (kk : wp G d M (pc + 1) ls (.int v :: st) (cz (K, n, V, J, O)) fin Q) : wp G d M pc ls (.int i :: .ref a :: st) (cz (K, n, V, J, O)) fin Q := wz_iaload hd hk hi (by rw [he]; exact kk)
theorem wz_baloade {N : Nat} {i v : Int32} (hd : decode (mC M) pc = .ok (.baload, 1)) (hk : K a = some (arZ N)) (hi : vp_in i N) (he : V a i.toNatClampNeg = v) (kk : wp G d M (pc + 1) ls (.int v :: st) (cz (K, n, V, J, O)) fin Q) : wp G d M pc ls (.int i :: .ref a :: st) (cz (K, n, V, J, O)) fin Q := wz_baload hd hk hi (by rw [he]; exact kk)
theorem wz_laloade {N : Nat} {i : Int32} {v : Int64} (hd : decode (mC M) pc = .ok (.laload, 1)) (hk : K a = some (arJ N)) (hi : vp_in i N) (he : J a i.toNatClampNeg = v) (kk : wp G d M (pc + 1) ls (.long v :: st) (cz (K, n, V, J, O)) fin Q) : wp G d M pc ls (.int i :: .ref a :: st) (cz (K, n, V, J, O)) fin Q := wz_laload hd hk hi (by rw [he]; exact kk)
theorem in_lt {i : Int32} {N : Nat} (hi : vp_in i N) : i.toNatClampNeg < N := Nat.not_le.mp fun q => hi (Or.inr q)
theorem wz_aaload {t N b : Nat} {i : Int32} (hd : decode (mC M) pc = .ok (.aaload, 1)) (hk : K a = some (.inl (t, N, .inr (.inr (.inr (.inr (fun j => if j < N then some (b + 1 + j) else none))))))) (ht : t = 3 ∨ t = 4) (hi : vp_in i N) (kk : wp G d M (pc + 1) ls (.ref (b + 1 + i.toNatClampNeg) :: st) (cz (K, n, V, J, O)) fin Q) : wp G d M pc ls (.int i :: .ref a :: st) (cz (K, n, V, J, O)) fin Q := by
  have hc := cz_arr (n := n) (V := V) (J := J) (O := O) hk
  rcases ht with rfl | rfl <;> exact wp_aaloadR (b := b + 1 + i.toNatClampNeg) hd hc (by omega) hi (by simp [in_lt hi]) kk
theorem wz_aaloadN {t N : Nat} {i : Int32} (hd : decode (mC M) pc = .ok (.aaload, 1)) (hk : K a = some (.inl (t, N, .inr (.inr (.inr (.inr (fun _ => none))))))) (ht : t = 5 ∨ t = 6) (hi : vp_in i N) (ho : O a i.toNatClampNeg = none) (kk : wp G d M (pc + 1) ls (.null :: st) (cz (K, n, V, J, O)) fin Q) : wp G d M pc ls (.int i :: .ref a :: st) (cz (K, n, V, J, O)) fin Q := by
  have hc := cz_arr (n := n) (V := V) (J := J) (O := O) hk
  rcases ht with rfl | rfl <;> exact wp_aaloadN hd hc (by omega) hi (by simpa using ho) kk
theorem wz_aaloadR {t N b : Nat} {i : Int32} (hd : decode (mC M) pc = .ok (.aaload, 1)) (hk : K a = some (.inl (t, N, .inr (.inr (.inr (.inr (fun _ => none))))))) (ht : t = 5 ∨ t = 6) (hi : vp_in i N) (ho : O a i.toNatClampNeg = some b) (kk : wp G d M (pc + 1) ls (.ref b :: st) (cz (K, n, V, J, O)) fin Q) : wp G d M pc ls (.int i :: .ref a :: st) (cz (K, n, V, J, O)) fin Q := by
  have hc := cz_arr (n := n) (V := V) (J := J) (O := O) hk
  rcases ht with rfl | rfl <;> exact wp_aaloadR hd hc (by omega) hi (by simpa using ho) kk
theorem wz_iastore {N : Nat} {i x : Int32} (hd : decode (mC M) pc = .ok (.iastore, 1)) (hk : K a = some (arI N)) (hi : vp_in i N) (kk : wp G d M (pc + 1) ls st (cz (K, n, up2 V a i.toNatClampNeg x, J, O)) fin Q) : wp G d M pc ls (.int x :: .int i :: .ref a :: st) (cz (K, n, V, J, O)) fin Q := wp_iastore hd (cz_arr hk) hi (by rw [up2_upA] at kk; rw [cz_setI hk]; exact kk)
theorem wz_bastore {N : Nat} {i x : Int32} (hd : decode (mC M) pc = .ok (.bastore, 1)) (hk : K a = some (arZ N)) (hi : vp_in i N) (kk : wp G d M (pc + 1) ls st (cz (K, n, up2 V a i.toNatClampNeg (vp_nar .boolean x), J, O)) fin Q) : wp G d M pc ls (.int x :: .int i :: .ref a :: st) (cz (K, n, V, J, O)) fin Q := wp_bastore hd (cz_arr hk) hi (by rw [up2_upA] at kk; rw [cz_setI hk]; exact kk)
theorem wz_lastore {N : Nat} {i : Int32} {x : Int64} (hd : decode (mC M) pc = .ok (.lastore, 1)) (hk : K a = some (arJ N)) (hi : vp_in i N) (kk : wp G d M (pc + 1) ls st (cz (K, n, V, up2 J a i.toNatClampNeg x, O)) fin Q) : wp G d M pc ls (.long x :: .int i :: .ref a :: st) (cz (K, n, V, J, O)) fin Q := wp_lastore hd (cz_arr hk) hi (by rw [up2_upA] at kk; rw [cz_setJ hk]; exact kk)
theorem wz_aastN {t N : Nat} {i : Int32} (hd : decode (mC M) pc = .ok (.aastore, 1)) (hk : K a = some (.inl (t, N, .inr (.inr (.inr (.inr (fun _ => none))))))) (ht : t = 5 ∨ t = 6) (hi : vp_in i N) (kk : wp G d M (pc + 1) ls st (cz (K, n, V, J, up2 O a i.toNatClampNeg none)) fin Q) : wp G d M pc ls (.null :: .int i :: .ref a :: st) (cz (K, n, V, J, O)) fin Q := by
  have hc := cz_arr (n := n) (V := V) (J := J) (O := O) hk
  rw [up2_upA] at kk
  have e := cz_setO (n := n) (V := V) (J := J) (O := O) (f := va_up (O a) i.toNatClampNeg none) hk (by omega)
  rcases ht with rfl | rfl <;> exact wx_aastN hd hc (by omega) hi (by simp only [Nat.lt_irrefl, if_false, show ¬ (6 < 5) by decide]; rw [e]; exact kk)
theorem wz_aastR {t N b ci : Nat} {fs : List Value} {i : Int32} (hd : decode (mC M) pc = .ok (.aastore, 1)) (hk : K a = some (.inl (t, N, .inr (.inr (.inr (.inr (fun _ => none))))))) (ho : K b = some (.inr (ci, fs))) (ht : (t = 5 ∧ ci = 0) ∨ (t = 6 ∧ ci ∈ [1, 2, 3, 4, 5, 6, 7, 10])) (hi : vp_in i N) (kk : wp G d M (pc + 1) ls st (cz (K, n, V, J, up2 O a i.toNatClampNeg (some b))) fin Q) : wp G d M pc ls (.ref b :: .int i :: .ref a :: st) (cz (K, n, V, J, O)) fin Q := by
  have hc := cz_arr (n := n) (V := V) (J := J) (O := O) hk
  rw [up2_upA] at kk
  have e := cz_setO (n := n) (V := V) (J := J) (O := O) (f := va_up (O a) i.toNatClampNeg (some b)) hk (by omega)
  refine wx_aastR hd hc (cz_obj ho) ht hi ?_
  rw [if_neg (by omega), e]
  exact kk
theorem wz_alen {t N : Nat} {x : AK} (hd : decode (mC M) pc = .ok (.arraylength, 1)) (hk : K a = some (.inl (t, N, x))) (ht : t < 7) (kk : wp G d M (pc + 1) ls (.int (Int32.ofNat N) :: st) (cz (K, n, V, J, O)) fin Q) : wp G d M pc ls (.ref a :: st) (cz (K, n, V, J, O)) fin Q := wp_alen hd (cz_arr hk) ht kk
theorem wz_copyI {a0 n0 n1 : Nat} {sp dp k : Int32} (hd : decode (mC M) pc = .ok (.invokestatic idx, 3)) (hw : Cond.methodLink (mY M).cls idx arraycopyName ∈ gtbl) (hc0 : K a0 = some (arI n0)) (hc1 : K a = some (arI n1)) (h1 : ¬ sp < 0) (h2 : ¬ dp < 0) (h3 : ¬ k < 0) (h4 : sp.toNatClampNeg + k.toNatClampNeg ≤ n0) (h5 : dp.toNatClampNeg + k.toNatClampNeg ≤ n1) (hst : (st.map fun v => v.category).sum ≤ 8) (kk : wp G d M (pc + 3) ls st (cz (K, n, upA V a (va_cpy (V a0) (V a) sp.toNatClampNeg dp.toNatClampNeg k.toNatClampNeg), J, O)) fin Q) : wp G d M pc ls (.int k :: .int dp :: .ref a :: .int sp :: .ref a0 :: st) (cz (K, n, V, J, O)) fin Q := wp_copyI hd hw cp1 cp2 cp3 (cz_arr hc0) (cz_arr hc1) h1 h2 h3 h4 h5 hst (by rw [cz_setI hc1]; exact kk)
theorem wz_copyL {a0 n0 n1 : Nat} {sp dp k : Int32} (hd : decode (mC M) pc = .ok (.invokestatic idx, 3)) (hw : Cond.methodLink (mY M).cls idx arraycopyName ∈ gtbl) (hc0 : K a0 = some (arJ n0)) (hc1 : K a = some (arJ n1)) (h1 : ¬ sp < 0) (h2 : ¬ dp < 0) (h3 : ¬ k < 0) (h4 : sp.toNatClampNeg + k.toNatClampNeg ≤ n0) (h5 : dp.toNatClampNeg + k.toNatClampNeg ≤ n1) (hst : (st.map fun v => v.category).sum ≤ 8) (kk : wp G d M (pc + 3) ls st (cz (K, n, V, upA J a (va_cpy (J a0) (J a) sp.toNatClampNeg dp.toNatClampNeg k.toNatClampNeg), O)) fin Q) : wp G d M pc ls (.int k :: .int dp :: .ref a :: .int sp :: .ref a0 :: st) (cz (K, n, V, J, O)) fin Q := wp_copyL hd hw cp1 cp2 cp3 (cz_arr hc0) (cz_arr hc1) h1 h2 h3 h4 h5 hst (by rw [cz_setJ hc1]; exact kk)
theorem wz_instY {ci idx : Nat} {q r : vw_C} {fs : List Value} {cj : Nat} (hd : decode (mC M) pc = .ok (.instanceof idx, 3)) (hk : K a = some (.inr (ci, fs))) (hq : acls[ci]? = some q) (hr : acls[cj]? = some r) (hw : Cond.classLink (mY M).cls idx r.1 ∈ gtbl) (hy : ci = cj ∨ (q.1, r.1) ∈ caT) (kk : wp G d M (pc + 3) ls (.int 1 :: st) (cz (K, n, V, J, O)) fin Q) : wp G d M pc ls (.ref a :: st) (cz (K, n, V, J, O)) fin Q := wp_instY hd (cz_obj hk) hq hr hw hy kk
theorem wz_instNo {ci idx : Nat} {q r : vw_C} {fs : List Value} {cj : Nat} (hd : decode (mC M) pc = .ok (.instanceof idx, 3)) (hk : K a = some (.inr (ci, fs))) (hq : acls[ci]? = some q) (hr : acls[cj]? = some r) (hw : Cond.classLink (mY M).cls idx r.1 ∈ gtbl) (hy : (q.1, r.1) ∈ ncT) (kk : wp G d M (pc + 3) ls (.int 0 :: st) (cz (K, n, V, J, O)) fin Q) : wp G d M pc ls (.ref a :: st) (cz (K, n, V, J, O)) fin Q := wp_instNo hd (cz_obj hk) hq hr hw hy kk
theorem cR_n {s : SG} : cR (cz s) s.2.1 s.2.1 := ⟨⟨Nat.le_refl _, Nat.le_refl _⟩, Nat.le_refl _, Nat.le_refl _⟩
theorem wz_callS (hd : decode (mC M) pc = .ok (.invokestatic idx, 3)) (hk0 : kS (mY M).cls idx M' nn) (hE : Ev G d M' 0 (lv_args 0 vs) (K, n, V, J, O) r (K, n, V', J', O')) (hlen : vs.length = nn) (hcat : (vs.map fun v => v.category).sum ≤ mL M') (hst : (st.map fun v => v.category).sum ≤ 8) (kk : wp G (d + 1) M (pc + 3) ls (r.toList ++ st) (cz (K, n, V', J', O')) n Q) : wp G (d + 1) M pc ls (vs.reverse ++ st) (cz (K, n, V, J, O)) n Q := wp_callS (fin' := n) hd hk0 hlen hcat hst cR_n (hE _ kk)
theorem wz_callSN (hd : decode (mC M) pc = .ok (.invokestatic idx, 3)) (hk0 : kSN (mY M).cls idx M' nn) (hE : Ev G d M' 0 (lv_args 0 vs) (K, n, V, J, O) r (K, n, V', J', O')) (hlen : vs.length = nn) (hcat : (vs.map fun v => v.category).sum ≤ mL M') (hst : (st.map fun v => v.category).sum ≤ 8) (kk : wp G (d + 1) M (pc + 3) ls (r.toList ++ st) (cz (K, n, V', J', O')) n Q) : wp G (d + 1) M pc ls (vs.reverse ++ st) (cz (K, n, V, J, O)) n Q := wp_callSN (fin' := n) hd hk0 hlen hcat hst cR_n (hE _ kk)
theorem wz_callST {y : MethodName} (hd : decode (mC M) pc = .ok (.invokestatic idx, 3)) (hk0 : kST (mY M).cls idx M' nn y) (hE : Ev G d M' 0 (lv_args 0 vs) (K, n, V, J, O) r (K, n, V', J', O')) (hlen : vs.length = nn) (hcat : (vs.map fun v => v.category).sum ≤ mL M') (hst : (st.map fun v => v.category).sum ≤ 8) (kk : wp G (d + 1) M (pc + 3) ls (r.toList ++ st) (cz (K, n, V', J', O')) n Q) : wp G (d + 1) M pc ls (vs.reverse ++ st) (cz (K, n, V, J, O)) n Q := wp_callST (fin' := n) hd hk0 hlen hcat hst cR_n (hE _ kk)
theorem wz_callV {ci : Nat} {q : vw_C} {fs : List Value} (hd : decode (mC M) pc = .ok (.invokevirtual idx, 3)) (hk : K a = some (.inr (ci, fs))) (hq : acls[ci]? = some q) (hk0 : kV (mY M).cls idx q.1 M' nn) (hE : Ev G d M' 0 (lv_args 0 (.ref a :: vs)) (K, n, V, J, O) r (K, n, V', J', O')) (hlen : vs.length = nn) (hcat : ((.ref a :: vs).map fun v => v.category).sum ≤ mL M') (hst : (st.map fun v => v.category).sum ≤ 8) (kk : wp G (d + 1) M (pc + 3) ls (r.toList ++ st) (cz (K, n, V', J', O')) n Q) : wp G (d + 1) M pc ls (vs.reverse ++ .ref a :: st) (cz (K, n, V, J, O)) n Q := wp_callV (fin' := n) hd (cz_obj hk) hq hk0 hlen hcat hst cR_n (hE _ kk)
theorem wz_callU {ci : Nat} {q : vw_C} {fs : List Value} {x : MethodName} {owner : String} (hd : decode (mC M) pc = .ok (.invokevirtual idx, 3)) (hk : K a = some (.inr (ci, fs))) (hq : acls[ci]? = some q) (hk0 : kU (mY M).cls idx q.1 M' nn x owner) (hE : Ev G d M' 0 (lv_args 0 (.ref a :: vs)) (K, n, V, J, O) r (K, n, V', J', O')) (hlen : vs.length = nn) (hcat : ((.ref a :: vs).map fun v => v.category).sum ≤ mL M') (hst : (st.map fun v => v.category).sum ≤ 8) (kk : wp G (d + 1) M (pc + 3) ls (r.toList ++ st) (cz (K, n, V', J', O')) n Q) : wp G (d + 1) M pc ls (vs.reverse ++ .ref a :: st) (cz (K, n, V, J, O)) n Q := wp_callU (fin' := n) hd (cz_obj hk) hq hk0 hlen hcat hst cR_n (hE _ kk)
theorem wz_callX {ci : Nat} {fs : List Value} (hd : decode (mC M) pc = .ok (.invokevirtual idx, 3)) (hk : K a = some (.inr (ci, fs))) (hk0 : kX (mY M).cls idx ci M' nn) (hE : Ev G d M' 0 (lv_args 0 (.ref a :: vs)) (K, n, V, J, O) r (K, n, V', J', O')) (hlen : vs.length = nn) (hcat : ((.ref a :: vs).map fun v => v.category).sum ≤ mL M') (hst : (st.map fun v => v.category).sum ≤ 8) (kk : wp G (d + 1) M (pc + 3) ls (r.toList ++ st) (cz (K, n, V', J', O')) n Q) : wp G (d + 1) M pc ls (vs.reverse ++ .ref a :: st) (cz (K, n, V, J, O)) n Q := wp_callX (fin' := n) hd (cz_obj hk) hk0 hlen hcat hst cR_n (hE _ kk)
theorem wz_callSU {ci : Nat} {q : vw_C} {fs : List Value} (hd : decode (mC M) pc = .ok (.invokespecial idx, 3)) (hk : K a = some (.inr (ci, fs))) (hq : acls[ci]? = some q) (hk0 : kSU (mY M).cls idx M' nn) (hE : Ev G d M' 0 (lv_args 0 (.ref a :: vs)) (K, n, V, J, O) r (K, n, V', J', O')) (hlen : vs.length = nn) (hcat : ((.ref a :: vs).map fun v => v.category).sum ≤ mL M') (hst : (st.map fun v => v.category).sum ≤ 8) (kk : wp G (d + 1) M (pc + 3) ls (r.toList ++ st) (cz (K, n, V', J', O')) n Q) : wp G (d + 1) M pc ls (vs.reverse ++ .ref a :: st) (cz (K, n, V, J, O)) n Q := wp_callSU (fin' := n) hd (cz_obj hk) hq hk0 hlen hcat hst cR_n (hE _ kk)
theorem wz_callSV {ci : Nat} {q : vw_C} {fs : List Value} {x : MethodName} (hd : decode (mC M) pc = .ok (.invokespecial idx, 3)) (hk : K a = some (.inr (ci, fs))) (hq : acls[ci]? = some q) (hk0 : kSV (mY M).cls idx M' nn x) (hE : Ev G d M' 0 (lv_args 0 (.ref a :: vs)) (K, n, V, J, O) r (K, n, V', J', O')) (hlen : vs.length = nn) (hcat : ((.ref a :: vs).map fun v => v.category).sum ≤ mL M') (hst : (st.map fun v => v.category).sum ≤ 8) (kk : wp G (d + 1) M (pc + 3) ls (r.toList ++ st) (cz (K, n, V', J', O')) n Q) : wp G (d + 1) M pc ls (vs.reverse ++ .ref a :: st) (cz (K, n, V, J, O)) n Q := wp_callSV (fin' := n) hd (cz_obj hk) hq hk0 hlen hcat hst cR_n (hE _ kk)
end Wz
/-! ===== the static cells ===== -/
abbrev sk_0 : AC := .inr (11, [.ref 1, .ref 13, .ref 31, .int 0, .ref 32, .int 0, .ref 33, .int 0, .int 0, .null, .ref 34, .ref 45, .ref 46, .ref 47, .ref 48, .ref 49, .ref 50, .null])
abbrev sk_1 : AC := .inr (8, [.ref 2, .ref 3, .int 0, .int 0, .ref 4, .ref 9, .int 0, .ref 10, .ref 11, .ref 12])
abbrev sk_2 : AC := arI 4
abbrev sk_3 : AC := arI 4
abbrev sk_4 : AC := arII 4 4
abbrev sk_5 : AC := arI 80
abbrev sk_6 : AC := arI 80
abbrev sk_7 : AC := arI 80
abbrev sk_8 : AC := arI 80
abbrev sk_9 : AC := arI 80
abbrev sk_10 : AC := arI 4
abbrev sk_11 : AC := arI 4
abbrev sk_12 : AC := arI 4
abbrev sk_13 : AC := .inr (9, [.int 0, .int 0, .int 0, .int 0, .ref 14, .ref 15, .ref 16, .ref 17, .ref 18, .ref 19, .ref 20])
abbrev sk_14 : AC := arI 12
abbrev sk_15 : AC := arI 12
abbrev sk_16 : AC := arI 60
abbrev sk_17 : AC := arI 8
abbrev sk_18 : AC := arI 9
abbrev sk_19 : AC := arI 10
abbrev sk_20 : AC := arII 20 10
abbrev sk_21 : AC := arI 10
abbrev sk_22 : AC := arI 10
abbrev sk_23 : AC := arI 10
abbrev sk_24 : AC := arI 10
abbrev sk_25 : AC := arI 10
abbrev sk_26 : AC := arI 10
abbrev sk_27 : AC := arI 10
abbrev sk_28 : AC := arI 10
abbrev sk_29 : AC := arI 10
abbrev sk_30 : AC := arI 10
abbrev sk_31 : AC := arI 60
abbrev sk_32 : AC := arA 10
abbrev sk_33 : AC := arS 10
abbrev sk_34 : AC := arII 34 10
abbrev sk_35 : AC := arI 10
abbrev sk_36 : AC := arI 10
abbrev sk_37 : AC := arI 10
abbrev sk_38 : AC := arI 10
abbrev sk_39 : AC := arI 10
abbrev sk_40 : AC := arI 10
abbrev sk_41 : AC := arI 10
abbrev sk_42 : AC := arI 10
abbrev sk_43 : AC := arI 10
abbrev sk_44 : AC := arI 10
abbrev sk_45 : AC := arI 10
abbrev sk_46 : AC := arI 10
abbrev sk_47 : AC := arS 6
abbrev sk_48 : AC := arI 6
abbrev sk_49 : AC := arI 6
abbrev sk_50 : AC := arJJ 50 6
abbrev sk_51 : AC := arJ 60
abbrev sk_52 : AC := arJ 60
abbrev sk_53 : AC := arJ 60
abbrev sk_54 : AC := arJ 60
abbrev sk_55 : AC := arJ 60
abbrev sk_56 : AC := arJ 60
abbrev sk_57 : AC := .inr (12, [.ref 58, .ref 59, .int 0, .ref 60, .ref 61, .ref 62, .int 0, .ref 63, .ref 64, .ref 65, .ref 66, .ref 67, .ref 68, .ref 69, .int 0, .ref 70, .ref 71, .ref 72, .ref 73, .ref 74, .ref 75, .ref 76, .ref 77, .ref 78, .ref 79, .int 0, .int 0, .int 0, .int 0, .int 0, .int 0, .int 0, .int 0, .int 0, .ref 80, .ref 81, .int 0, .ref 82, .int 0, .ref 83, .ref 84, .ref 85, .ref 86, .int 0, .int 0, .ref 87, .ref 88, .ref 89, .ref 90, .int 0, .ref 91, .int 0, .int 0, .ref 92, .ref 93, .ref 94, .ref 95])
abbrev sk_58 : AC := arI 320
abbrev sk_59 : AC := arZ 80
abbrev sk_60 : AC := arZ 4
abbrev sk_61 : AC := arI 4
abbrev sk_62 : AC := arI 60
abbrev sk_63 : AC := arI 160
abbrev sk_64 : AC := arI 160
abbrev sk_65 : AC := arI 160
abbrev sk_66 : AC := arI 10
abbrev sk_67 : AC := arI 10
abbrev sk_68 : AC := arI 10
abbrev sk_69 : AC := arI 10
abbrev sk_70 : AC := arI 10
abbrev sk_71 : AC := arI 10
abbrev sk_72 : AC := arI 800
abbrev sk_73 : AC := arI 10
abbrev sk_74 : AC := arI 800
abbrev sk_75 : AC := arI 800
abbrev sk_76 : AC := arI 10
abbrev sk_77 : AC := arI 10
abbrev sk_78 : AC := arI 10
abbrev sk_79 : AC := arI 10
abbrev sk_80 : AC := arI 12
abbrev sk_81 : AC := arI 12
abbrev sk_82 : AC := arI 60
abbrev sk_83 : AC := arI 8
abbrev sk_84 : AC := arI 8
abbrev sk_85 : AC := arI 9
abbrev sk_86 : AC := arI 10
abbrev sk_87 : AC := arI 100
abbrev sk_88 : AC := arZ 4
abbrev sk_89 : AC := arZ 320
abbrev sk_90 : AC := arI 4
abbrev sk_91 : AC := arI 24
abbrev sk_92 : AC := arI 6
abbrev sk_93 : AC := arI 6
abbrev sk_94 : AC := arJ 360
abbrev sk_95 : AC := arJ 60
def skl : List AC := [sk_0, sk_1, sk_2, sk_3, sk_4, sk_5, sk_6, sk_7, sk_8, sk_9, sk_10, sk_11, sk_12, sk_13, sk_14, sk_15, sk_16, sk_17, sk_18, sk_19, sk_20, sk_21, sk_22, sk_23, sk_24, sk_25, sk_26, sk_27, sk_28, sk_29, sk_30, sk_31, sk_32, sk_33, sk_34, sk_35, sk_36, sk_37, sk_38, sk_39, sk_40, sk_41, sk_42, sk_43, sk_44, sk_45, sk_46, sk_47, sk_48, sk_49, sk_50, sk_51, sk_52, sk_53, sk_54, sk_55, sk_56, sk_57, sk_58, sk_59, sk_60, sk_61, sk_62, sk_63, sk_64, sk_65, sk_66, sk_67, sk_68, sk_69, sk_70, sk_71, sk_72, sk_73, sk_74, sk_75, sk_76, sk_77, sk_78, sk_79, sk_80, sk_81, sk_82, sk_83, sk_84, sk_85, sk_86, sk_87, sk_88, sk_89, sk_90, sk_91, sk_92, sk_93, sk_94, sk_95]
def StK (K : SK) : Prop := ∀ i c, skl[i]? = some c → K i = some c
theorem k0 {K : SK} (h : StK K) : K 0 = some sk_0 := h 0 _ rfl
theorem k1 {K : SK} (h : StK K) : K 1 = some sk_1 := h 1 _ rfl
theorem k2 {K : SK} (h : StK K) : K 2 = some sk_2 := h 2 _ rfl
theorem k3 {K : SK} (h : StK K) : K 3 = some sk_3 := h 3 _ rfl
theorem k4 {K : SK} (h : StK K) : K 4 = some sk_4 := h 4 _ rfl
theorem k5 {K : SK} (h : StK K) : K 5 = some sk_5 := h 5 _ rfl
theorem k6 {K : SK} (h : StK K) : K 6 = some sk_6 := h 6 _ rfl
theorem k7 {K : SK} (h : StK K) : K 7 = some sk_7 := h 7 _ rfl
theorem k8 {K : SK} (h : StK K) : K 8 = some sk_8 := h 8 _ rfl
theorem k9 {K : SK} (h : StK K) : K 9 = some sk_9 := h 9 _ rfl
theorem k10 {K : SK} (h : StK K) : K 10 = some sk_10 := h 10 _ rfl
theorem k11 {K : SK} (h : StK K) : K 11 = some sk_11 := h 11 _ rfl
theorem k12 {K : SK} (h : StK K) : K 12 = some sk_12 := h 12 _ rfl
theorem k13 {K : SK} (h : StK K) : K 13 = some sk_13 := h 13 _ rfl
theorem k14 {K : SK} (h : StK K) : K 14 = some sk_14 := h 14 _ rfl
theorem k15 {K : SK} (h : StK K) : K 15 = some sk_15 := h 15 _ rfl
theorem k16 {K : SK} (h : StK K) : K 16 = some sk_16 := h 16 _ rfl
theorem k17 {K : SK} (h : StK K) : K 17 = some sk_17 := h 17 _ rfl
theorem k18 {K : SK} (h : StK K) : K 18 = some sk_18 := h 18 _ rfl
theorem k19 {K : SK} (h : StK K) : K 19 = some sk_19 := h 19 _ rfl
theorem k20 {K : SK} (h : StK K) : K 20 = some sk_20 := h 20 _ rfl
theorem k21 {K : SK} (h : StK K) : K 21 = some sk_21 := h 21 _ rfl
theorem k22 {K : SK} (h : StK K) : K 22 = some sk_22 := h 22 _ rfl
theorem k23 {K : SK} (h : StK K) : K 23 = some sk_23 := h 23 _ rfl
theorem k24 {K : SK} (h : StK K) : K 24 = some sk_24 := h 24 _ rfl
theorem k25 {K : SK} (h : StK K) : K 25 = some sk_25 := h 25 _ rfl
theorem k26 {K : SK} (h : StK K) : K 26 = some sk_26 := h 26 _ rfl
theorem k27 {K : SK} (h : StK K) : K 27 = some sk_27 := h 27 _ rfl
theorem k28 {K : SK} (h : StK K) : K 28 = some sk_28 := h 28 _ rfl
theorem k29 {K : SK} (h : StK K) : K 29 = some sk_29 := h 29 _ rfl
theorem k30 {K : SK} (h : StK K) : K 30 = some sk_30 := h 30 _ rfl
theorem k31 {K : SK} (h : StK K) : K 31 = some sk_31 := h 31 _ rfl
theorem k32 {K : SK} (h : StK K) : K 32 = some sk_32 := h 32 _ rfl
theorem k33 {K : SK} (h : StK K) : K 33 = some sk_33 := h 33 _ rfl
theorem k34 {K : SK} (h : StK K) : K 34 = some sk_34 := h 34 _ rfl
theorem k35 {K : SK} (h : StK K) : K 35 = some sk_35 := h 35 _ rfl
theorem k36 {K : SK} (h : StK K) : K 36 = some sk_36 := h 36 _ rfl
theorem k37 {K : SK} (h : StK K) : K 37 = some sk_37 := h 37 _ rfl
theorem k38 {K : SK} (h : StK K) : K 38 = some sk_38 := h 38 _ rfl
theorem k39 {K : SK} (h : StK K) : K 39 = some sk_39 := h 39 _ rfl
theorem k40 {K : SK} (h : StK K) : K 40 = some sk_40 := h 40 _ rfl
theorem k41 {K : SK} (h : StK K) : K 41 = some sk_41 := h 41 _ rfl
theorem k42 {K : SK} (h : StK K) : K 42 = some sk_42 := h 42 _ rfl
theorem k43 {K : SK} (h : StK K) : K 43 = some sk_43 := h 43 _ rfl
theorem k44 {K : SK} (h : StK K) : K 44 = some sk_44 := h 44 _ rfl
theorem k45 {K : SK} (h : StK K) : K 45 = some sk_45 := h 45 _ rfl
theorem k46 {K : SK} (h : StK K) : K 46 = some sk_46 := h 46 _ rfl
theorem k47 {K : SK} (h : StK K) : K 47 = some sk_47 := h 47 _ rfl
theorem k48 {K : SK} (h : StK K) : K 48 = some sk_48 := h 48 _ rfl
theorem k49 {K : SK} (h : StK K) : K 49 = some sk_49 := h 49 _ rfl
theorem k50 {K : SK} (h : StK K) : K 50 = some sk_50 := h 50 _ rfl
theorem k51 {K : SK} (h : StK K) : K 51 = some sk_51 := h 51 _ rfl
theorem k52 {K : SK} (h : StK K) : K 52 = some sk_52 := h 52 _ rfl
theorem k53 {K : SK} (h : StK K) : K 53 = some sk_53 := h 53 _ rfl
theorem k54 {K : SK} (h : StK K) : K 54 = some sk_54 := h 54 _ rfl
theorem k55 {K : SK} (h : StK K) : K 55 = some sk_55 := h 55 _ rfl
theorem k56 {K : SK} (h : StK K) : K 56 = some sk_56 := h 56 _ rfl
theorem k57 {K : SK} (h : StK K) : K 57 = some sk_57 := h 57 _ rfl
theorem k58 {K : SK} (h : StK K) : K 58 = some sk_58 := h 58 _ rfl
theorem k59 {K : SK} (h : StK K) : K 59 = some sk_59 := h 59 _ rfl
theorem k60 {K : SK} (h : StK K) : K 60 = some sk_60 := h 60 _ rfl
theorem k61 {K : SK} (h : StK K) : K 61 = some sk_61 := h 61 _ rfl
theorem k62 {K : SK} (h : StK K) : K 62 = some sk_62 := h 62 _ rfl
theorem k63 {K : SK} (h : StK K) : K 63 = some sk_63 := h 63 _ rfl
theorem k64 {K : SK} (h : StK K) : K 64 = some sk_64 := h 64 _ rfl
theorem k65 {K : SK} (h : StK K) : K 65 = some sk_65 := h 65 _ rfl
theorem k66 {K : SK} (h : StK K) : K 66 = some sk_66 := h 66 _ rfl
theorem k67 {K : SK} (h : StK K) : K 67 = some sk_67 := h 67 _ rfl
theorem k68 {K : SK} (h : StK K) : K 68 = some sk_68 := h 68 _ rfl
theorem k69 {K : SK} (h : StK K) : K 69 = some sk_69 := h 69 _ rfl
theorem k70 {K : SK} (h : StK K) : K 70 = some sk_70 := h 70 _ rfl
theorem k71 {K : SK} (h : StK K) : K 71 = some sk_71 := h 71 _ rfl
theorem k72 {K : SK} (h : StK K) : K 72 = some sk_72 := h 72 _ rfl
theorem k73 {K : SK} (h : StK K) : K 73 = some sk_73 := h 73 _ rfl
theorem k74 {K : SK} (h : StK K) : K 74 = some sk_74 := h 74 _ rfl
theorem k75 {K : SK} (h : StK K) : K 75 = some sk_75 := h 75 _ rfl
theorem k76 {K : SK} (h : StK K) : K 76 = some sk_76 := h 76 _ rfl
theorem k77 {K : SK} (h : StK K) : K 77 = some sk_77 := h 77 _ rfl
theorem k78 {K : SK} (h : StK K) : K 78 = some sk_78 := h 78 _ rfl
theorem k79 {K : SK} (h : StK K) : K 79 = some sk_79 := h 79 _ rfl
theorem k80 {K : SK} (h : StK K) : K 80 = some sk_80 := h 80 _ rfl
theorem k81 {K : SK} (h : StK K) : K 81 = some sk_81 := h 81 _ rfl
theorem k82 {K : SK} (h : StK K) : K 82 = some sk_82 := h 82 _ rfl
theorem k83 {K : SK} (h : StK K) : K 83 = some sk_83 := h 83 _ rfl
theorem k84 {K : SK} (h : StK K) : K 84 = some sk_84 := h 84 _ rfl
theorem k85 {K : SK} (h : StK K) : K 85 = some sk_85 := h 85 _ rfl
theorem k86 {K : SK} (h : StK K) : K 86 = some sk_86 := h 86 _ rfl
theorem k87 {K : SK} (h : StK K) : K 87 = some sk_87 := h 87 _ rfl
theorem k88 {K : SK} (h : StK K) : K 88 = some sk_88 := h 88 _ rfl
theorem k89 {K : SK} (h : StK K) : K 89 = some sk_89 := h 89 _ rfl
theorem k90 {K : SK} (h : StK K) : K 90 = some sk_90 := h 90 _ rfl
theorem k91 {K : SK} (h : StK K) : K 91 = some sk_91 := h 91 _ rfl
theorem k92 {K : SK} (h : StK K) : K 92 = some sk_92 := h 92 _ rfl
theorem k93 {K : SK} (h : StK K) : K 93 = some sk_93 := h 93 _ rfl
theorem k94 {K : SK} (h : StK K) : K 94 = some sk_94 := h 94 _ rfl
theorem k95 {K : SK} (h : StK K) : K 95 = some sk_95 := h 95 _ rfl
theorem kr4 {K : SK} (h : StK K) {j : Nat} (hj : j < 4) : K (4 + 1 + j) = some (arI 80) := by
  rcases (show j = 0 ∨ j = 1 ∨ j = 2 ∨ j = 3 by omega) with rfl | rfl | rfl | rfl
  · exact k5 h
  · exact k6 h
  · exact k7 h
  · exact k8 h
theorem kr20 {K : SK} (h : StK K) {j : Nat} (hj : j < 10) : K (20 + 1 + j) = some (arI 10) := by
  rcases (show j = 0 ∨ j = 1 ∨ j = 2 ∨ j = 3 ∨ j = 4 ∨ j = 5 ∨ j = 6 ∨ j = 7 ∨ j = 8 ∨ j = 9 by omega) with rfl | rfl | rfl | rfl | rfl | rfl | rfl | rfl | rfl | rfl
  · exact k21 h
  · exact k22 h
  · exact k23 h
  · exact k24 h
  · exact k25 h
  · exact k26 h
  · exact k27 h
  · exact k28 h
  · exact k29 h
  · exact k30 h
theorem kr34 {K : SK} (h : StK K) {j : Nat} (hj : j < 10) : K (34 + 1 + j) = some (arI 10) := by
  rcases (show j = 0 ∨ j = 1 ∨ j = 2 ∨ j = 3 ∨ j = 4 ∨ j = 5 ∨ j = 6 ∨ j = 7 ∨ j = 8 ∨ j = 9 by omega) with rfl | rfl | rfl | rfl | rfl | rfl | rfl | rfl | rfl | rfl
  · exact k35 h
  · exact k36 h
  · exact k37 h
  · exact k38 h
  · exact k39 h
  · exact k40 h
  · exact k41 h
  · exact k42 h
  · exact k43 h
  · exact k44 h
theorem kr50 {K : SK} (h : StK K) {j : Nat} (hj : j < 6) : K (50 + 1 + j) = some (arJ 60) := by
  rcases (show j = 0 ∨ j = 1 ∨ j = 2 ∨ j = 3 ∨ j = 4 ∨ j = 5 by omega) with rfl | rfl | rfl | rfl | rfl | rfl
  · exact k51 h
  · exact k52 h
  · exact k53 h
  · exact k54 h
  · exact k55 h
  · exact k56 h
def akC (a : Nat) : List AC := [.inr (0, [.int 0, .ref (a + 1), .ref (a + 2), .ref (a + 3), .int 0, .int 0, .int 0, .int 0, .int 0, .int 0, .int 0, .int 0, .int 0]), arI 15, arI 15, arI 15]
def IsAk (K : SK) (a : Nat) : Prop := ∀ i c, (akC a)[i]? = some c → K (a + i) = some c
abbrev akF (a : Nat) : List Value := [.int 0, .ref (a + 1), .ref (a + 2), .ref (a + 3), .int 0, .int 0, .int 0, .int 0, .int 0, .int 0, .int 0, .int 0, .int 0]
theorem ak_0 {K : SK} {a : Nat} (h : IsAk K a) : K a = some (.inr (0, akF a)) := h 0 _ rfl
theorem ak_1 {K : SK} {a : Nat} (h : IsAk K a) : K (a + 1) = some (arI 15) := h 1 _ rfl
theorem ak_2 {K : SK} {a : Nat} (h : IsAk K a) : K (a + 2) = some (arI 15) := h 2 _ rfl
theorem ak_3 {K : SK} {a : Nat} (h : IsAk K a) : K (a + 3) = some (arI 15) := h 3 _ rfl
abbrev stX (ci a : Nat) : List Value := if ci = 5 then [] else if ci = 10 then [.ref (a + 2), .ref (a + 3), .ref (a + 4), .int 0, .int 0] else if ci = 6 then [.ref (a + 2), .int 0, .ref (a + 3)] else if ci = 1 then [.ref (a + 2), .int 0, .int 0] else [.ref (a + 2), .int 0]
abbrev stF (ci a ky : Nat) : List Value := .ref 1 :: .int 0 :: .int 0 :: .ref (4 + 1 + ky) :: .ref (a + 1) :: .int 0 :: .int 0 :: .int 0 :: .int 0 :: stX ci a
def stA (ci : Nat) : List AC := if ci = 5 then [arI 24] else if ci = 10 then [arI 24, arI 80, arI 80, arI 80] else if ci = 6 then [arI 24, arI 80, arI 81] else if ci = 1 then [arI 24, arI 0] else [arI 24, arI 80]
def IsSt (K : SK) (a ci ky : Nat) : Prop := ky < 4 ∧ K a = some (.inr (ci, stF ci a ky)) ∧ ∀ i c, (stA ci)[i]? = some c → K (a + 1 + i) = some c
theorem st_0 {K : SK} {a ci ky : Nat} (h : IsSt K a ci ky) : K a = some (.inr (ci, stF ci a ky)) := h.2.1
theorem st_k {K : SK} {a ci ky : Nat} (hK : StK K) (h : IsSt K a ci ky) : K (4 + 1 + ky) = some (arI 80) := kr4 hK h.1
theorem st_b {K : SK} {a ci ky : Nat} (h : IsSt K a ci ky) (hc : ci ∈ [1, 2, 3, 4, 5, 6, 7, 10]) : K (a + 1) = some (arI 24) := h.2.2 0 _ (by simp only [List.mem_cons, List.not_mem_nil, or_false] at hc; rcases hc with rfl | rfl | rfl | rfl | rfl | rfl | rfl | rfl <;> rfl)
theorem sf_row_9 {ci a ky : Nat} (hc : ci ∈ [2, 3, 4, 6]) : (stF ci a ky)[9]? = some (.ref (a + 2)) := by simp only [List.mem_cons, List.not_mem_nil, or_false] at hc; rcases hc with rfl | rfl | rfl | rfl <;> rfl
theorem sf_row_10 {ci a ky : Nat} (hc : ci ∈ [2, 3, 4, 6]) : (stF ci a ky)[10]? = some (.int 0) := by simp only [List.mem_cons, List.not_mem_nil, or_false] at hc; rcases hc with rfl | rfl | rfl | rfl <;> rfl
theorem sf_tab_9 {ci a ky : Nat} (hc : ci ∈ [1, 7]) : (stF ci a ky)[9]? = some (.ref (a + 2)) := by simp only [List.mem_cons, List.not_mem_nil, or_false] at hc; rcases hc with rfl | rfl <;> rfl
theorem sf_tab_10 {ci a ky : Nat} (hc : ci ∈ [1, 7]) : (stF ci a ky)[10]? = some (.int 0) := by simp only [List.mem_cons, List.not_mem_nil, or_false] at hc; rcases hc with rfl | rfl <;> rfl
theorem st_row {K : SK} {a ci ky : Nat} (h : IsSt K a ci ky) (hc : ci ∈ [2, 3, 4, 6]) : K (a + 2) = some (arI 80) := h.2.2 1 _ (by simp only [List.mem_cons, List.not_mem_nil, or_false] at hc; rcases hc with rfl | rfl | rfl | rfl <;> rfl)
def tbN (ci : Nat) : Nat := if ci = 1 then 0 else 80
theorem st_tab {K : SK} {a ci ky : Nat} (h : IsSt K a ci ky) (hc : ci ∈ [1, 7]) : K (a + 2) = some (arI (tbN ci)) := h.2.2 1 _ (by simp only [List.mem_cons, List.not_mem_nil, or_false] at hc; rcases hc with rfl | rfl <;> rfl)
theorem st_sums {K : SK} {a ky : Nat} (h : IsSt K a 6 ky) : K (a + 3) = some (arI 81) := h.2.2 2 _ rfl
theorem st_tr2 {K : SK} {a ky : Nat} (h : IsSt K a 10 ky) : K (a + 2) = some (arI 80) := h.2.2 1 _ rfl
theorem st_tr3 {K : SK} {a ky : Nat} (h : IsSt K a 10 ky) : K (a + 3) = some (arI 80) := h.2.2 2 _ rfl
theorem st_tr4 {K : SK} {a ky : Nat} (h : IsSt K a 10 ky) : K (a + 4) = some (arI 80) := h.2.2 3 _ rfl
theorem sb_row_all {ci : Nat} (h : ci ∈ [2, 3, 4, 6]) : ci ∈ [1, 2, 3, 4, 5, 6, 7, 10] := (show ∀ c ∈ [2, 3, 4, 6], c ∈ [1, 2, 3, 4, 5, 6, 7, 10] by decide) ci h
theorem sb_srt_all {ci : Nat} (h : ci ∈ [4, 6]) : ci ∈ [1, 2, 3, 4, 5, 6, 7, 10] := (show ∀ c ∈ [4, 6], c ∈ [1, 2, 3, 4, 5, 6, 7, 10] by decide) ci h
theorem sb_srt_row {ci : Nat} (h : ci ∈ [4, 6]) : ci ∈ [2, 3, 4, 6] := (show ∀ c ∈ [4, 6], c ∈ [2, 3, 4, 6] by decide) ci h
theorem sb_tab_all {ci : Nat} (h : ci ∈ [1, 7]) : ci ∈ [1, 2, 3, 4, 5, 6, 7, 10] := (show ∀ c ∈ [1, 7], c ∈ [1, 2, 3, 4, 5, 6, 7, 10] by decide) ci h
