/-! ===== words for the conditions of a stretch of code ===== -/
def FI (S : List Nat) (h : AH) (a k : Nat) (P : Int32 → Prop) : Prop := ∃ (ci : Nat) (fs : List Value) (v : Int32), h.1 a = some (.inr (ci, fs)) ∧ ci ∈ S ∧ fs[k]? = some (.int v) ∧ P v
def FR (S : List Nat) (h : AH) (a k : Nat) (P : Nat → Prop) : Prop := ∃ (ci : Nat) (fs : List Value) (v : Nat), h.1 a = some (.inr (ci, fs)) ∧ ci ∈ S ∧ fs[k]? = some (.ref v) ∧ P v
def FN (S : List Nat) (h : AH) (a k : Nat) (P0 : Prop) (P : Nat → Prop) : Prop := ∃ (ci : Nat) (fs : List Value), h.1 a = some (.inr (ci, fs)) ∧ ci ∈ S ∧ ((fs[k]? = some .null ∧ P0) ∨ ∃ v : Nat, fs[k]? = some (.ref v) ∧ P v)
def FS (S : List Nat) (h : AH) (a k : Nat) (v : Value) (P : AH → Prop) : Prop := ∃ (ci : Nat) (fs : List Value), h.1 a = some (.inr (ci, fs)) ∧ ci ∈ S ∧ k < fs.length ∧ P (hset h a (.inr (ci, fs.set k v)))
def AI (h : AH) (a : Nat) (i : Int32) (P : Int32 → Prop) : Prop := ∃ (n : Nat) (f : Nat → Int32), h.1 a = some (.inl (0, n, .inl f)) ∧ vp_in i n ∧ P (f i.toNatClampNeg)
def AJ (h : AH) (a : Nat) (i : Int32) (P : Int64 → Prop) : Prop := ∃ (n : Nat) (f : Nat → Int64), h.1 a = some (.inl (1, n, .inr (.inl f))) ∧ vp_in i n ∧ P (f i.toNatClampNeg)
def AZ (h : AH) (a : Nat) (i : Int32) (P : Int32 → Prop) : Prop := ∃ (n : Nat) (f : Nat → Int32), h.1 a = some (.inl (2, n, .inl f)) ∧ vp_in i n ∧ P (f i.toNatClampNeg)
def AR (h : AH) (a : Nat) (i : Int32) (P : Nat → Prop) : Prop := ∃ (t n : Nat) (f : Nat → Option Nat) (b : Nat), h.1 a = some (.inl (t, n, .inr (.inr (.inr (.inr f))))) ∧ (3 ≤ t ∧ t < 7) ∧ vp_in i n ∧ f i.toNatClampNeg = some b ∧ P b
def AN (h : AH) (a : Nat) (i : Int32) (P0 : Prop) (P : Nat → Prop) : Prop := ∃ (t n : Nat) (f : Nat → Option Nat), h.1 a = some (.inl (t, n, .inr (.inr (.inr (.inr f))))) ∧ (3 ≤ t ∧ t < 7) ∧ vp_in i n ∧ ((f i.toNatClampNeg = none ∧ P0) ∨ ∃ b : Nat, f i.toNatClampNeg = some b ∧ P b)
def SI (h : AH) (a : Nat) (i x : Int32) (P : AH → Prop) : Prop := ∃ (n : Nat) (f : Nat → Int32), h.1 a = some (.inl (0, n, .inl f)) ∧ vp_in i n ∧ P (hset h a (.inl (0, n, .inl (upd f i.toNatClampNeg x))))
def SJ (h : AH) (a : Nat) (i : Int32) (x : Int64) (P : AH → Prop) : Prop := ∃ (n : Nat) (f : Nat → Int64), h.1 a = some (.inl (1, n, .inr (.inl f))) ∧ vp_in i n ∧ P (hset h a (.inl (1, n, .inr (.inl (vp_updL f i.toNatClampNeg x)))))
def SZ (h : AH) (a : Nat) (i x : Int32) (P : AH → Prop) : Prop := ∃ (n : Nat) (f : Nat → Int32), h.1 a = some (.inl (2, n, .inl f)) ∧ vp_in i n ∧ P (hset h a (.inl (2, n, .inl (upd f i.toNatClampNeg (vp_nar .boolean x)))))
def SN (h : AH) (a : Nat) (i : Int32) (P : AH → Prop) : Prop := ∃ (t n : Nat) (f : Nat → Option Nat), h.1 a = some (.inl (t, n, .inr (.inr (.inr (.inr f))))) ∧ (t = 5 ∨ t = 6) ∧ vp_in i n ∧ P (hset h a (.inl (t, n, .inr (.inr (.inr (.inr (va_up f i.toNatClampNeg none)))))))
def SR (h : AH) (a : Nat) (i : Int32) (b : Nat) (P : AH → Prop) : Prop := ∃ (t n : Nat) (f : Nat → Option Nat) (ci : Nat) (vs : List Value), h.1 a = some (.inl (t, n, .inr (.inr (.inr (.inr f))))) ∧ h.1 b = some (.inr (ci, vs)) ∧ ((t = 5 ∧ ci = 0) ∨ (t = 6 ∧ ci ∈ [1, 2, 3, 4, 5, 6, 7, 10])) ∧ vp_in i n ∧ P (hset h a (.inl (t, n, .inr (.inr (.inr (.inr (va_up f i.toNatClampNeg (some b))))))))
def LN (h : AH) (a : Nat) (P : Nat → Prop) : Prop := ∃ (t n : Nat) (x : (Nat → Int32) ⊕ (Nat → Int64) ⊕ (Nat → UInt32) ⊕ (Nat → UInt64) ⊕ (Nat → Option Nat)), h.1 a = some (.inl (t, n, x)) ∧ t < 7 ∧ P n
def CI (h : AH) (a0 : Nat) (sp : Int32) (a : Nat) (dp n : Int32) (P : AH → Prop) : Prop := ∃ (n0 n1 : Nat) (f g : Nat → Int32), h.1 a0 = some (.inl (0, n0, .inl f)) ∧ h.1 a = some (.inl (0, n1, .inl g)) ∧ ¬ sp < 0 ∧ ¬ dp < 0 ∧ ¬ n < 0 ∧ sp.toNatClampNeg + n.toNatClampNeg ≤ n0 ∧ dp.toNatClampNeg + n.toNatClampNeg ≤ n1 ∧ P (hset h a (.inl (0, n1, .inl (va_cpy f g sp.toNatClampNeg dp.toNatClampNeg n.toNatClampNeg))))
def CJ (h : AH) (a0 : Nat) (sp : Int32) (a : Nat) (dp n : Int32) (P : AH → Prop) : Prop := ∃ (n0 n1 : Nat) (f g : Nat → Int64), h.1 a0 = some (.inl (1, n0, .inr (.inl f))) ∧ h.1 a = some (.inl (1, n1, .inr (.inl g))) ∧ ¬ sp < 0 ∧ ¬ dp < 0 ∧ ¬ n < 0 ∧ sp.toNatClampNeg + n.toNatClampNeg ≤ n0 ∧ dp.toNatClampNeg + n.toNatClampNeg ≤ n1 ∧ P (hset h a (.inl (1, n1, .inr (.inl (va_cpy f g sp.toNatClampNeg dp.toNatClampNeg n.toNatClampNeg)))))
/-- the judgement where nothing is made -/
abbrev wq (G : Gp) (d : Nat) (M : AM) (pc : Nat) (ls : AL) (st : List Value) (h : AH) (Q : Option Value → AH → Prop) : Prop := wp G d M pc ls st h h.2 Q
section Wx
variable {G : Gp} {d : Nat} {M M' : AM} {pc idx n : Nat} {ls ls' : AL} {st vs : List Value} {h h' : AH} {fin fin' : Nat × Nat} {Q Q' : Option Value → AH → Prop}
theorem wq_on (e : h.2 = fin) (hw : wq G d M pc ls st h Q) : wp G d M pc ls st h fin Q := e ▸ hw
theorem cR_same (e : h.2 = fin) : cR h h.2 fin := ⟨⟨Nat.le_refl _, Nat.le_refl _⟩, Nat.le_of_eq (congrArg Prod.fst e), Nat.le_of_eq (congrArg Prod.snd e)⟩
theorem wx_sub (ks : List Nat) (he : ks.filterMap (fun k => ls[k]?) = ls') (hw : wp G d M pc ls' st h fin Q) : wp G d M pc ls st h fin Q := wp_sub (fun q hq => by
  rw [← he] at hq
  obtain ⟨k, -, hk⟩ := List.mem_filterMap.mp hq
  exact List.mem_of_getElem? hk) hw
theorem wx_istore_n {k0 : Fin 4} {i : Nat} {x : Int32} (hd : decode (mC M) pc = .ok (.istore_n k0, 1)) (hi : (k0 : Nat) = i) (hlt : i < mL M) (he : lset1 ls i (.int x) = ls') (k : wp G d M (pc + 1) ls' st h fin Q) : wp G d M pc ls (.int x :: st) h fin Q := wp_istore_n hd hi hlt (he ▸ k)
theorem wx_istore {i : Nat} {x : Int32} (hd : decode (mC M) pc = .ok (.istore i, 2)) (hlt : i < mL M) (he : lset1 ls i (.int x) = ls') (k : wp G d M (pc + 2) ls' st h fin Q) : wp G d M pc ls (.int x :: st) h fin Q := wp_istore hd hlt (he ▸ k)
theorem wx_lstore_n {k0 : Fin 4} {i : Nat} {x : Int64} (hd : decode (mC M) pc = .ok (.lstore_n k0, 1)) (hi : (k0 : Nat) = i) (hlt : i + 1 < mL M) (he : lset2 ls i (.long x) = ls') (k : wp G d M (pc + 1) ls' st h fin Q) : wp G d M pc ls (.long x :: st) h fin Q := wp_lstore_n hd hi hlt (he ▸ k)
theorem wx_lstore {i : Nat} {x : Int64} (hd : decode (mC M) pc = .ok (.lstore i, 2)) (hlt : i + 1 < mL M) (he : lset2 ls i (.long x) = ls') (k : wp G d M (pc + 2) ls' st h fin Q) : wp G d M pc ls (.long x :: st) h fin Q := wp_lstore hd hlt (he ▸ k)
theorem wx_astore_n {k0 : Fin 4} {i a : Nat} (hd : decode (mC M) pc = .ok (.astore_n k0, 1)) (hi : (k0 : Nat) = i) (hlt : i < mL M) (he : lset1 ls i (.ref a) = ls') (k : wp G d M (pc + 1) ls' st h fin Q) : wp G d M pc ls (.ref a :: st) h fin Q := wp_astore_n hd hi hlt (he ▸ k)
theorem wx_astore {i a : Nat} (hd : decode (mC M) pc = .ok (.astore i, 2)) (hlt : i < mL M) (he : lset1 ls i (.ref a) = ls') (k : wp G d M (pc + 2) ls' st h fin Q) : wp G d M pc ls (.ref a :: st) h fin Q := wp_astore hd hlt (he ▸ k)
theorem wx_astore_nN {k0 : Fin 4} {i : Nat} (hd : decode (mC M) pc = .ok (.astore_n k0, 1)) (hi : (k0 : Nat) = i) (hlt : i < mL M) (he : lset1 ls i .null = ls') (k : wp G d M (pc + 1) ls' st h fin Q) : wp G d M pc ls (.null :: st) h fin Q := wp_astore_nN hd hi hlt (he ▸ k)
theorem wx_astoreN {i : Nat} (hd : decode (mC M) pc = .ok (.astore i, 2)) (hlt : i < mL M) (he : lset1 ls i .null = ls') (k : wp G d M (pc + 2) ls' st h fin Q) : wp G d M pc ls (.null :: st) h fin Q := wp_astoreN hd hlt (he ▸ k)
theorem wx_iinc {i : Nat} {n : Int} {x v : Int32} (hd : decode (mC M) pc = .ok (.iinc i n, 3)) (hg : ls.lookup i = some (.int x)) (hv : Int32.ofInt n = v) (hlt : i < mL M) (he : lset1 ls i (.int (x + v)) = ls') (k : wp G d M (pc + 3) ls' st h fin Q) : wp G d M pc ls st h fin Q := wp_iinc hd hg (by rw [hv]) hlt (he ▸ k)
theorem wx_tableIn {x : Int32} (y : Int32) (hq : x = y) {dflt lo hi off : Int} {offs : Array Int} {len : Nat} (tgt : Nat) (hd : decode (mC M) pc = .ok (.tableswitch dflt lo hi offs, len)) (h1 : ¬ y.toInt < lo) (h2 : ¬ hi < y.toInt) (ho : offs[(y.toInt - lo).toNat]? = some off) (ht : (pc : Int) + off = (tgt : Int)) (k : wp G d M tgt ls st h fin Q) : wp G d M pc ls (.int x :: st) h fin Q := by
  subst hq
  exact wp_tableIn tgt hd h1 h2 ho ht k
theorem wx_lookup {x : Int32} (y : Int32) (hq : x = y) {dflt off : Int} {ps : Array (Int × Int)} {len : Nat} (tgt : Nat) (hd : decode (mC M) pc = .ok (.lookupswitch dflt ps, len)) (hp : (ps.toList.zip (ps.toList.drop 1)).all (fun (a, next) => a.1 < next.1) = true) (ho : Op.lookupswitch.offset ps.toList dflt y.toInt = off) (ht : (pc : Int) + off = (tgt : Int)) (k : wp G d M tgt ls st h fin Q) : wp G d M pc ls (.int x :: st) h fin Q := by
  subst hq
  exact wp_lookup tgt hd hp ho ht k
theorem wx_aastN {a n t : Nat} {f : Nat → Option Nat} {i : Int32} (hd : decode (mC M) pc = .ok (.aastore, 1)) (hc : h.1 a = some (.inl (t, n, .inr (.inr (.inr (.inr f)))))) (ht : t = 5 ∨ t = 6) (hi : vp_in i n) (kk : wp G d M (pc + 1) ls st (hset h a (.inl (t, n, .inr (.inr (.inr (.inr (va_up f i.toNatClampNeg none))))))) fin Q) : wp G d M pc ls (.null :: .int i :: .ref a :: st) h fin Q := by
  rcases ht with rfl | rfl
  · exact wp_aastN hd hc (fun _ => rfl) hi kk
  · exact wp_aastN hd hc (fun _ => rfl) hi kk
theorem wx_aastR {a n t b ci : Nat} {f : Nat → Option Nat} {ws : List Value} {i : Int32} (hd : decode (mC M) pc = .ok (.aastore, 1)) (hc : h.1 a = some (.inl (t, n, .inr (.inr (.inr (.inr f)))))) (hv : h.1 b = some (.inr (ci, ws))) (ht : (t = 5 ∧ ci = 0) ∨ (t = 6 ∧ ci ∈ [1, 2, 3, 4, 5, 6, 7, 10])) (hi : vp_in i n) (kk : wp G d M (pc + 1) ls st (hset h a (.inl (t, n, .inr (.inr (.inr (.inr (va_up f i.toNatClampNeg (some b)))))))) fin Q) : wp G d M pc ls (.ref b :: .int i :: .ref a :: st) h fin Q := by
  rcases ht with ⟨rfl, rfl⟩ | ⟨rfl, ht⟩
  · exact wp_aastR hd hc (fun _ => rfl) hv rfl (Or.inl rfl) hi kk
  · simp only [List.mem_cons, List.not_mem_nil, or_false] at ht
    rcases ht with rfl | rfl | rfl | rfl | rfl | rfl | rfl | rfl <;> first
      | exact wp_aastR hd hc (fun _ => rfl) hv rfl (Or.inl rfl) hi kk
      | exact wp_aastR hd hc (fun _ => rfl) hv rfl (Or.inr (by decide +kernel)) hi kk
/-- a method of a receiver whose class is known when it runs -/
def kX (own : String) (idx ci : Nat) (M' : AM) (n : Nat) : Prop := ∃ q : vw_C, acls[ci]? = some q ∧ (kV own idx q.1 M' n ∨ ∃ (x : MethodName) (owner : String), kU own idx q.1 M' n x owner)
theorem wp_callX {a ci : Nat} {fs : List Value} (hd : decode (mC M) pc = .ok (.invokevirtual idx, 3)) (hc : h.1 a = some (.inr (ci, fs))) (hk0 : kX (mY M).cls idx ci M' n) (hlen : vs.length = n) (hcat : ((.ref a :: vs).map fun v => v.category).sum ≤ mL M') (hst : (st.map fun v => v.category).sum ≤ 8) (hr : cR h fin' fin) (kk : wp G d M' 0 (lv_args 0 (.ref a :: vs)) [] h fin' (fun r h' => wp G (d + 1) M (pc + 3) ls (r.toList ++ st) h' fin Q)) : wp G (d + 1) M pc ls (vs.reverse ++ .ref a :: st) h fin Q := by
  obtain ⟨q, hq, hk1 | ⟨x, owner, hk1⟩⟩ := hk0
  · exact wp_callV hd hc hq hk1 hlen hcat hst hr kk
  · exact wp_callU hd hc hq hk1 hlen hcat hst hr kk
end Wx
