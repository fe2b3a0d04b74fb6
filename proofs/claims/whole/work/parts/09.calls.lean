/-! ===== calls ===== -/
def wM (M : AM) : List Cond := Cond.code (mY M) (mC M) (mL M) (mR M) :: gtbl
/-- what the tables say of a callee, whichever way it is called -/
def cOK (M : AM) (n : Nat) : Prop := Cond.code (mY M) (mC M) (mL M) (mR M) ∈ gtbl ∧ Cond.initialized (mY M).cls ∈ gtbl ∧ Jvm.plainName (mY M).cls = true ∧ ((mY M).cls ≠ "java/lang/invoke/MethodHandle" ∧ (mY M).cls ≠ "java/lang/invoke/VarHandle") ∧ (parseMethodDescriptor (mY M).desc).map (fun d => d.parameters.length) = some n ∧ mL M ≤ 22
theorem good_gtbl {Ts : List Cond} (hT : ∀ w ∈ gtbl, w ∈ Ts) : GoodIn Ts gtbl := fun w hw => ⟨hT w hw, good_of_word (List.mem_filter.mp hw).2⟩
theorem good_wM {M : AM} (hc : Cond.code (mY M) (mC M) (mL M) (mR M) ∈ gtbl) : GoodIn gtbl (wM M) := fun w hw => by
  rcases List.mem_cons.mp hw with h | h
  · rw [h]
    exact good_gtbl (fun _ h => h) _ hc
  · exact good_gtbl (fun _ h => h) _ h
theorem idx_bare (vm : Vm) (comp : ClassId) : (vm.bare.classes.findIdx? fun (x : Class) => match x.kind with | .array component _ => component == comp | _ => false) = (vm.classes.findIdx? fun (x : Class) => match x.kind with | .array component _ => component == comp | _ => false) := by
  simp only [Vm.bare, Array.findIdx?_map]
  rfl
theorem ao_spec {U : State} {A : Array Value} {t : FieldType} (h : (Cond.arrayOver (.array t)).before A U = true) : ∃ comp c k, U.vm.findClass (FieldType.array t).toString = some comp ∧ (U.vm.classes.findIdx? fun (x : Class) => match x.kind with | .array component _ => component == comp | _ => false) = some c ∧ U.vm.classes[c]? = some k ∧ k.kind = .array comp (.array t) ∧ U.vm.findClass ("[" ++ (FieldType.array t).toString) = some c := by
  simp only [Cond.before, Cond.holds, Cond.value, beq_iff_eq] at h
  cases hc : U.vm.findClass (FieldType.array t).toString with
  | none => simp [hc] at h
  | some comp =>
    simp only [hc, Option.bind_some, Option.bind_eq_some_iff, Option.map_eq_some_iff] at h
    obtain ⟨c, hi, k, hk, hb⟩ := h
    obtain ⟨hlt, hp, -⟩ := Array.findIdx?_eq_some_iff_getElem.mp hi
    have hkk : U.vm.classes[c] = k := (Array.getElem?_eq_some_iff.mp hk).2
    rw [hkk] at hp
    cases hkind : k.kind with
    | array component ty =>
      rw [hkind] at hb hp
      simp at hb hp
      exact ⟨comp, c, k, rfl, hi, hk, by rw [hkind, hp, hb.1], hb.2⟩
    | _ => rw [hkind] at hb; simp at hb
theorem ao_moved {u U : State} (hvm : u.vm.Alike U.vm) {t : FieldType} (h : (Cond.arrayOver (.array t)).before #[] u = true) : (Cond.arrayOver (.array t)).before #[] U = true := by
  obtain ⟨comp, c, k, h1, h2, h3, h4, h5⟩ := ao_spec h
  obtain ⟨k', hk', he⟩ := hvm.2.2 _ _ h3
  have hi : (U.vm.classes.findIdx? fun (x : Class) => match x.kind with | .array component _ => component == comp | _ => false) = some c := by
    rw [← idx_bare]
    first | rw [hvm.bare_eq] | rw [← hvm.bare_eq]
    rw [idx_bare]
    exact h2
  have hkind : k'.kind = .array comp (.array t) := by rw [he]; exact h4
  have f1 : U.vm.findClass (FieldType.array t).toString = some comp := by rw [hvm.findClass]; exact h1
  have f2 : U.vm.findClass ("[" ++ (FieldType.array t).toString) = some c := by rw [hvm.findClass]; exact h5
  unfold Cond.before Cond.holds
  simp only [Cond.value]
  rw [f1, Option.bind_some]
  refine (congrArg (fun o : Option Nat => (o.bind (fun c => (U.vm.classes[c]?).map fun (k : Class) => match k.kind with | .array _ ty => decide (ty = FieldType.array t) && decide (U.vm.findClass ("[" ++ (FieldType.array t).toString) = some c) | _ => false) == some true)) hi).trans ?_
  simp [hk', hkind, f2]
theorem TB.warm {G : Gp} {s U : State} (hW : s.WarmedH U.vm) (h : TB G s) : TB G U := by
  obtain ⟨h1, h2, h3, h4, h5, h6, h7⟩ := h
  have ha := hW.alike
  refine ⟨h1.moved ha, fun q hq => (h2 q hq).warmC hW, fun q hq => (h3 q hq).moved ha, fun q hq => (h4 q hq).warmM hW, fun t ht => ?_, h6.moved ha, h7⟩
  simp only [aoT, List.mem_cons, List.not_mem_nil, or_false] at ht
  have hx := h5
  rcases ht with rfl | rfl | rfl | rfl
  · exact ao_moved ha (h5 _ (by simp [aoT]))
  · exact ao_moved ha (h5 _ (by simp [aoT]))
  · exact va_AO.moved ha (h5 _ (by simp [aoT]))
  · exact va_AO.moved ha (h5 _ (by simp [aoT]))
def Pc (G : Gp) (h : AH) (vs : List Value) : Array Value → State → Prop := fun v U => v = (vs.map (up G)).toArray ∧ RelH G h U.heap ∧ TB G U
def Qc (G : Gp) (fin : Nat × Nat) (Q : Option Value → AH → Prop) : Array Value → State → Outcome → State → Prop := fun _ _ oc t => ∃ (r : Option Value) (h' : AH), oc = .returned (r.map (up G)) ∧ Q r h' ∧ h'.2 = fin ∧ RelH G h' t.heap
theorem Pc.blind (G : Gp) (h : AH) (vs : List Value) : FrameBlind (Pc G h vs) := fun a U g mk q => ⟨q.1, q.2.1, TB.warm (s := U) (U := U.calling g mk a) (State.WarmedH.refl U) q.2.2⟩
abbrev rmc (d : Nat) (h : AH) (fin : Nat × Nat) : Room := { frames := d + 1, cells := fin.1 - h.2.1, slots := fin.2 - h.2.2, locals := 41 * (d + 1) }
theorem lv_args_up {G : Gp} : ∀ (i : Nat) (vs : List Value), lv_args i (vs.map (up G)) = lvOf G (lv_args i vs)
  | _, [] => rfl
  | i, v :: vs => by
    show (i, up G v) :: lv_args (if (up G v).category = 2 then i + 2 else i + 1) (vs.map (up G)) = (i, up G v) :: lvOf G (lv_args (if v.category = 2 then i + 2 else i + 1) vs)
    rw [up_cat, lv_args_up]
theorem lg_sl_up {G : Gp} : ∀ (vs : List Value), (lg_sl (vs.map (up G))).length = (vs.map fun v => v.category).sum
  | [] => rfl
  | v :: vs => by
    have ih := lg_sl_up (G := G) vs
    simp only [lg_sl, List.map_cons, List.flatMap_cons, List.length_append, List.sum_cons] at ih ⊢
    rw [ih, up_cat]
    rcases lv_cat v with h | h <;> simp [h]
set_option maxHeartbeats 1000000 in
theorem met_of {G : Gp} {d : Nat} {M : AM} {n : Nat} {h : AH} {fin : Nat × Nat} {Q : Option Value → AH → Prop} {vs : List Value} (hc : cOK M n) (hlen : (vs.map fun v => v.category).sum ≤ mL M) (hle : h.2.1 ≤ fin.1 ∧ h.2.2 ≤ fin.2) (hw : wp G d M 0 (lv_args 0 vs) [] h fin Q) :
    Met (gl G) (mY M) (wM M) (rmc d h fin) (Pc G h vs) (Qc G fin Q) (fin.1 - h.2.1) (fin.2 - h.2.2) (fun q => gB G ≤ q) := by
  refine Met.ofW (cc := mC M) (maxL := mL M) (ret := mR M) hc.2.2.1 rfl ?_
  intro p e s m args below meth c s₁ B hml hv
  obtain ⟨rfl, hH, hT⟩ := hv
  have hpre := atoms_spec (ws := wM M) B.pre
  have hlocks : meth.locks = false := B.notSynchronized
  have hC : Cx G d M p (headSpec (wM M) (rmc d h fin)).room s m (vs.map (up G)).toArray meth c := ⟨B.exec, B.bytes, hml, B.returns, hlocks, fun hi => ((name_of_methodNamed B.named B.method).1).trans hi, findClass_of_methodNamed B.named, fun w hw => hpre w (List.mem_cons_of_mem _ hw), hT, Nat.le_refl _, Nat.le_refl _⟩
  rw [lg_entry_eq]
  have hL0 := lv_entry (vs.map (up G)) (n := mL M) (by rw [lg_sl_up]; exact hlen)
  rw [lv_args_up] at hL0
  refine hw p e _ s m _ below meth c _ s.heap [] 0 0 h.2.1 h.2.2 _ hC hL0 hH (fun q h => by cases h) ⟨hH.1, Nat.zero_add _, Nat.zero_add _, by show fin.1 ≤ fin.1 - h.2.1 + h.2.1; omega, by show fin.2 ≤ fin.2 - h.2.2 + h.2.2; omega⟩ ?_
  intro r h' H' locs' pc' cells' slots' LS' hq hfin hrel hlo hc1 hc2 hrt
  have e1 : cells' = fin.1 - h.2.1 := by omega
  have e2 : slots' = fin.2 - h.2.2 := by omega
  subst e1; subst e2
  have hx := B.exec
  have hb := B.bytes
  match r, hq, hrt with
  | none, hq, hrt => exact W.vret hx hb (by rw [B.returns]; exact hrt.2) (fun t ht _ => ⟨none, h', rfl, hq, hfin, by rw [ht]; exact hrel⟩) hlo hrt.1
  | some (.int v), hq, hrt =>
    obtain ⟨h1, ty, h2, h3⟩ := hrt
    exact W.zret hx hb (by rw [B.returns]; exact h2) h3 (fun t ht _ => ⟨some (.int v), h', rfl, hq, hfin, by rw [ht]; exact hrel⟩) hlo h1
  | some (.long v), hq, hrt => exact W.lret hx hb (by rw [B.returns]; exact hrt.2) (fun t ht _ => ⟨some (.long v), h', rfl, hq, hfin, by rw [ht]; exact hrel⟩) hlo hrt.1
  | some (.ref a), hq, hrt =>
    obtain ⟨h1, rt, h2, h3⟩ := hrt
    exact W.aret (v := .ref (gp G a)) hx hb (by rw [B.returns]; exact h2) h3 (Or.inr ⟨_, rfl⟩) (fun t ht _ => ⟨some (.ref a), h', rfl, hq, hfin, by rw [ht]; exact hrel⟩) hlo h1
  | some .null, hq, hrt =>
    obtain ⟨h1, rt, h2, h3⟩ := hrt
    exact W.aret (v := .null) hx hb (by rw [B.returns]; exact h2) h3 (Or.inl rfl) (fun t ht _ => ⟨some .null, h', rfl, hq, hfin, by rw [ht]; exact hrel⟩) hlo h1
section WpCalls
variable {G : Gp} {d : Nat} {M M' : AM} {pc idx n : Nat} {ls : AL} {st vs : List Value} {h : AH} {fin fin' : Nat × Nat} {Q : Option Value → AH → Prop}
theorem run_on {p : Program} {e : Env} {R : Room} {s : State} {m : MethodId} {args : Array Value} {below : List Frame} {meth : Method} {c : Code} {LS : Array Slot} {H : Heap} {locs : List Loc} {cells slots k1 k2 : Nat} {Qm : State → Prop} {st0 : List Value} {a : Array Value} {Q' : Option Value → AH → Prop}
    (hr : va_Run p (gl G) e R s m args below meth c H locs cells slots (fin'.1 - h.2.1) (fin'.2 - h.2.2) (F0 m pc LS st0) (st.map (up G)) (Qc G fin' Q' a) (fun q => gB G ≤ q))
    (hC : Cx G d M p R s m args meth c) (hL : Lr G (mL M) ls LS) (hl : ∀ q ∈ locs, gB G ≤ q.base)
    (hn : s.heap.size = gB G + k1 ∧ cells + k1 = h.2.1 ∧ slots + k2 = h.2.2 ∧ fin.1 ≤ R.cells + k1 ∧ fin.2 ≤ R.slots + k2) (hle : h.2.1 ≤ fin'.1 ∧ h.2.2 ≤ fin'.2)
    (hk : ∀ (r : Option Value) (h' : AH) (H' : Heap) (locs' : List Loc) (pc' cells' slots' : Nat) (LS' : Array Slot), Q r h' → h'.2 = fin → RelH G h' H' → (∀ q ∈ locs', gB G ≤ q.base) → cells' + k1 = fin.1 → slots' + k2 = fin.2 → Rt M pc' r → W p (gl G) e R s m args below meth c H' locs' cells' slots' Qm (F0 m pc' LS' (r.toList.map (up G))))
    (kk : ∀ r h', Q' r h' → wp G d M (pc + 3) ls (r.toList ++ st) h' fin Q) : W p (gl G) e R s m args below meth c H locs cells slots Qm (F0 m pc LS st0) := by
  intro T hT X
  obtain ⟨v, st₀, t, T', L, h0, X', hL', e1, e2, ⟨r, h', hv, hq, hfin, hrel⟩, step⟩ := hr T hT X
  have hv' : v = r.map (up G) := by cases hv; rfl
  subst hv'
  obtain ⟨g1, g2, g3, g4, g5⟩ := hn
  have f1 : h'.2.1 = fin'.1 := by rw [hfin]
  have f2 : h'.2.2 = fin'.2 := by rw [hfin]
  obtain ⟨t2, a1, b1⟩ := kk r h' hq p e R s m args below meth c LS T'.heap (locs ++ L) (cells + (fin'.1 - h.2.1)) (slots + (fin'.2 - h.2.2)) k1 k2 Qm hC hL (by rw [e1]; exact hrel) (fun q hq => by
    rcases List.mem_append.mp hq with h | h
    · exact hl q h
    · exact hL' q h) ⟨g1, by rw [f1]; omega, by rw [f2]; omega, g4, g5⟩ hk T' rfl X'
  refine ⟨t2, step t2 ?_, b1⟩
  have e9 : (r.map (up G)).toList ++ st.map (up G) = (r.toList ++ st).map (up G) := by cases r <;> simp
  rw [← e9] at a1
  exact a1
theorem st_cat (hst : (st.map fun v => v.category).sum ≤ 8) : ((st.map (up G)).map fun v => v.category).sum ≤ 8 := by
  rw [List.map_map]
  have : ((fun v : Value => v.category) ∘ up G) = fun v => v.category := by funext v; exact up_cat v
  rw [this]
  exact hst
/-- the callee runs in the room that is left; its end is the call's -/
abbrev cR (h : AH) (fin' fin : Nat × Nat) : Prop := (h.2.1 ≤ fin'.1 ∧ h.2.2 ≤ fin'.2) ∧ fin'.1 ≤ fin.1 ∧ fin'.2 ≤ fin.2
theorem callB_mk {R : Room} {s : State} {args : Array Value} {own : String} (hw : ∀ w ∈ gtbl, w.before args s = true) (hc : cOK M' n) (hl : Cond.methodLink own idx (mY M') ∈ gtbl) (hR1 : d + 1 + 1 ≤ R.frames) (hR2 : 41 * (d + 1 + 1) ≤ R.locals) : CallB R s args own idx (mY M') (mC M') (mL M') (mR M') (wM M') (rmc d h fin') (fin'.1 - h.2.1) (fin'.2 - h.2.2) n :=
  callB_of n hw (good_wM hc.1) rfl rfl rfl (hw _ hc.2.1) (hw _ hl) ⟨hc.2.2.2.1.1, hc.2.2.2.1.2, hc.2.2.2.2.1⟩ ⟨hR1, by have := hc.2.2.2.2.2; show 8 + (mL M' + 11) + 41 * (d + 1) ≤ R.locals; omega⟩

/-- a method of the receiver's own class -/
def kV (own : String) (idx : Nat) (C : String) (M' : AM) (n : Nat) : Prop := cOK M' n ∧ Cond.methodLink own idx (mY M') ∈ gtbl ∧ Cond.instanceMethod (mY M') ∈ gtbl ∧ Cond.selects C (mY M') (mY M') ∈ gtbl
theorem wp_callV {a ci : Nat} {q : vw_C} {fs : List Value} (hd : decode (mC M) pc = .ok (.invokevirtual idx, 3)) (hc : h.1 a = some (.inr (ci, fs))) (hq : acls[ci]? = some q) (hk0 : kV (mY M).cls idx q.1 M' n) (hlen : vs.length = n) (hcat : ((.ref a :: vs).map fun v => v.category).sum ≤ mL M') (hst : (st.map fun v => v.category).sum ≤ 8) (hr : cR h fin' fin) (kk : wp G d M' 0 (lv_args 0 (.ref a :: vs)) [] h fin' (fun r h' => wp G (d + 1) M (pc + 3) ls (r.toList ++ st) h' fin Q)) : wp G (d + 1) M pc ls (vs.reverse ++ .ref a :: st) h fin Q := by
  intro p e R s m args below meth c LS H locs cells slots k1 k2 Qm hC hL hH hl hn hk
  have hww := hC.2.2.2.2.2.2.2.1
  have hR1 := hC.2.2.2.2.2.2.2.2.2.1
  have hR2 := hC.2.2.2.2.2.2.2.2.2.2
  have hroom : cells + (fin'.1 - h.2.1) ≤ R.cells ∧ slots + (fin'.2 - h.2.2) ≤ R.slots := by obtain ⟨g1, g2, g3, g4, g5⟩ := hn; obtain ⟨⟨r1, r2⟩, r3, r4⟩ := hr; exact ⟨by omega, by omega⟩
  obtain ⟨hc0, hw1, hw2, hw3⟩ := hk0
  exact run_on (st := st) (Q' := fun r h' => wp G (d + 1) M (pc + 3) ls (r.toList ++ st) h' fin Q) (va_runV (As := vs.map (up G)) (rest := st.map (up G)) ⟨hC.1, hC.2.1, hC.2.2.1, hC.2.2.2.2.2.2.1, hww⟩ (met_of hc0 hcat hr.1 kk) ⟨callB_mk hww hc0 hw1 hR1 hR2, hww _ hw2, hww _ hw3⟩ ⟨Pc.blind G h (.ref a :: vs), wp_recv hC.2.2.2.2.2.2.2.2.1 hH hq hc, fun U hU hW => ⟨rfl, by rw [hU]; exact hH, TB.warm hW hC.2.2.2.2.2.2.2.2.1⟩⟩ rfl (by rw [List.length_map]; exact hlen) hL.size (by show (vs.reverse ++ .ref a :: st).map (up G) = (vs.map (up G)).reverse ++ .ref (gp G a) :: st.map (up G); rw [List.map_append, List.map_reverse]; rfl) (lv_room (st_cat hst)) hd hroom) hC hL hl hn hr.1 hk (fun r h' hq => hq)
/-- an inherited or an overriding method -/
def kU (own : String) (idx : Nat) (C : String) (M' : AM) (n : Nat) (x : MethodName) (owner : String) : Prop := cOK M' n ∧ (owner ≠ "java/lang/invoke/MethodHandle" ∧ owner ≠ "java/lang/invoke/VarHandle" ∧ (parseMethodDescriptor x.desc).map (fun d => d.parameters.length) = some n) ∧ Cond.methodLink own idx x ∈ gtbl ∧ Cond.sameMethod x.cls owner x.name x.desc ∈ gtbl ∧ Cond.instanceMethod ⟨owner, x.name, x.desc⟩ ∈ gtbl ∧ (∃ b0 m0 r0, Cond.code ⟨owner, x.name, x.desc⟩ b0 m0 r0 ∈ gtbl) ∧ Cond.selects C x (mY M') ∈ gtbl ∧ Cond.instanceMethod (mY M') ∈ gtbl
theorem wp_callU {a ci : Nat} {q : vw_C} {fs : List Value} {x : MethodName} {owner : String} (hd : decode (mC M) pc = .ok (.invokevirtual idx, 3)) (hc : h.1 a = some (.inr (ci, fs))) (hq : acls[ci]? = some q) (hk0 : kU (mY M).cls idx q.1 M' n x owner) (hlen : vs.length = n) (hcat : ((.ref a :: vs).map fun v => v.category).sum ≤ mL M') (hst : (st.map fun v => v.category).sum ≤ 8) (hr : cR h fin' fin) (kk : wp G d M' 0 (lv_args 0 (.ref a :: vs)) [] h fin' (fun r h' => wp G (d + 1) M (pc + 3) ls (r.toList ++ st) h' fin Q)) : wp G (d + 1) M pc ls (vs.reverse ++ .ref a :: st) h fin Q := by
  intro p e R s m args below meth c LS H locs cells slots k1 k2 Qm hC hL hH hl hn hk
  have hww := hC.2.2.2.2.2.2.2.1
  have hR1 := hC.2.2.2.2.2.2.2.2.2.1
  have hR2 := hC.2.2.2.2.2.2.2.2.2.2
  have hroom : cells + (fin'.1 - h.2.1) ≤ R.cells ∧ slots + (fin'.2 - h.2.2) ≤ R.slots := by obtain ⟨g1, g2, g3, g4, g5⟩ := hn; obtain ⟨⟨r1, r2⟩, r3, r4⟩ := hr; exact ⟨by omega, by omega⟩
  obtain ⟨hc0, hd0, hw1, hw2, hw3, ⟨b0, m0, r0, hw4⟩, hw5, hw6⟩ := hk0
  have hlo : 8 + (mL M' + 11) + 41 * (d + 1) ≤ R.locals := by have := hc0.2.2.2.2.2; omega
  have hcu : va_CU R s args (mY M).cls q.1 owner idx x (mY M') (mC M') (mL M') (mR M') (wM M') (rmc d h fin') (fin'.1 - h.2.1) (fin'.2 - h.2.2) n := ⟨⟨rfl, rfl, hR1, hlo, pay_in hww (good_wM hc0.1), List.mem_cons_self⟩, hww _ hc0.1, hww _ hc0.2.1, ⟨hd0.1, hd0.2.1⟩, fun sig h => by have h2 := hd0.2.2; rw [h] at h2; exact (Option.some.inj h2).symm, hww _ hw1, hww _ hw2, va_Decl.of (hww _ hw3) (hww _ hw4), hww _ hw5, hww _ hw6⟩
  exact run_on (st := st) (Q' := fun r h' => wp G (d + 1) M (pc + 3) ls (r.toList ++ st) h' fin Q) (va_runU (As := vs.map (up G)) (rest := st.map (up G)) ⟨hC.1, hC.2.1, hC.2.2.1, hC.2.2.2.2.2.2.1, hww⟩ (met_of hc0 hcat hr.1 kk) hcu ⟨Pc.blind G h (.ref a :: vs), wp_recv hC.2.2.2.2.2.2.2.2.1 hH hq hc, fun U hU hW => ⟨rfl, by rw [hU]; exact hH, TB.warm hW hC.2.2.2.2.2.2.2.2.1⟩⟩ rfl (by rw [List.length_map]; exact hlen) hL.size (by show (vs.reverse ++ .ref a :: st).map (up G) = (vs.map (up G)).reverse ++ .ref (gp G a) :: st.map (up G); rw [List.map_append, List.map_reverse]; rfl) (lv_room (st_cat hst)) hd hroom) hC hL hl hn hr.1 hk (fun r h' hq => hq)
/-- super.m(..) -/
def kSU (own : String) (idx : Nat) (M' : AM) (n : Nat) : Prop := cOK M' n ∧ Cond.methodLink own idx (mY M') ∈ gtbl ∧ Cond.sameMethod (mY M').cls (mY M').cls (mY M').name (mY M').desc ∈ gtbl ∧ Cond.superclass own (mY M').cls ∈ gtbl ∧ Cond.instanceMethod (mY M') ∈ gtbl ∧ (mY M').name ≠ "<init>"
theorem wp_callSU {a ci : Nat} {q : vw_C} {fs : List Value} (hd : decode (mC M) pc = .ok (.invokespecial idx, 3)) (hc : h.1 a = some (.inr (ci, fs))) (hq : acls[ci]? = some q) (hk0 : kSU (mY M).cls idx M' n) (hlen : vs.length = n) (hcat : ((.ref a :: vs).map fun v => v.category).sum ≤ mL M') (hst : (st.map fun v => v.category).sum ≤ 8) (hr : cR h fin' fin) (kk : wp G d M' 0 (lv_args 0 (.ref a :: vs)) [] h fin' (fun r h' => wp G (d + 1) M (pc + 3) ls (r.toList ++ st) h' fin Q)) : wp G (d + 1) M pc ls (vs.reverse ++ .ref a :: st) h fin Q := by
  intro p e R s m args below meth c LS H locs cells slots k1 k2 Qm hC hL hH hl hn hk
  have hww := hC.2.2.2.2.2.2.2.1
  have hR1 := hC.2.2.2.2.2.2.2.2.2.1
  have hR2 := hC.2.2.2.2.2.2.2.2.2.2
  have hroom : cells + (fin'.1 - h.2.1) ≤ R.cells ∧ slots + (fin'.2 - h.2.2) ≤ R.slots := by obtain ⟨g1, g2, g3, g4, g5⟩ := hn; obtain ⟨⟨r1, r2⟩, r3, r4⟩ := hr; exact ⟨by omega, by omega⟩
  obtain ⟨hc0, hw1, hw2, hw3, hw4, hno⟩ := hk0
  have hlo : 8 + (mL M' + 11) + 41 * (d + 1) ≤ R.locals := by have := hc0.2.2.2.2.2; omega
  have hcs : va_CS R s args (mY M).cls idx (mY M') (mC M') (mL M') (mR M') (wM M') (rmc d h fin') (fin'.1 - h.2.1) (fin'.2 - h.2.2) n := ⟨⟨rfl, rfl, hR1, hlo, pay_in hww (good_wM hc0.1), List.mem_cons_self⟩, hww _ hw1, hww _ hw2, hww _ hw3, hww _ hw4, hww _ hc0.2.1, hww _ hc0.1, hno, fun sig h => by have h2 := hc0.2.2.2.2.1; rw [h] at h2; exact (Option.some.inj h2).symm⟩
  exact run_on (st := st) (Q' := fun r h' => wp G (d + 1) M (pc + 3) ls (r.toList ++ st) h' fin Q) (va_runSU (As := vs.map (up G)) (rest := st.map (up G)) (hC.2.2.2.2.2.2.2.2.1.1.1 ci _ hq).2 ⟨hC.1, hC.2.1, hC.2.2.1, hC.2.2.2.2.2.2.1, hww⟩ (met_of hc0 hcat hr.1 kk) hcs ⟨Pc.blind G h (.ref a :: vs), wp_recv hC.2.2.2.2.2.2.2.2.1 hH hq hc, fun U hU hW => ⟨rfl, by rw [hU]; exact hH, TB.warm hW hC.2.2.2.2.2.2.2.2.1⟩⟩ rfl (by rw [List.length_map]; exact hlen) hL.size (by show (vs.reverse ++ .ref a :: st).map (up G) = (vs.map (up G)).reverse ++ .ref (gp G a) :: st.map (up G); rw [List.map_append, List.map_reverse]; rfl) (lv_room (st_cat hst)) hd hroom) hC hL hl hn hr.1 hk (fun r h' hq => hq)
/-- a constructor -/
def kI (own : String) (idx : Nat) (M' : AM) (n : Nat) : Prop := cOK M' n ∧ Cond.methodLink own idx (mY M') ∈ gtbl ∧ Cond.instanceMethod (mY M') ∈ gtbl ∧ (mY M').name = "<init>" ∧ mR M' = none
theorem wp_callI {a : Nat} (hd : decode (mC M) pc = .ok (.invokespecial idx, 3)) (hk0 : kI (mY M).cls idx M' n) (hlen : vs.length = n) (hcat : ((.ref a :: vs).map fun v => v.category).sum ≤ mL M') (hst : (st.map fun v => v.category).sum ≤ 8) (hr : cR h fin' fin) (kk : wp G d M' 0 (lv_args 0 (.ref a :: vs)) [] h fin' (fun r h' => wp G (d + 1) M (pc + 3) ls (r.toList ++ st) h' fin Q)) : wp G (d + 1) M pc ls (vs.reverse ++ .ref a :: st) h fin Q := by
  intro p e R s m args below meth c LS H locs cells slots k1 k2 Qm hC hL hH hl hn hk
  have hww := hC.2.2.2.2.2.2.2.1
  have hR1 := hC.2.2.2.2.2.2.2.2.2.1
  have hR2 := hC.2.2.2.2.2.2.2.2.2.2
  have hroom : cells + (fin'.1 - h.2.1) ≤ R.cells ∧ slots + (fin'.2 - h.2.2) ≤ R.slots := by obtain ⟨g1, g2, g3, g4, g5⟩ := hn; obtain ⟨⟨r1, r2⟩, r3, r4⟩ := hr; exact ⟨by omega, by omega⟩
  obtain ⟨hc0, hw1, hw2, hw3, hw4⟩ := hk0
  have hcb := callB_mk (d := d) (h := h) (fin' := fin') (R := R) hww hc0 hw1 hR1 hR2
  rw [hw4] at hcb
  exact run_on (st := st) (Q' := fun r h' => wp G (d + 1) M (pc + 3) ls (r.toList ++ st) h' fin Q) (va_runI (As := vs.map (up G)) (rest := st.map (up G)) ⟨hC.1, hC.2.1, hC.2.2.1, hC.2.2.2.2.2.2.1, hww⟩ (met_of hc0 hcat hr.1 kk) ⟨hcb, hw3, hww _ hw2⟩ ⟨Pc.blind G h (.ref a :: vs), fun U hU hW => ⟨rfl, by rw [hU]; exact hH, TB.warm hW hC.2.2.2.2.2.2.2.2.1⟩⟩ rfl (by rw [List.length_map]; exact hlen) hL.size (by show (vs.reverse ++ .ref a :: st).map (up G) = (vs.map (up G)).reverse ++ .ref (gp G a) :: st.map (up G); rw [List.map_append, List.map_reverse]; rfl) (lv_room (st_cat hst)) hd hroom) hC hL hl hn hr.1 hk (fun r h' hq => hq)
/-- a private constructor of a nest mate -/
def kIN (own : String) (idx : Nat) (M' : AM) (n : Nat) : Prop := cOK M' n ∧ (own, idx, mY M', RX11) ∈ nsT ∧ Cond.instanceMethod (mY M') ∈ gtbl ∧ (mY M').name = "<init>" ∧ mR M' = none
theorem wp_callIN {a : Nat} (hd : decode (mC M) pc = .ok (.invokespecial idx, 3)) (hk0 : kIN (mY M).cls idx M' n) (hlen : vs.length = n) (hcat : ((.ref a :: vs).map fun v => v.category).sum ≤ mL M') (hst : (st.map fun v => v.category).sum ≤ 8) (hr : cR h fin' fin) (kk : wp G d M' 0 (lv_args 0 (.ref a :: vs)) [] h fin' (fun r h' => wp G (d + 1) M (pc + 3) ls (r.toList ++ st) h' fin Q)) : wp G (d + 1) M pc ls (vs.reverse ++ .ref a :: st) h fin Q := by
  intro p e R s m args below meth c LS H locs cells slots k1 k2 Qm hC hL hH hl hn hk
  have hww := hC.2.2.2.2.2.2.2.1
  have hR1 := hC.2.2.2.2.2.2.2.2.2.1
  have hR2 := hC.2.2.2.2.2.2.2.2.2.2
  have hroom : cells + (fin'.1 - h.2.1) ≤ R.cells ∧ slots + (fin'.2 - h.2.2) ≤ R.slots := by obtain ⟨g1, g2, g3, g4, g5⟩ := hn; obtain ⟨⟨r1, r2⟩, r3, r4⟩ := hr; exact ⟨by omega, by omega⟩
  obtain ⟨hc0, hw1, hw2, hw3, hw4⟩ := hk0
  have hlo : 8 + (mL M' + 11) + 41 * (d + 1) ≤ R.locals := by have := hc0.2.2.2.2.2; omega
  have hcn : va_CN R s args (mY M).cls idx (mY M') RX11 (mC M') (mL M') none (wM M') (rmc d h fin') (fin'.1 - h.2.1) (fin'.2 - h.2.2) n := ⟨⟨rfl, rfl, hR1, hlo, pay_in hww (good_wM hc0.1), by rw [← hw4]; exact List.mem_cons_self⟩, by rw [← hw4]; exact hww _ hc0.1, hww _ hc0.2.1, hc0.2.2.2.1, fun sig h => by have h2 := hc0.2.2.2.2.1; rw [h] at h2; exact (Option.some.inj h2).symm, va_Nw.use rfl (hC.2.2.2.2.2.2.2.2.1.2.2.2.1 _ hw1)⟩
  exact run_on (st := st) (Q' := fun r h' => wp G (d + 1) M (pc + 3) ls (r.toList ++ st) h' fin Q) (va_runIN (As := vs.map (up G)) (rest := st.map (up G)) ⟨hC.1, hC.2.1, hC.2.2.1, hC.2.2.2.2.2.2.1, hww⟩ (met_of hc0 hcat hr.1 kk) ⟨hcn, hw3, hww _ hw2⟩ ⟨Pc.blind G h (.ref a :: vs), fun U hU hW => ⟨rfl, by rw [hU]; exact hH, TB.warm hW hC.2.2.2.2.2.2.2.2.1⟩⟩ rfl (by rw [List.length_map]; exact hlen) hL.size (by show (vs.reverse ++ .ref a :: st).map (up G) = (vs.map (up G)).reverse ++ .ref (gp G a) :: st.map (up G); rw [List.map_append, List.map_reverse]; rfl) (lv_room (st_cat hst)) hd hroom) hC hL hl hn hr.1 hk (fun r h' hq => hq)
/-- a static method -/
def kS (own : String) (idx : Nat) (M' : AM) (n : Nat) : Prop := cOK M' n ∧ Cond.methodLink own idx (mY M') ∈ gtbl ∧ Cond.static (mY M') ∈ gtbl
theorem wp_callS (hd : decode (mC M) pc = .ok (.invokestatic idx, 3)) (hk0 : kS (mY M).cls idx M' n) (hlen : vs.length = n) (hcat : (vs.map fun v => v.category).sum ≤ mL M') (hst : (st.map fun v => v.category).sum ≤ 8) (hr : cR h fin' fin) (kk : wp G d M' 0 (lv_args 0 vs) [] h fin' (fun r h' => wp G (d + 1) M (pc + 3) ls (r.toList ++ st) h' fin Q)) : wp G (d + 1) M pc ls (vs.reverse ++ st) h fin Q := by
  intro p e R s m args below meth c LS H locs cells slots k1 k2 Qm hC hL hH hl hn hk
  have hww := hC.2.2.2.2.2.2.2.1
  have hR1 := hC.2.2.2.2.2.2.2.2.2.1
  have hR2 := hC.2.2.2.2.2.2.2.2.2.2
  have hroom : cells + (fin'.1 - h.2.1) ≤ R.cells ∧ slots + (fin'.2 - h.2.2) ≤ R.slots := by obtain ⟨g1, g2, g3, g4, g5⟩ := hn; obtain ⟨⟨r1, r2⟩, r3, r4⟩ := hr; exact ⟨by omega, by omega⟩
  obtain ⟨hc0, hw1, hw2⟩ := hk0
  exact run_on (st := st) (Q' := fun r h' => wp G (d + 1) M (pc + 3) ls (r.toList ++ st) h' fin Q) (va_runS (As := vs.map (up G)) (rest := st.map (up G)) ⟨hC.1, hC.2.1, hC.2.2.1, hC.2.2.2.2.2.2.1, hww⟩ (met_of hc0 hcat hr.1 kk) ⟨callB_mk hww hc0 hw1 hR1 hR2, hww _ hw2⟩ ⟨Pc.blind G h vs, fun U hU hW => ⟨rfl, by rw [hU]; exact hH, TB.warm hW hC.2.2.2.2.2.2.2.2.1⟩⟩ rfl (by rw [List.length_map]; exact hlen) hL.size (by show (vs.reverse ++ st).map (up G) = (vs.map (up G)).reverse ++ st.map (up G); rw [List.map_append, List.map_reverse]) (lv_room (st_cat hst)) hd hroom) hC hL hl hn hr.1 hk (fun r h' hq => hq)
/-- a private static method of a nest mate -/
def kSN (own : String) (idx : Nat) (M' : AM) (n : Nat) : Prop := cOK M' n ∧ (own, idx, mY M', RX11) ∈ nsT ∧ Cond.static (mY M') ∈ gtbl
theorem wp_callSN (hd : decode (mC M) pc = .ok (.invokestatic idx, 3)) (hk0 : kSN (mY M).cls idx M' n) (hlen : vs.length = n) (hcat : (vs.map fun v => v.category).sum ≤ mL M') (hst : (st.map fun v => v.category).sum ≤ 8) (hr : cR h fin' fin) (kk : wp G d M' 0 (lv_args 0 vs) [] h fin' (fun r h' => wp G (d + 1) M (pc + 3) ls (r.toList ++ st) h' fin Q)) : wp G (d + 1) M pc ls (vs.reverse ++ st) h fin Q := by
  intro p e R s m args below meth c LS H locs cells slots k1 k2 Qm hC hL hH hl hn hk
  have hww := hC.2.2.2.2.2.2.2.1
  have hR1 := hC.2.2.2.2.2.2.2.2.2.1
  have hR2 := hC.2.2.2.2.2.2.2.2.2.2
  have hroom : cells + (fin'.1 - h.2.1) ≤ R.cells ∧ slots + (fin'.2 - h.2.2) ≤ R.slots := by obtain ⟨g1, g2, g3, g4, g5⟩ := hn; obtain ⟨⟨r1, r2⟩, r3, r4⟩ := hr; exact ⟨by omega, by omega⟩
  obtain ⟨hc0, hw1, hw2⟩ := hk0
  have hlo : 8 + (mL M' + 11) + 41 * (d + 1) ≤ R.locals := by have := hc0.2.2.2.2.2; omega
  have hcn : va_CN R s args (mY M).cls idx (mY M') RX11 (mC M') (mL M') (mR M') (wM M') (rmc d h fin') (fin'.1 - h.2.1) (fin'.2 - h.2.2) n := ⟨⟨rfl, rfl, hR1, hlo, pay_in hww (good_wM hc0.1), List.mem_cons_self⟩, hww _ hc0.1, hww _ hc0.2.1, hc0.2.2.2.1, fun sig h => by have h2 := hc0.2.2.2.2.1; rw [h] at h2; exact (Option.some.inj h2).symm, va_Nw.use rfl (hC.2.2.2.2.2.2.2.2.1.2.2.2.1 _ hw1)⟩
  exact run_on (st := st) (Q' := fun r h' => wp G (d + 1) M (pc + 3) ls (r.toList ++ st) h' fin Q) (va_runSN (As := vs.map (up G)) (rest := st.map (up G)) ⟨hC.1, hC.2.1, hC.2.2.1, hC.2.2.2.2.2.2.1, hww⟩ (met_of hc0 hcat hr.1 kk) ⟨hcn, hww _ hw2, trivial⟩ ⟨Pc.blind G h vs, fun U hU hW => ⟨rfl, by rw [hU]; exact hH, TB.warm hW hC.2.2.2.2.2.2.2.2.1⟩⟩ rfl (by rw [List.length_map]; exact hlen) hL.size (by show (vs.reverse ++ st).map (up G) = (vs.map (up G)).reverse ++ st.map (up G); rw [List.map_append, List.map_reverse]) (lv_room (st_cat hst)) hd hroom) hC hL hl hn hr.1 hk (fun r h' hq => hq)
/-- Object's constructor -/
theorem wp_objInit {a : Nat} (hd : decode (mC M) pc = .ok (.invokespecial idx, 3)) (hw : Cond.methodLink (mY M).cls idx Lib.objectInit ∈ gtbl) (hw1 : Cond.instanceMethod Lib.objectInit ∈ gtbl) (hw2 : Cond.code Lib.objectInit ⟨#[0xb1]⟩ 1 none ∈ gtbl) (hst : (st.map fun v => v.category).sum ≤ 8) (kk : wp G d M (pc + 3) ls st h fin Q) : wp G d M pc ls (.ref a :: st) h fin Q := by
  intro p e R s m args below meth c LS H locs cells slots k1 k2 Qm hC hL hH hl hn hk
  have hww := hC.2.2.2.2.2.2.2.1
  have hR1 := hC.2.2.2.2.2.2.2.2.2.1
  have hR2 := hC.2.2.2.2.2.2.2.2.2.2
  exact W.objInit hC.1 hC.2.1 hC.2.2.2.2.2.2.1 (hww _ hw) (hww _ hw1) (hww _ hw2) rfl (by rw [hC.2.2.1]; exact hL.size) (a := gp G a) (rest := st.map (up G)) rfl hd (by omega) (by have := lv_room (m := m) (pc := pc) (ls := LS) (rest := (Value.ref a :: st).map (up G)) (st_cat (G := G) hst); omega) (kk p e R s m args below meth c LS H locs cells slots k1 k2 Qm hC hL hH hl hn hk)
end WpCalls

