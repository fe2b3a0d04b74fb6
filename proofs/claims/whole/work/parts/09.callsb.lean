section WpCalls2
variable {G : Gp} {d : Nat} {M M' : AM} {pc idx n : Nat} {ls : AL} {st vs : List Value} {h : AH} {fin fin' : Nat × Nat} {Q : Option Value → AH → Prop}
theorem sub_of {s : State} {A : Array Value} {C T : String} {c t : ClassId} (hc : s.vm.findClass C = some c) (ht : s.vm.findClass T = some t) (h : va_Nw (.castable C T) s) {P : String} (hT : (Cond.superclass T P).before A s = true) {kc : Class} (hkc : s.vm.classes[c]? = some kc) (hkind : kc.kind = .ordinary) : s.vm.isSubclass c t = true := by
  obtain ⟨c0, t0, f1, f2, f3⟩ := Cond.castable_spec (va_Nw.use (A := A) rfl h)
  cases hc.symm.trans f1
  cases ht.symm.trans f2
  obtain ⟨ps, dk, kp, hps, hdk, hkp, hsuper, -, -, hnid⟩ := Cond.superclass_spec ht hT
  unfold Vm.assignable Vm.assignableAux at f3
  by_cases e : c = t
  · subst e
    simp [Vm.isSubclass, Vm.isSubclassAux]
  · rw [hkc, hdk] at f3
    simp only [hkind] at f3
    cases hk2 : dk.kind <;> rw [hk2] at f3 <;> simp [e, hnid] at f3 <;> exact f3
/-- super.m(..), where the superclass has m from above -/
def kSV (own : String) (idx : Nat) (M' : AM) (n : Nat) (x : MethodName) : Prop := cOK M' n ∧ Cond.methodLink own idx x ∈ gtbl ∧ Cond.sameMethod x.cls (mY M').cls x.name x.desc ∈ gtbl ∧ Cond.superclass own x.cls ∈ gtbl ∧ Cond.instanceMethod (mY M') ∈ gtbl ∧ x.name ≠ "<init>" ∧ mY M' = ⟨(mY M').cls, x.name, x.desc⟩ ∧ (x.cls, (mY M').cls) ∈ caT ∧ (∃ P : String, Cond.superclass (mY M').cls P ∈ gtbl) ∧ (∃ (ci : Nat) (q : vw_C), acls[ci]? = some q ∧ q.1 = x.cls)
theorem wp_callSV {a ci : Nat} {q : vw_C} {fs : List Value} {x : MethodName} (hd : decode (mC M) pc = .ok (.invokespecial idx, 3)) (hc : h.1 a = some (.inr (ci, fs))) (hq : acls[ci]? = some q) (hk0 : kSV (mY M).cls idx M' n x) (hlen : vs.length = n) (hcat : ((.ref a :: vs).map fun v => v.category).sum ≤ mL M') (hst : (st.map fun v => v.category).sum ≤ 8) (hr : cR h fin' fin) (kk : wp G d M' 0 (lv_args 0 (.ref a :: vs)) [] h fin' (fun r h' => wp G (d + 1) M (pc + 3) ls (r.toList ++ st) h' fin Q)) : wp G (d + 1) M pc ls (vs.reverse ++ .ref a :: st) h fin Q := by
  intro p e R s m args below meth c LS H locs cells slots k1 k2 Qm hC hL hH hl hn hk
  have hww := hC.2.2.2.2.2.2.2.1
  have hR1 := hC.2.2.2.2.2.2.2.2.2.1
  have hR2 := hC.2.2.2.2.2.2.2.2.2.2
  have hroom : cells + (fin'.1 - h.2.1) ≤ R.cells ∧ slots + (fin'.2 - h.2.2) ≤ R.slots := by obtain ⟨g1, g2, g3, g4, g5⟩ := hn; obtain ⟨⟨r1, r2⟩, r3, r4⟩ := hr; exact ⟨by omega, by omega⟩
  obtain ⟨hc0, hw1, hw2, hw3, hw4, hno, hy, hca, ⟨PP, hw5⟩, ⟨cx, qx, hcx, hqx⟩⟩ := hk0
  have hlo : 8 + (mL M' + 11) + 41 * (d + 1) ≤ R.locals := by have := hc0.2.2.2.2.2; omega
  have hB := hC.2.2.2.2.2.2.2.2.1
  have hMt := met_of hc0 hcat hr.1 kk
  have hK : Back (gl G) R p e below s args (mY M') 3 8 (PreOf R (fin'.1 - h.2.1) (fin'.2 - h.2.2) (Pc G h (.ref a :: vs))) (PostOf (Qc G fin' _) (fin'.1 - h.2.1) (fin'.2 - h.2.2) (fun q => gB G ≤ q)) := back_of (bytes := mC M') (maxL := mL M') (ret := mR M') hMt (Pc.blind G h (.ref a :: vs)) rfl rfl hR1 hlo (pay_in hww (good_wM hc0.1)) List.mem_cons_self (fun a' U hW => word_at hW (Or.inl (by first | rfl | simp [Cond.onTables, Cond.keeps, Cond.steady])) (hww _ hc0.2.1))
  obtain ⟨cellB, hcB, hoB, hclB⟩ := wp_recv hB hH hq hc
  refine run_on (st := st) (Q' := fun r h' => wp G (d + 1) M (pc + 3) ls (r.toList ++ st) h' fin Q) (a := ((.ref a :: vs).map (up G)).toArray) ?_ hC hL hl hn hr.1 hk (fun r h' hq => hq)
  intro T hT X
  have hsame := hww _ hw2
  obtain ⟨mk, methM, hnamed, hmethM, hstM, habM⟩ := Cond.instanceMethod_spec (hww _ hw4)
  obtain ⟨methM', cM, hmethM', -, -, -, -, -, -, hsigM⟩ := Cond.code_spec hnamed (hww _ hc0.1)
  cases hmethM.symm.trans hmethM'
  obtain ⟨ps, dk, kp, hps, hdk, hkp, hsuper, -, -, hnid⟩ := Cond.superclass_spec hC.2.2.2.2.2.2.1 (hww _ hw3)
  have hnm : s.methodNamed? ⟨(mY M').cls, x.name, x.desc⟩ = some mk := by rw [← hy]; exact hnamed
  have hsub : s.vm.isSubclass ps mk.cls = true := by
    obtain ⟨hfc, kC, hkC, hkind⟩ := (hB.1.1 cx _ hcx).2
    rw [hqx] at hfc
    cases hps.symm.trans hfc
    exact sub_of hps (findClass_of_methodNamed hnamed) (hB.2.1 _ hca) (hww _ hw5) hkC hkind
  obtain ⟨hfB, kB, hkB, -⟩ := (hB.1.1 ci _ hq).2
  have hcls : (gD G).1 ci = cellB.cls := Option.some.inj (hfB.symm.trans hclB)
  rw [hcls] at hkB
  obtain ⟨vm₁, X₁, hstep₁⟩ := X.invokespecialUp hC.1 hC.2.2.2.2.2.2.1 (hww _ hw1) hsame hnm hmethM hstM habM hno hdk hnid hps hsuper hsub (a := gp G a) (cell := cellB) (by rw [hT]; exact hcB)
    (fun z hz => by rw [hz] at hoB; cases hoB) hkB (g := F0 m pc LS ((vs.reverse ++ .ref a :: st).map (up G))) rfl (argsL := vs.map (up G)) (rest := st.map (up G)) (by rw [List.length_map, hlen]; have h2 := hc0.2.2.2.2.1; rw [hsigM] at h2; exact (Option.some.inj h2).symm) (by show (vs.reverse ++ .ref a :: st).map (up G) = (vs.map (up G)).reverse ++ .ref (gp G a) :: st.map (up G); rw [List.map_append, List.map_reverse]; rfl) (by rw [hC.2.1]; exact hd)
  obtain ⟨v, ⟨U', l2, c2, s2⟩, X', ⟨g', mk', t, L, e1, e2, hq', h1, hL', h2, h3⟩, hsteps⟩ := hK m meth c ⟨T.setVm vm₁, locs, cells, slots⟩ { (F0 m pc LS ((vs.reverse ++ .ref a :: st).map (up G))) with stack := st.map (up G) } (.invokespecial idx) mk ((.ref a :: vs).map (up G)).toArray X₁ rfl (by rw [hC.2.2.1]; exact hL.size) (by rw [hC.2.1]; exact hd) (lv_room (st_cat hst)) (X₁.named hnamed) ⟨hroom.1, hroom.2, rfl, by show RelH G h T.heap; rw [hT]; exact hH, TB.warm X₁.warmed hB⟩
  dsimp only [Pt.U, Pt.locs, Pt.cells, Pt.slots] at X' e1 e2 h1 h2 h3 hsteps
  subst h1; subst h2; subst h3
  exact ⟨v, (T.setVm vm₁).calling g' mk' _, t, U', L, hT, X', hL', e1, e2, hq', fun target ht => hstep₁ _ (by rw [doInvoke_state]; exact hsteps.trans ht)⟩

theorem wp_mmax {x y : Int32} (hd : decode (mC M) pc = .ok (.invokestatic idx, 3)) (hw : Cond.methodLink (mY M).cls idx Lib.Math.max.name ∈ gtbl) (hw1 : Cond.static Lib.Math.max.name ∈ gtbl) (hw2 : Cond.initialized "java/lang/Math" ∈ gtbl) (hw3 : Cond.code Lib.Math.max.name Lib.Math.max.code 2 (some .int) ∈ gtbl) (hst : (st.map fun v => v.category).sum ≤ 8) (hf : h.2.1 ≤ fin.1 ∧ h.2.2 ≤ fin.2) (kk : wp G d M (pc + 3) ls (.int (if x < y then y else x) :: st) h fin Q) : wp G d M pc ls (.int y :: .int x :: st) h fin Q := by
  intro p e R s m args below meth c LS H locs cells slots k1 k2 Qm hC hL hH hl hn hk
  have hww := hC.2.2.2.2.2.2.2.1
  have hR1 := hC.2.2.2.2.2.2.2.2.2.1
  have hR2 := hC.2.2.2.2.2.2.2.2.2.2
  obtain ⟨g1, g2, g3, g4, g5⟩ := id hn
  have hsc := st_cat (G := G) hst
  exact va_mmax hC.1 hC.2.1 (by rw [hC.2.2.1, hL.size]) hC.2.2.2.2.2.2.1 (hww _ hw) (hww _ hw1) (hww _ hw2) (hww _ hw3) (by omega) (by omega) (by omega) (by omega) hd (kk p e R s m args below meth c LS H locs cells slots k1 k2 Qm hC hL hH hl hn hk)

theorem wp_mmin {x y : Int32} (hd : decode (mC M) pc = .ok (.invokestatic idx, 3)) (hw : Cond.methodLink (mY M).cls idx Lib.Math.min.name ∈ gtbl) (hw1 : Cond.static Lib.Math.min.name ∈ gtbl) (hw2 : Cond.initialized "java/lang/Math" ∈ gtbl) (hw3 : Cond.code Lib.Math.min.name Lib.Math.min.code 2 (some .int) ∈ gtbl) (hst : (st.map fun v => v.category).sum ≤ 8) (hf : h.2.1 ≤ fin.1 ∧ h.2.2 ≤ fin.2) (kk : wp G d M (pc + 3) ls (.int (if y < x then y else x) :: st) h fin Q) : wp G d M pc ls (.int y :: .int x :: st) h fin Q := by
  intro p e R s m args below meth c LS H locs cells slots k1 k2 Qm hC hL hH hl hn hk
  have hww := hC.2.2.2.2.2.2.2.1
  have hR1 := hC.2.2.2.2.2.2.2.2.2.1
  have hR2 := hC.2.2.2.2.2.2.2.2.2.2
  obtain ⟨g1, g2, g3, g4, g5⟩ := id hn
  have hsc := st_cat (G := G) hst
  exact va_mmin hC.1 hC.2.1 (by rw [hC.2.2.1, hL.size]) hC.2.2.2.2.2.2.1 (hww _ hw) (hww _ hw1) (hww _ hw2) (hww _ hw3) (by omega) (by omega) (by omega) (by omega) hd (kk p e R s m args below meth c LS H locs cells slots k1 k2 Qm hC hL hH hl hn hk)

theorem wp_mminL {x y : Int64} (hd : decode (mC M) pc = .ok (.invokestatic idx, 3)) (hw : Cond.methodLink (mY M).cls idx Lib.MathLoose.min_long.x ∈ gtbl) (hw1 : Cond.static Lib.MathLoose.min_long.x ∈ gtbl) (hw2 : Cond.initialized "java/lang/Math" ∈ gtbl) (hw3 : Cond.code Lib.MathLoose.min_long.x Lib.MathLoose.min_long.code 4 (some .long) ∈ gtbl) (hst : (st.map fun v => v.category).sum ≤ 8) (hf : h.2.1 ≤ fin.1 ∧ h.2.2 ≤ fin.2) (kk : wp G d M (pc + 3) ls (.long (if y < x then y else x) :: st) h fin Q) : wp G d M pc ls (.long y :: .long x :: st) h fin Q := by
  intro p e R s m args below meth c LS H locs cells slots k1 k2 Qm hC hL hH hl hn hk
  have hww := hC.2.2.2.2.2.2.2.1
  have hR1 := hC.2.2.2.2.2.2.2.2.2.1
  have hR2 := hC.2.2.2.2.2.2.2.2.2.2
  obtain ⟨g1, g2, g3, g4, g5⟩ := id hn
  have hsc := st_cat (G := G) hst
  exact va_mmin_long hC.1 hC.2.1 (by rw [hC.2.2.1, hL.size]) hC.2.2.2.2.2.2.1 (hww _ hw) (hww _ hw1) (hww _ hw2) (hww _ hw3) (by omega) (by omega) (by omega) (by omega) hd (kk p e R s m args below meth c LS H locs cells slots k1 k2 Qm hC hL hH hl hn hk)

end WpCalls2
