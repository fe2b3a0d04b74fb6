/-! ===== a static method, named by a class below the one that declares it ===== -/
set_option maxRecDepth 20000 in
theorem st_cold {Qs : Unit → Pre} {E : CtlPost} {e : Env} {dd : Bool} {acts : List Action} {s s₀ : State} {f : JFrame} {index ci nt cn : Nat} {m : MethodId} {dk ck : Class} {cf : ClassFile} {name desc : String} (hs : s.topJava?.isSome) (hp : e.platform.polymorphicOnlyByInvokevirtual = true)
    (hW : s₀.WarmedH s.vm) (hE : s₀.MethodEntryUp e s.vm f.method.cls index cn m ci) (h1 : s₀.vm.classes[f.method.cls]? = some dk) (h2 : dk.cf = some cf)
    (h3 : cf.constantPool[index]? = some (.methodref ci nt)) (h4 : cf.constantPool.nameAndType? nt = some (name, desc))
    (hck : s₀.vm.classes[cn]? = some ck) (hnone : (ck.methods.any fun x => x.name == name && !x.isStatic && signaturePolymorphic ck x) = false) :
    Jvm.Sem.wp (invokestatic.sem index) Qs E e dd acts (s.setTop f) ↔ Jvm.Sem.wp (invokestatic.sem index) Qs E e dd acts ((s.setVm (s.vm.calledUp f.method.cls ci index cn m)).setTop f) := by
  obtain ⟨g1, g2, g3, g4⟩ := hE.classFirst
  obtain ⟨ka, hka, ea⟩ := hW.alike.2.2 _ _ h1
  obtain ⟨kb, hkb, eb⟩ := hE.warmed.alike.2.2 _ _ h1
  obtain ⟨ca, hca, fa⟩ := g3.alike.2.2 _ _ hck
  obtain ⟨cb, hcb, fb⟩ := hE.warmed.alike.2.2 _ _ hck
  have h3' : cf.constantPool[index]? = some (if false then .interfaceMethodref ci nt else .methodref ci nt) := h3
  have ra := memberRef_ask_via (e := e) hka (by rw [ea]; exact h2) h3' h4
  have rb := memberRef_ask_via (e := e) hkb (by rw [eb]; exact h2) h3' h4
  have na : (ca.methods.any fun x => x.name == name && !x.isStatic && signaturePolymorphic ca x) = false := by rw [fa]; exact hnone
  have nb : (cb.methods.any fun x => x.name == name && !x.isStatic && signaturePolymorphic cb x) = false := by rw [fb]; exact hnone
  have ta : (s.setVm (s.vm.noted f.method.cls ci (.cls cn))).topJava?.isSome := hs
  have tb : (s.setVm (s.vm.calledUp f.method.cls ci index cn m)).topJava?.isSome := hs
  have hL : ∀ {Q' : ClassId → Pre} {d' : Bool} {acts' : List Action}, Jvm.Sem.wp (Jvm.resolveClassAt ci) Q' E e d' acts' (s.setTop f) ↔ Q' cn d' acts' ((s.setVm (s.vm.noted f.method.cls ci (.cls cn))).setTop f) :=
    W.resolveClassAt_links (t := s.setTop f) (State.method?_setTop f hs) g1
  have hM : ∀ {Q' : MethodId → Pre} {d' : Bool} {acts' : List Action}, Jvm.Sem.wp (Jvm.resolveMethodAt index) Q' E e d' acts' ((s.setVm (s.vm.noted f.method.cls ci (.cls cn))).setTop f) ↔ Q' m d' acts' ((s.setVm (s.vm.calledUp f.method.cls ci index cn m)).setTop f) :=
    W.resolveMethodAt_links (t := (s.setVm (s.vm.noted f.method.cls ci (.cls cn))).setTop f) (State.method?_setTop f ta) g4
  simp [invokestatic.sem, hp, Seam.memberRefOf, State.method?_setTop f hs, State.method?_setTop f tb, ra, rb, hL, W.resolveClassAt_ready (s := (s.setVm (s.vm.calledUp f.method.cls ci index cn m)).setTop f) (State.method?_setTop f tb) hE.classReady,
    hca, hcb, na, nb, hM, W.resolveMethodAt_ready (s := (s.setVm (s.vm.calledUp f.method.cls ci index cn m)).setTop f) (State.method?_setTop f tb) hE.ready, -Array.any_eq_true]
set_option maxRecDepth 20000 in
theorem st_up {p : Program} {l : Launch} {e : Env} {R : Room} {s : State} {m : MethodId} {args : Array Value} {below : List Frame} {meth : Method} {c : Code} {T : State} {locs : List Loc} {cells slots : Nat} (X : Stand p l e R s m args below meth c T locs cells slots) (hexec : p.tables.exec = Jvm.exec)
    {own owner : String} {index : Nat} {y : MethodName} (hown : s.vm.findClass own = some m.cls) (hlink : (Cond.methodLink own index y).before args s = true)
    (hsame : (Cond.sameMethod y.cls owner y.name y.desc).before args s = true) (howner : owner ≠ "java/lang/invoke/MethodHandle" ∧ owner ≠ "java/lang/invoke/VarHandle")
    {m' : MethodId} {meth' : Method} {k' : Class} (hn : s.methodNamed? ⟨owner, y.name, y.desc⟩ = some m') (hm' : s.vm.method? m' = some meth') (hstatic : meth'.isStatic = true)
    (hk' : s.vm.classes[m'.cls]? = some k') (hinit : k'.init = .initialized)
    {g : JFrame} (hg : g.method = m) {argsL rest : List Value} (hlen : argsL.length = meth'.sig.parameters.length) (hstack : g.stack = argsL.reverse ++ rest)
    (hdg : decode c.code g.pc = .ok (.invokestatic index, 3)) :
    ∃ vm', Stand p l e R s m args below meth c (T.setVm vm') locs cells slots ∧
      ∀ target, (∀ acts, Steps p.tables e below (doInvoke e ((T.setVm vm').setTop { g with stack := rest }) acts m' argsL.toArray).1 target) → Steps p.tables e below (T.setTop g) target := by
  have hpl : e.platform.magicAccessors = ({} : Platform).magicAccessors := by rw [X.admits.platform]
  have hpv : e.platform.polymorphicOnlyByInvokevirtual = true := by rw [X.admits.platform]
  obtain ⟨cn, ck, r1, hcn, hck, hni, hf, hn1⟩ := Cond.sameMethod_found hsame
  cases hn.symm.trans hn1
  obtain ⟨ci, hl, hright⟩ := Cond.methodLink_specUp hown hcn hck hni hf hlink e.platform hpl (by rw [X.admits.platform])
  have hE : s.MethodEntryUp e T.vm m.cls index cn m' ci := State.methodEntryUp X.warmed hl hright
  obtain ⟨kx, hkx, hnx⟩ := className_of_methodNamed hn
  cases hk'.symm.trans hkx
  obtain ⟨dk, cfile, nt, mname, mdesc, ck', _, _, hd, hcf, hcp, hnt, -, -, hck', -, hnopoly, -⟩ := hl.here
  cases hck.symm.trans hck'
  have alike := hE.warmed.alike
  obtain ⟨d2, hd2, ed2⟩ := alike.2.2 _ _ hd
  obtain ⟨q2, hq2, eq2⟩ := alike.2.2 _ _ hk'
  obtain ⟨c2, hc2, ec2⟩ := alike.2.2 _ _ hck
  have hnone : (ck.methods.any fun y => y.name == mname && !y.isStatic && signaturePolymorphic ck y) = false := by simp [hnopoly]
  have hnone2 : (c2.methods.any fun y => y.name == mname && !y.isStatic && signaturePolymorphic c2 y) = false := by rw [ec2]; exact hnone
  have hcp' : cfile.constantPool[index]? = some (if false then .interfaceMethodref ci nt else .methodref ci nt) := hcp
  refine ⟨T.vm.calledUp m.cls ci index cn m', X.noted hE.warmed, fun target hrest => ?_⟩
  subst hg
  jvm_step X.here [hexec, hdg, st_cold (e := e) (s := T) (s₀ := s) (f := g) X.here.top hpv X.warmed hE hd hcf hcp hnt hck hnone,
    invokestatic.wp_ready (e := e) (s := T.setVm (T.vm.calledUp g.method.cls ci index cn m')) (k := q2) (meth := meth') (m := m') (args := argsL) (rest := rest) (f := g)
      X.here.top ⟨ci, mname, mdesc, false, cn, c2, memberRef_ask_via (e := e) hd2 (by rw [ed2]; exact hcf) hcp' hnt, hE.classReady, hc2, hnone2⟩ hE.ready hq2
      (by show (T.vm.calledUp g.method.cls ci index cn m').method? m' = some meth'; rw [alike.method?]; exact hm')
      (by rw [eq2]; show signaturePolymorphic k' meth' = false; simp [signaturePolymorphic, hnx, howner.1, howner.2]) hstatic (by rw [eq2]; exact hinit) hlen hstack]
  exact fun acts => hrest _
section WpCalls3
variable {G : Gp} {d : Nat} {M M' : AM} {pc idx n : Nat} {ls : AL} {st vs : List Value} {h : AH} {fin fin' : Nat × Nat} {Q : Option Value → AH → Prop}
def kST (own : String) (idx : Nat) (M' : AM) (n : Nat) (y : MethodName) : Prop := cOK M' n ∧ Cond.methodLink own idx y ∈ gtbl ∧ Cond.sameMethod y.cls (mY M').cls y.name y.desc ∈ gtbl ∧ Cond.static (mY M') ∈ gtbl ∧ mY M' = ⟨(mY M').cls, y.name, y.desc⟩
theorem wp_callST {y : MethodName} (hd : decode (mC M) pc = .ok (.invokestatic idx, 3)) (hk0 : kST (mY M).cls idx M' n y) (hlen : vs.length = n) (hcat : (vs.map fun v => v.category).sum ≤ mL M') (hst : (st.map fun v => v.category).sum ≤ 8) (hr : cR h fin' fin) (kk : wp G d M' 0 (lv_args 0 vs) [] h fin' (fun r h' => wp G (d + 1) M (pc + 3) ls (r.toList ++ st) h' fin Q)) : wp G (d + 1) M pc ls (vs.reverse ++ st) h fin Q := by
  intro p e R s m args below meth c LS H locs cells slots k1 k2 Qm hC hL hH hl hn hk
  have hww := hC.2.2.2.2.2.2.2.1
  have hR1 := hC.2.2.2.2.2.2.2.2.2.1
  have hR2 := hC.2.2.2.2.2.2.2.2.2.2
  have hroom : cells + (fin'.1 - h.2.1) ≤ R.cells ∧ slots + (fin'.2 - h.2.2) ≤ R.slots := by obtain ⟨g1, g2, g3, g4, g5⟩ := hn; obtain ⟨⟨r1, r2⟩, r3, r4⟩ := hr; exact ⟨by omega, by omega⟩
  obtain ⟨hc0, hw1, hw2, hw3, hy⟩ := hk0
  have hlo : 8 + (mL M' + 11) + 41 * (d + 1) ≤ R.locals := by have := hc0.2.2.2.2.2; omega
  have hB := hC.2.2.2.2.2.2.2.2.1
  have hMt := met_of hc0 hcat hr.1 kk
  have hK : Back (gl G) R p e below s args (mY M') 3 8 (PreOf R (fin'.1 - h.2.1) (fin'.2 - h.2.2) (Pc G h vs)) (PostOf (Qc G fin' _) (fin'.1 - h.2.1) (fin'.2 - h.2.2) (fun q => gB G ≤ q)) := back_of (bytes := mC M') (maxL := mL M') (ret := mR M') hMt (Pc.blind G h vs) rfl rfl hR1 hlo (pay_in hww (good_wM hc0.1)) List.mem_cons_self (fun a' U hW => word_at hW (Or.inl (by first | rfl | simp [Cond.onTables, Cond.keeps, Cond.steady])) (hww _ hc0.2.1))
  refine run_on (st := st) (Q' := fun r h' => wp G (d + 1) M (pc + 3) ls (r.toList ++ st) h' fin Q) (a := (vs.map (up G)).toArray) ?_ hC hL hl hn hr.1 hk (fun r h' hq => hq)
  intro T hT X
  have hcode := hww _ hc0.1
  obtain ⟨mk, hnamed⟩ := Cond.code_named hcode
  obtain ⟨methM, cM, hmethM, -, -, -, -, -, -, hsigM⟩ := Cond.code_spec hnamed hcode
  have hstatic : methM.isStatic = true := Cond.static_spec hnamed hmethM (hww _ hw3)
  obtain ⟨kP, hkP, -⟩ := className_of_methodNamed hnamed
  have hinitP : kP.init = .initialized := Cond.initialized_spec (findClass_of_methodNamed hnamed) hkP (hww _ hc0.2.1)
  have hnm : s.methodNamed? ⟨(mY M').cls, y.name, y.desc⟩ = some mk := by rw [← hy]; exact hnamed
  obtain ⟨vm₁, X₁, hstep₁⟩ := st_up X hC.1 hC.2.2.2.2.2.2.1 (hww _ hw1) (hww _ hw2) hc0.2.2.2.1 hnm hmethM hstatic hkP hinitP (g := F0 m pc LS ((vs.reverse ++ st).map (up G))) rfl (argsL := vs.map (up G)) (rest := st.map (up G)) (by rw [List.length_map, hlen]; have h2 := hc0.2.2.2.2.1; rw [hsigM] at h2; exact (Option.some.inj h2).symm) (by show (vs.reverse ++ st).map (up G) = (vs.map (up G)).reverse ++ st.map (up G); rw [List.map_append, List.map_reverse]) (by rw [hC.2.1]; exact hd)
  obtain ⟨v, ⟨U', l2, c2, s2⟩, X', ⟨g', mk', t, L, e1, e2, hq', h1, hL', h2, h3⟩, hsteps⟩ := hK m meth c ⟨T.setVm vm₁, locs, cells, slots⟩ { (F0 m pc LS ((vs.reverse ++ st).map (up G))) with stack := st.map (up G) } (.invokestatic idx) mk (vs.map (up G)).toArray X₁ rfl (by rw [hC.2.2.1]; exact hL.size) (by rw [hC.2.1]; exact hd) (lv_room (st_cat hst)) (X₁.named hnamed) ⟨hroom.1, hroom.2, rfl, by show RelH G h T.heap; rw [hT]; exact hH, TB.warm X₁.warmed hB⟩
  dsimp only [Pt.U, Pt.locs, Pt.cells, Pt.slots] at X' e1 e2 h1 h2 h3 hsteps
  subst h1; subst h2; subst h3
  exact ⟨v, (T.setVm vm₁).calling g' mk' _, t, U', L, hT, X', hL', e1, e2, hq', fun target ht => hstep₁ _ (fun acts => by rw [doInvoke_state]; exact hsteps.trans ht)⟩
end WpCalls3

