/-! ===== new T[n][k]: the outer array, then its rows one by one ===== -/
def m_in (cr : ClassId) (K : Nat) (dv : Value) : Cell := { cls := cr, slots := Array.replicate K dv, vm := .none }
/-- the outer array, when its first i rows are in -/
def m_out (co : ClassId) (N b : Nat) : Nat → Cell
  | 0 => { cls := co, slots := Array.replicate N .null, vm := .none }
  | i + 1 => (m_out co N b i).setSlot i (.ref (b + 1 + i))
def m_st (s : State) (co cr : ClassId) (N K : Nat) (dv : Value) : Nat → State
  | 0 => s.pushCell (m_out co N s.heap.size 0)
  | i + 1 => ((m_st s co cr N K dv i).pushCell (m_in cr K dv)).setCell s.heap.size (m_out co N s.heap.size (i + 1))
theorem m_out_is (co : ClassId) (N b : Nat) : ∀ i : Nat, m_out co N b i = arrV co N (fun j => va_rf (if j < i then some (b + 1 + j) else none))
  | 0 => by
    show ({ cls := co, slots := Array.replicate N .null, vm := .none } : Cell) = _
    rw [arrV_new]
    refine congrArg (arrV co N) (funext fun j => ?_)
    simp [va_rf]
  | i + 1 => by
    show (m_out co N b i).setSlot i (.ref (b + 1 + i)) = _
    rw [m_out_is co N b i, arrV_store]
    refine congrArg (arrV co N) (funext fun j => ?_)
    by_cases e : j = i
    · subst e
      simp [updV, va_rf]
    · by_cases hj : j < i
      · simp [updV, e, hj, Nat.lt_succ_of_lt hj]
      · simp [updV, e, hj, show ¬ j < i + 1 by omega]
theorem m_out_facts (co : ClassId) (N b i : Nat) : (m_out co N b i).cls = co ∧ (m_out co N b i).vm = .none ∧ (m_out co N b i).slots.size = N := by
  rw [m_out_is]
  exact ⟨rfl, rfl, arrV_size _ _ _⟩
theorem m_st_facts (s : State) (co cr : ClassId) (N K : Nat) (dv : Value) : ∀ i, (m_st s co cr N K dv i).heap.size = s.heap.size + 1 + i ∧ (m_st s co cr N K dv i).heap[s.heap.size]? = some (m_out co N s.heap.size i) ∧ (m_st s co cr N K dv i).vm = s.vm ∧ (m_st s co cr N K dv i).slotsUsed = s.slotsUsed + N + i * K
  | 0 => ⟨by simp [m_st], by simp [m_st], rfl, by simp [m_st, m_out]⟩
  | i + 1 => by
    obtain ⟨a, b, d, u⟩ := m_st_facts s co cr N K dv i
    have hlt : s.heap.size < (m_st s co cr N K dv i).heap.size := by omega
    have hb : ((m_st s co cr N K dv i).pushCell (m_in cr K dv)).heap[s.heap.size]? = some (m_out co N s.heap.size i) := by rw [State.heap_pushCell_of_lt (h := hlt)]; exact b
    refine ⟨?_, State.heap_setCell_self hb, by simp [m_st, d], ?_⟩
    · simp [m_st, State.setCell, a]; omega
    · simp [m_st, u, m_in, Nat.succ_mul]; omega
theorem m_st_top (s : State) (f : JFrame) (co cr : ClassId) (N K : Nat) (dv : Value) : ∀ i, m_st (s.setTop f) co cr N K dv i = (m_st s co cr N K dv i).setTop f
  | 0 => rfl
  | i + 1 => by simp only [m_st, m_st_top s f co cr N K dv i, State.heap_setTop, State.pushCell_setTop, State.setCell_setTop]
theorem m_st_old (s : State) (co cr : ClassId) (N K : Nat) (dv : Value) {a : Addr} (ha : a < s.heap.size) : ∀ i, (m_st s co cr N K dv i).heap[a]? = s.heap[a]?
  | 0 => State.heap_pushCell_of_lt _ _ ha
  | i + 1 => by
    have f1 := (m_st_facts s co cr N K dv i).1
    have hlt : a < (m_st s co cr N K dv i).heap.size := Nat.lt_of_lt_of_le ha (by rw [f1]; omega)
    show (((m_st s co cr N K dv i).pushCell (m_in cr K dv)).setCell s.heap.size _).heap[a]? = _
    rw [State.heap_setCell_other (Nat.ne_of_gt ha), State.heap_pushCell_of_lt (h := hlt)]
    exact m_st_old s co cr N K dv ha i
theorem m_st_row (s : State) (co cr : ClassId) (N K : Nat) (dv : Value) : ∀ i j, j < i → (m_st s co cr N K dv i).heap[s.heap.size + 1 + j]? = some (m_in cr K dv)
  | 0, _, h => absurd h (Nat.not_lt_zero _)
  | i + 1, j, h => by
    have f1 := (m_st_facts s co cr N K dv i).1
    show (((m_st s co cr N K dv i).pushCell (m_in cr K dv)).setCell s.heap.size _).heap[s.heap.size + 1 + j]? = _
    rw [State.heap_setCell_other (show s.heap.size ≠ s.heap.size + 1 + j by omega)]
    by_cases hj : j < i
    · have hlt : s.heap.size + 1 + j < (m_st s co cr N K dv i).heap.size := by rw [f1]; omega
      rw [State.heap_pushCell_of_lt (h := hlt)]
      exact m_st_row s co cr N K dv i j hj
    · have e : j = i := by omega
      subst e
      rw [← f1]
      exact State.heap_pushCell_size _ _
section MSem
variable {E : CtlPost} {e : Env} {dd : Bool} {acts : List Action} {s : State}
theorem m_array {co cr : ClassId} {k : Class} {type : FieldType} {len : Nat} {init : Value} (hk : s.vm.classes[co]? = some k) (hkind : k.kind = .array cr type)
    (hlimit : ¬ len > e.platform.arrayLengthLimit) (hheap : ¬ len * componentBytes type > e.platform.maxHeapBytes) (hfit : fits type init = true) (hdef : init.isDefault = true) {Qs : Addr → Pre}
    (h1 : s.heap.size < e.platform.maxCells) (h2 : s.slotsUsed + len ≤ e.platform.maxSlots)
    (hq : Qs s.heap.size dd acts (s.pushCell { cls := co, slots := Array.replicate len init, vm := .none })) :
    Jvm.Sem.wp (Jvm.newArray co len init) Qs E e dd acts s := by
  have hfits : ∀ i v, (Array.replicate len init)[i]? = some v → s.fitsSlot co .none i v = true := by
    intro i v hv
    simp only [Array.getElem?_replicate] at hv
    split at hv
    · cases hv
      simp [State.fitsSlot, State.slotType?, hk, hkind, hfit]
    · cases hv
  have hda : allocActs (Array.replicate len init) s.heap.size acts = acts := by
    have hall : ((Array.replicate len init).all (·.isDefault)) = true := by
      rw [Array.all_replicate]
      split <;> simp [hdef]
    unfold allocActs
    rw [if_pos hall]
  simp only [Jvm.newArray, Jvm.arrayFits, wp_bind', W.ask, W.ite, hlimit, if_false, wp_pure', W.theClass, hk, hkind, hheap, W.alloc, W.stop, Option.some.injEq, exists_eq_left', Array.size_replicate, hda]
  rw [if_neg (by omega)]
  exact ⟨h1, h2, hfits, hq⟩
theorem m_ref {t : FieldType} (h : t.isReference = true) (v : Value) (hv : v = .null ∨ ∃ a, v = .ref a) : fits t v = true := by
  rcases hv with rfl | ⟨a, rfl⟩ <;> cases t <;> simp [FieldType.isReference] at h <;> rfl
theorem m_rowmade {cr ce : ClassId} {kc : Class} {type : FieldType} {k : Int32} (hkc : s.vm.classes[cr]? = some kc) (hkindc : kc.kind = .array ce type) (hm : ¬ k < 0)
    (hl2 : ¬ k.toNatClampNeg > e.platform.arrayLengthLimit) (hh2 : ¬ k.toNatClampNeg * componentBytes type > e.platform.maxHeapBytes)
    (hdf : fits type (defaultValue type) = true) (hdd : (defaultValue type).isDefault = true)
    (h1 : s.heap.size < e.platform.maxCells) (h2 : s.slotsUsed + k.toNatClampNeg ≤ e.platform.maxSlots)
    {Qs : Addr → Pre} (hq : Qs s.heap.size dd acts (s.pushCell (m_in cr k.toNatClampNeg (defaultValue type)))) :
    Jvm.Sem.wp (multianewarray.make cr [k]) Qs E e dd acts s := by
  rw [multianewarray.make]
  simp only [wp_bind', W.ite, hm, if_false, wp_pure', W.theClass, hkc, hkindc, Option.some.injEq, exists_eq_left']
  exact m_array hkc hkindc hl2 hh2 hdf hdd h1 h2 hq
theorem m_made {co cr ce : ClassId} {k0 kc : Class} {t0 type : FieldType} {n k : Int32} (hk : s.vm.classes[co]? = some k0) (hkind : k0.kind = .array cr t0) (href : t0.isReference = true)
    (hkc : s.vm.classes[cr]? = some kc) (hkindc : kc.kind = .array ce type) (hn : ¬ n < 0) (hm : ¬ k < 0)
    (hl1 : ¬ n.toNatClampNeg > e.platform.arrayLengthLimit) (hh1 : ¬ n.toNatClampNeg * componentBytes t0 > e.platform.maxHeapBytes)
    (hl2 : ¬ k.toNatClampNeg > e.platform.arrayLengthLimit) (hh2 : ¬ k.toNatClampNeg * componentBytes type > e.platform.maxHeapBytes)
    (hdf : fits type (defaultValue type) = true) (hdd : (defaultValue type).isDefault = true)
    (hc : s.heap.size + 1 + n.toNatClampNeg ≤ e.platform.maxCells) (hs : s.slotsUsed + n.toNatClampNeg + n.toNatClampNeg * k.toNatClampNeg ≤ e.platform.maxSlots)
    {Qs : Addr → Pre} (hq : ∀ d' acts', Qs s.heap.size d' acts' (m_st s co cr n.toNatClampNeg k.toNatClampNeg (defaultValue type) n.toNatClampNeg)) :
    Jvm.Sem.wp (multianewarray.make co [n, k]) Qs E e dd acts s := by
  have hfind : ([k].find? (· < 0)) = none := by simp [hm]
  rw [multianewarray.make]
  simp only [wp_bind', W.ite, hn, if_false, wp_pure', W.theClass, hk, hkind, Option.some.injEq, exists_eq_left']
  refine m_array hk hkind hl1 hh1 (m_ref href _ (Or.inl rfl)) rfl (by omega) (by have := Nat.zero_le (n.toNatClampNeg * k.toNatClampNeg); omega) ?_
  simp only [hfind]
  rw [ite_self, wp_bind', Std.Legacy.Range.forIn_eq_forIn_range']
  have hsz : ([:n.toNatClampNeg] : Std.Legacy.Range).size = n.toNatClampNeg := by simp [Std.Legacy.Range.size]
  rw [hsz]
  show Jvm.Sem.wp (forIn (List.range' 0 n.toNatClampNeg 1) PUnit.unit _) _ E e dd acts _
  refine wp_forIn_inv (fun rest s' => ∃ i, i ≤ n.toNatClampNeg ∧ rest = List.range' i (n.toNatClampNeg - i) ∧ s' = m_st s co cr n.toNatClampNeg k.toNatClampNeg (defaultValue type) i) _ _ ⟨0, Nat.zero_le _, rfl, rfl⟩ ?_ ?_
  · rintro x rest s' d' acts' Q' ⟨i, hi, hl, rfl⟩ hnext
    have hlt : i < n.toNatClampNeg := by
      rcases Nat.lt_or_ge i n.toNatClampNeg with h | h
      · exact h
      · rw [show n.toNatClampNeg - i = 0 from by omega] at hl
        simp at hl
    obtain ⟨rfl, hrest⟩ : x = i ∧ rest = List.range' (i + 1) (n.toNatClampNeg - (i + 1)) := by
      rw [show n.toNatClampNeg - i = (n.toNatClampNeg - (i + 1)) + 1 from by omega, List.range'_succ] at hl
      exact ⟨(List.cons.inj hl).1, (List.cons.inj hl).2⟩
    obtain ⟨f1, f2, f3, f4⟩ := m_st_facts s co cr n.toNatClampNeg k.toNatClampNeg (defaultValue type) x
    obtain ⟨o1, o2, o3⟩ := m_out_facts co n.toNatClampNeg s.heap.size x
    have hmul : x * k.toNatClampNeg + k.toNatClampNeg ≤ n.toNatClampNeg * k.toNatClampNeg := by
      have := Nat.mul_le_mul_right k.toNatClampNeg (show x + 1 ≤ n.toNatClampNeg from hlt)
      rw [Nat.succ_mul] at this
      exact this
    simp only [wp_bind']
    refine m_rowmade (by rw [f3]; exact hkc) hkindc hm hl2 hh2 hdf hdd (by rw [f1]; omega) (by rw [f4]; omega) ?_
    have hlt0 : s.heap.size < (m_st s co cr n.toNatClampNeg k.toNatClampNeg (defaultValue type) x).heap.size := by rw [f1]; omega
    simp only [wp_bind', W.writeLoc, wp_pure']
    refine ⟨m_out co n.toNatClampNeg s.heap.size x, by rw [State.heap_pushCell_of_lt (h := hlt0)]; exact f2, by rw [o2]; simp, by rw [o3]; exact hlt, ?_, hnext _ _ _ ⟨x + 1, hlt, hrest, ?_⟩⟩
    · rw [o1, o2]
      simp [State.fitsSlot, State.slotType?, f3, hk, hkind, m_ref href _ (Or.inr ⟨_, rfl⟩)]
    · rw [f1]
      rfl
  · rintro s' d' acts' ⟨i, hi, hl, rfl⟩
    have hiN : i = n.toNatClampNeg := by
      rcases Nat.lt_or_ge i n.toNatClampNeg with h | h
      · rw [show n.toNatClampNeg - i = (n.toNatClampNeg - (i + 1)) + 1 from by omega, List.range'_succ] at hl
        cases hl
      · omega
    subst hiN
    simp only [wp_pure']
    exact hq _ _
end MSem
section MStand
variable {p : Program} {l : Launch} {e : Env} {R : Room} {s : State} {m : MethodId} {args : Array Value} {below : List Frame} {meth : Method} {c : Code} {T : State} {locs : List Loc} {cells slots : Nat}
theorem m_stand (X : Stand p l e R s m args below meth c T locs cells slots) (co cr : ClassId) (N K : Nat) (dv : Value) :
    ∀ i, Stand p l e R s m args below meth c (m_st T co cr N K dv i) (locs ++ (List.range i).map fun j => ⟨T.heap.size, j⟩) (cells + 1 + i) (slots + N + i * K)
  | 0 => by
    have h := X.pushed (m_out co N T.heap.size 0)
    rw [(m_out_facts co N T.heap.size 0).2.2] at h
    simpa [m_st] using h
  | i + 1 => by
    have Xi := m_stand X co cr N K dv i
    obtain ⟨f1, f2, f3, f4⟩ := m_st_facts T co cr N K dv i
    have hlt0 : T.heap.size < (m_st T co cr N K dv i).heap.size := by rw [f1]; omega
    have hcell : ((m_st T co cr N K dv i).pushCell (m_in cr K dv)).heap[T.heap.size]? = some (m_out co N T.heap.size i) := by rw [State.heap_pushCell_of_lt (h := hlt0)]; exact f2
    have h := (Xi.pushed (m_in cr K dv)).stored hcell i (.ref (T.heap.size + 1 + i))
    have e1 : (m_in cr K dv).slots.size = K := by simp [m_in]
    rw [e1] at h
    have e2 : (locs ++ (List.range (i + 1)).map fun j => (⟨T.heap.size, j⟩ : Loc)) = (locs ++ (List.range i).map fun j => (⟨T.heap.size, j⟩ : Loc)) ++ [⟨T.heap.size, i⟩] := by simp [List.range_succ, List.append_assoc]
    have e3 : slots + N + (i + 1) * K = slots + N + i * K + K := by rw [Nat.succ_mul]; omega
    rw [e2, e3]
    exact h
theorem m_multi (X : Stand p l e R s m args below meth c T locs cells slots) (hexec : p.tables.exec = Jvm.exec) {own : String} {index : Nat} {ty : FieldType}
    (hown : s.vm.findClass own = some m.cls) (hclink : (Cond.classLink own index ("[" ++ (FieldType.array ty).toString)).before args s = true)
    (hover : (Cond.arrayOver (.array ty)).before #[] s = true) (harr : (Cond.arrayClass ty).before args s = true)
    {g : JFrame} (hg : g.method = m) (hdg : decode c.code g.pc = .ok (.multianewarray index 2, 4)) {n k : Int32} {rest : List Value} (hstack : g.stack = .int k :: .int n :: rest)
    (hn : ¬ n < 0) (hk : ¬ k < 0) (hb1 : n.toNatClampNeg ≤ 60000) (hb2 : k.toNatClampNeg ≤ 60000)
    (hdf : fits ty (defaultValue ty) = true) (hdd : (defaultValue ty).isDefault = true)
    (hcells : cells + (1 + n.toNatClampNeg) ≤ R.cells) (hslots : slots + (n.toNatClampNeg + n.toNatClampNeg * k.toNatClampNeg) ≤ R.slots) :
    ∃ (vm₁ : Vm) (cA cr : ClassId), s.WarmedH vm₁ ∧ s.vm.findClass ("[" ++ (FieldType.array ty).toString) = some cA ∧ s.vm.findClass (FieldType.array ty).toString = some cr ∧
      Stand p l e R s m args below meth c (m_st (T.setVm vm₁) cA cr n.toNatClampNeg k.toNatClampNeg (defaultValue ty) n.toNatClampNeg) (locs ++ (List.range n.toNatClampNeg).map fun j => ⟨T.heap.size, j⟩) (cells + 1 + n.toNatClampNeg) (slots + n.toNatClampNeg + n.toNatClampNeg * k.toNatClampNeg) ∧
      ∀ target, Steps p.tables e below ((m_st (T.setVm vm₁) cA cr n.toNatClampNeg k.toNatClampNeg (defaultValue ty) n.toNatClampNeg).setTop { g with pc := g.pc + 4, stack := .ref T.heap.size :: rest }) target →
        Steps p.tables e below (T.setTop g) target := by
  subst hg
  have hpl : e.platform.magicAccessors = ({} : Platform).magicAccessors := by rw [X.admits.platform]
  obtain ⟨cr, cA, kA, hcomp, -, hkA, hkindA, hnameA⟩ := ao_spec hover
  obtain ⟨cr', kC, ce, hcomp', hkC, hkindC⟩ := Cond.arrayClass_spec harr
  have ecomp : cr' = cr := Option.some.inj (hcomp'.symm.trans hcomp)
  subst ecomp
  obtain ⟨c0, hfc0, hcl⟩ := Cond.classLink_spec hown hclink e.platform hpl
  cases hnameA.symm.trans hfc0
  obtain ⟨g1, g2, g3⟩ := State.classEntry (e := e) X.warmed hcl
  generalize T.vm.noted g.method.cls index (.cls cA) = vm₁ at g1 g2 g3
  have hal : s.vm.Alike vm₁ := g2.alike
  obtain ⟨kA₁, hkA₁, heA⟩ := hal.2.2 _ _ hkA
  obtain ⟨kC₁, hkC₁, heC⟩ := hal.2.2 _ _ hkC
  have hkindA₁ : kA₁.kind = .array cr' (.array ty) := by rw [heA]; exact hkindA
  have hkindC₁ : kC₁.kind = .array ce ty := by rw [heC]; exact hkindC
  have X₁ := X.noted g2
  obtain ⟨hr1, hr2⟩ := X.roomAbove hcells hslots
  refine ⟨vm₁, cA, cr', g2, hnameA, hcomp, m_stand X₁ cA cr' _ _ _ _, fun target hrest => ?_⟩
  have hl1 : ¬ n.toNatClampNeg > e.platform.arrayLengthLimit := by rw [Launch.admits_arrayLengthLimit X.admits]; omega
  have hh1 : ¬ n.toNatClampNeg * componentBytes (.array ty) > e.platform.maxHeapBytes := by
    rw [Launch.admits_maxHeapBytes X.admits]
    show ¬ n.toNatClampNeg * 4 > 536870912
    omega
  have hl2 : ¬ k.toNatClampNeg > e.platform.arrayLengthLimit := by rw [Launch.admits_arrayLengthLimit X.admits]; omega
  have hh2 : ¬ k.toNatClampNeg * componentBytes ty > e.platform.maxHeapBytes := by
    rw [Launch.admits_maxHeapBytes X.admits]
    exact Nat.not_lt.mpr (cb_le ty hb2)
  jvm_step X.here [hexec, hdg]
  simp only [multianewarray.sem, wp_bind', W.resolveClassAt_links (State.method?_setTop g X.here.top) g1]
  rw [W.popN, if_neg (by decide)]
  refine ⟨g, State.topJava?_setTop' (s := T.setVm vm₁) g X.here.top, [.int n, .int k], rest, rfl, hstack, ?_⟩
  simp only [List.mapM_cons, List.mapM_nil, wp_bind', wp_pure']
  refine m_made (k0 := kA₁) (kc := kC₁) (cr := cr') (ce := ce) (t0 := .array ty) (type := ty) hkA₁ hkindA₁ rfl hkC₁ hkindC₁ hn hk hl1 hh1 hl2 hh2 hdf hdd (by show T.heap.size + 1 + _ ≤ _; omega) (by show T.slotsUsed + _ + _ ≤ _; omega) (fun d' acts' => ?_)
  have XF := m_stand X₁ cA cr' n.toNatClampNeg k.toNatClampNeg (defaultValue ty) n.toNatClampNeg
  have eS : ((T.setTop g).setVm vm₁).setTop { g with stack := rest } = (T.setVm vm₁).setTop { g with stack := rest } := by
    show ((T.setVm vm₁).setTop g).setTop _ = _
    rw [State.setTop_setTop]
  rw [eS, m_st_top]
  simp only [wp_bind', W.mark, W.pushRef, State.topJava?_setTop' _ XF.here.top, Option.some.injEq, exists_eq_left', State.setTop_setTop, State.heap_setTop]
  intro acts
  simp [jvm, XF.here.top]
  exact hrest
end MStand
abbrev AK : Type := (Nat → Int32) ⊕ (Nat → Int64) ⊕ (Nat → UInt32) ⊕ (Nat → UInt64) ⊕ (Nat → Option Nat)
def hmul (t r : Nat) (z : AK) (h : AH) (N K : Nat) : AH := (fun b => if b = h.2.1 then some (.inl (t, N, .inr (.inr (.inr (.inr (fun j => if j < N then some (h.2.1 + 1 + j) else none)))))) else if h.2.1 < b ∧ b < h.2.1 + 1 + N then some (.inl (r, K, z)) else h.1 b, h.2.1 + (1 + N), h.2.2 + (N + N * K))
def hmulI (h : AH) (N K : Nat) : AH := hmul 3 0 (.inl (fun _ => 0)) h N K
def hmulJ (h : AH) (N K : Nat) : AH := hmul 4 1 (.inr (.inl (fun _ => 0))) h N K
def NMI (h : AH) (N K : Nat) (fin : Nat × Nat) (P : Nat → AH → Prop) : Prop := h.2.1 + (1 + N) ≤ fin.1 ∧ h.2.2 + (N + N * K) ≤ fin.2 ∧ P h.2.1 (hmulI h N K)
def NMJ (h : AH) (N K : Nat) (fin : Nat × Nat) (P : Nat → AH → Prop) : Prop := h.2.1 + (1 + N) ≤ fin.1 ∧ h.2.2 + (N + N * K) ≤ fin.2 ∧ P h.2.1 (hmulJ h N K)
section WpMulti
variable {G : Gp} {d : Nat} {M : AM} {pc : Nat} {ls : AL} {st : List Value} {h : AH} {fin : Nat × Nat} {Q : Option Value → AH → Prop}
theorem RelH.mul {H : Heap} (hH : RelH G h H) {T : State} (hT : T.heap = H) {cA cr : ClassId} {N K t r : Nat} {z : AK} {dv : Value} (hA : cA = gA G t) (hr : cr = gA G r) (hz : m_in cr K dv = vp_cell cr (K, trA (gp G) z)) : RelH G (hmul t r z h N K) (m_st T cA cr N K dv N).heap := by
  subst hT
  obtain ⟨f1, f2, f3, f4⟩ := m_st_facts T cA cr N K dv N
  have hsz := hH.1
  have hpi := hH.2.2.1.2
  refine ⟨?_, fun q hq => ?_, ⟨fun x => ?_, hpi.up (Nat.le_add_right _ _)⟩, fun k q hk => ?_⟩
  · show _ = gB G + (h.2.1 + (1 + N))
    rw [f1, hsz]
    omega
  · rw [m_st_old T cA cr N K dv (Nat.lt_of_lt_of_le hq (Nat.le_trans (Nat.le_add_right _ _) (Nat.le_of_eq hsz.symm))) N]
    exact hH.2.1 q hq
  · show (∃ c0, (if x = h.2.1 then _ else if h.2.1 < x ∧ x < h.2.1 + 1 + N then _ else h.1 x) = some c0) ↔ x < h.2.1 + (1 + N)
    by_cases h1 : x = h.2.1
    · subst h1
      simp
      omega
    · by_cases h2 : h.2.1 < x ∧ x < h.2.1 + 1 + N
      · simp only [h1, h2, if_false, if_true, and_self]
        simp
        omega
      · simp only [h1, h2, if_false]
        rw [hH.2.2.1.1 x]
        omega
  · have hkl : k < h.2.1 + (1 + N) := by
      have := (List.getElem?_eq_some_iff.mp hk).1
      rw [wsOf_len] at this
      exact this
    unfold wsOf at hk
    rw [List.getElem?_map, List.getElem?_range (show k < (hmul t r z h N K).2.1 from hkl)] at hk
    have hq : q = (gp G k, trO G ((hmul t r z h N K).1 k)) := (Option.some.inj hk).symm
    by_cases h1 : k = h.2.1
    · subst h1
      have e1 : (hmul t r z h N K).1 h.2.1 = some (.inl (t, N, .inr (.inr (.inr (.inr (fun j => if j < N then some (h.2.1 + 1 + j) else none)))))) := by simp [hmul]
      rw [hq, e1]
      show (m_st T cA cr N K dv N).heap[gp G h.2.1]? = some (vp_cell (gA G t) _)
      rw [gp_new hpi (Nat.le_refl _)]
      rw [← hsz, f2, m_out_is, hA, hsz]
      show _ = some (arrV (gA G t) N (fun j => va_rf ((if j < N then some (h.2.1 + 1 + j) else none).map (gp G))))
      refine congrArg some (congrArg (arrV (gA G t) N) (funext fun j => ?_))
      by_cases hj : j < N
      · simp only [hj, if_true, Option.map_some]
        rw [gp_new hpi (show h.2.1 ≤ h.2.1 + 1 + j by omega)]
        congr 2
        omega
      · simp only [hj, if_false, Option.map_none]
    · by_cases h2 : h.2.1 < k ∧ k < h.2.1 + 1 + N
      · have e1 : (hmul t r z h N K).1 k = some (.inl (r, K, z)) := by simp [hmul, h1, h2]
        rw [hq, e1]
        show (m_st T cA cr N K dv N).heap[gp G k]? = some (vp_cell (gA G r) (K, trA (gp G) z))
        have := m_st_row T cA cr N K dv N (k - h.2.1 - 1) (by omega)
        rw [hsz, show gB G + h.2.1 + 1 + (k - h.2.1 - 1) = gp G k by rw [gp_new hpi (show h.2.1 ≤ k by omega)]; omega] at this
        rw [this, hz, hr]
      · have hkh : k < h.2.1 := by omega
        have e1 : (hmul t r z h N K).1 k = h.1 k := by simp [hmul, h1, h2]
        obtain ⟨c0, hc0⟩ := (hH.2.2.1.1 k).mpr hkh
        have hat := hH.2.2.2 k _ (wsOf_get hH hc0)
        rw [hq, e1, hc0]
        exact hat.kept (m_st_old T cA cr N K dv (by rw [hsz]; exact gp_lt hpi hkh) N)
theorem wp_multi0 {idx N K t r : Nat} {n k : Int32} {ty : FieldType} {z : AK} (hd : decode (mC M) pc = .ok (.multianewarray idx 2, 4)) (hw : Cond.classLink (mY M).cls idx ("[" ++ (FieldType.array ty).toString) ∈ gtbl) (hw1 : Cond.arrayClass ty ∈ gtbl) (hao : FieldType.array ty ∈ aoT) (ht : ∀ A, (atys A)[t]? = some (A t, .array ty)) (hrr : ∀ A, (atys A)[r]? = some (A r, ty)) (hra : ∀ U cc, va_RA U cc ty → U.vm.findClass (FieldType.array ty).toString = some cc) (hdf : fits ty (defaultValue ty) = true) (hdd : (defaultValue ty).isDefault = true) (hz : ∀ (cr : ClassId) (B : Nat → Nat), m_in cr K (defaultValue ty) = vp_cell cr (K, trA B z))
    (h0 : ¬ n < 0) (h1 : ¬ k < 0) (hN : n.toNatClampNeg = N) (hK : k.toNatClampNeg = K) (hb1 : N ≤ 60000) (hb2 : K ≤ 60000) (hf1 : h.2.1 + (1 + N) ≤ fin.1) (hf2 : h.2.2 + (N + N * K) ≤ fin.2) (kk : wp G d M (pc + 4) ls (.ref h.2.1 :: st) (hmul t r z h N K) fin Q) : wp G d M pc ls (.int k :: .int n :: st) h fin Q := by
  intro p e R s m args below meth c LS H locs cells slots k1 k2 Qm hC hL hH hl hn hk
  subst hN; subst hK
  obtain ⟨e1, e2, e3, e4, e5⟩ := id hn
  have hww := hC.2.2.2.2.2.2.2.1
  have hB := hC.2.2.2.2.2.2.2.2.1
  intro T hT X
  obtain ⟨vm₁, cA, cr, hW, hfA, hfC, X', step⟩ := m_multi X hC.1 hC.2.2.2.2.2.2.1 (hww _ hw) (hB.2.2.2.2.1 _ hao) (hww _ hw1) (g := F0 m pc LS ((.int k :: .int n :: st).map (up G))) rfl (by rw [hC.2.1]; exact hd) (rest := st.map (up G)) rfl h0 h1 hb1 hb2 hdf hdd (by omega) (by omega)
  have hcA : cA = gA G t := Option.some.inj (hfA.symm.trans (hB.1.2 t _ (ht (gA G))).2)
  have hcr : cr = gA G r := Option.some.inj (hfC.symm.trans (hra _ _ (hB.1.2 r _ (hrr (gA G))).2))
  have hH1 := hH.mul (T := T.setVm vm₁) hT (N := n.toNatClampNeg) (K := k.toNatClampNeg) (t := t) (r := r) (z := z) (dv := defaultValue ty) hcA hcr (hz cr _)
  obtain ⟨t2, a1, b1⟩ := kk p e R s m args below meth c LS _ _ (cells + 1 + n.toNatClampNeg) (slots + n.toNatClampNeg + n.toNatClampNeg * k.toNatClampNeg) k1 k2 Qm hC hL hH1 (fun q hq => by
    rcases List.mem_append.mp hq with h | h
    · exact hl q h
    · obtain ⟨j, -, rfl⟩ := List.mem_map.mp h
      show gB G ≤ T.heap.size
      rw [hT, hH.1]
      omega) ⟨e1, by show _ = h.2.1 + (1 + n.toNatClampNeg); omega, by show _ = h.2.2 + (n.toNatClampNeg + n.toNatClampNeg * k.toNatClampNeg); omega, e4, e5⟩ hk _ rfl X'
  refine ⟨t2, step t2 ?_, b1⟩
  have e9 : T.heap.size = gp G h.2.1 := by rw [hT, hH.1, gp_new hH.2.2.1.2 (Nat.le_refl _)]
  rw [e9]
  exact a1
theorem wp_multiI {idx N K : Nat} {n k : Int32} (hd : decode (mC M) pc = .ok (.multianewarray idx 2, 4)) (hw : Cond.classLink (mY M).cls idx "[[I" ∈ gtbl ∧ Cond.arrayClass .int ∈ gtbl) (h0 : ¬ n < 0) (h1 : ¬ k < 0) (hN : n.toNatClampNeg = N) (hK : k.toNatClampNeg = K) (hb1 : N ≤ 60000) (hb2 : K ≤ 60000) (hf1 : h.2.1 + (1 + N) ≤ fin.1) (hf2 : h.2.2 + (N + N * K) ≤ fin.2) (kk : wp G d M (pc + 4) ls (.ref h.2.1 :: st) (hmulI h N K) fin Q) : wp G d M pc ls (.int k :: .int n :: st) h fin Q :=
  wp_multi0 (ty := .int) (t := 3) (r := 0) (z := .inl (fun _ => 0)) hd hw.1 hw.2 (by decide) (fun _ => rfl) (fun _ => rfl) (fun _ _ h => h) rfl rfl (fun cr B => by
    show ({ cls := cr, slots := Array.replicate K (defaultValue .int), vm := .none } : Cell) = _
    rw [arrV_new]
    rfl) h0 h1 hN hK hb1 hb2 hf1 hf2 kk
theorem wp_multiJ {idx N K : Nat} {n k : Int32} (hd : decode (mC M) pc = .ok (.multianewarray idx 2, 4)) (hw : Cond.classLink (mY M).cls idx "[[J" ∈ gtbl ∧ Cond.arrayClass .long ∈ gtbl) (h0 : ¬ n < 0) (h1 : ¬ k < 0) (hN : n.toNatClampNeg = N) (hK : k.toNatClampNeg = K) (hb1 : N ≤ 60000) (hb2 : K ≤ 60000) (hf1 : h.2.1 + (1 + N) ≤ fin.1) (hf2 : h.2.2 + (N + N * K) ≤ fin.2) (kk : wp G d M (pc + 4) ls (.ref h.2.1 :: st) (hmulJ h N K) fin Q) : wp G d M pc ls (.int k :: .int n :: st) h fin Q :=
  wp_multi0 (ty := .long) (t := 4) (r := 1) (z := .inr (.inl (fun _ => 0))) hd hw.1 hw.2 (by decide) (fun _ => rfl) (fun _ => rfl) (fun _ _ h => h) rfl rfl (fun cr B => by
    show ({ cls := cr, slots := Array.replicate K (defaultValue .long), vm := .none } : Cell) = _
    rw [arrV_new]
    rfl) h0 h1 hN hK hb1 hb2 hf1 hf2 kk
end WpMulti
