/-! ===== the world of 'whole': abstract cells and their places in the machine; the judgement wp ===== -/
abbrev AC : Type := (Nat × vp_A) ⊕ (Nat × List Value)
abbrev AH : Type := (Nat → Option AC) × Nat × Nat
abbrev AL : Type := List (Nat × Value)
/-- the heap at the law's start, class numbers and slots, array classes, the launch, the script's cell, its length, its ints, where an address lies -/
abbrev Gp : Type := Heap × va_G × (Nat → ClassId) × Launch × Nat × Nat × (Nat → Int32) × (Nat → Nat)
abbrev gH (G : Gp) : Heap := G.1
abbrev gB (G : Gp) : Nat := G.1.size
abbrev gD (G : Gp) : va_G := G.2.1
abbrev gA (G : Gp) : Nat → ClassId := G.2.2.1
abbrev gl (G : Gp) : Launch := G.2.2.2.1
abbrev gb (G : Gp) : Nat := G.2.2.2.2.1
abbrev gL (G : Gp) : Nat := G.2.2.2.2.2.1
abbrev gx (G : Gp) : Nat → Int32 := G.2.2.2.2.2.2.1
abbrev gm (G : Gp) : Nat → Nat := G.2.2.2.2.2.2.2
/-- where an address lies in the machine -/
def gp (G : Gp) (a : Nat) : Nat := gB G + gm G a
/-- a map of addresses, with N of them given out: it stays among them -/
def PI (π : Nat → Nat) (N : Nat) : Prop := (∀ a, N ≤ a → π a = a) ∧ (∀ a b, π a = π b → a = b) ∧ ∀ c, ∃ a, π a = c
abbrev mN (M : AM) : Nat := M.1
abbrev mY (M : AM) : MethodName := M.2.1
abbrev mC (M : AM) : ByteArray := M.2.2.1
abbrev mL (M : AM) : Nat := M.2.2.2.1
abbrev mR (M : AM) : Option FieldType := M.2.2.2.2
/-- the words that any callee may take over -/
def gtbl : List Cond := lw_tbl.filter goodWord
/-- an abstract value in the machine: places count from the law's start; .retAddr stands for the script -/
def up (G : Gp) : Value → Value
  | .ref a => .ref (gp G a)
  | .retAddr _ => .ref (gb G)
  | .int v => .int v
  | .long v => .long v
  | .float v => .float v
  | .double v => .double v
  | .null => .null
def hset (h : AH) (a : Nat) (c : AC) : AH := (fun b => if b = a then some c else h.1 b, h.2)
def hnew (h : AH) (c : AC) (n : Nat) : AH := (fun b => if b = h.2.1 then some c else h.1 b, h.2.1 + 1, h.2.2 + n)
/-- the locals, by their places -/
def lins (i : Nat) (v : Value) : AL → AL
  | [] => [(i, v)]
  | q :: l => if i < q.1 then (i, v) :: q :: l else q :: lins i v l
def lset1 (ls : AL) (i : Nat) (v : Value) : AL := lins i v (ls.filter (fun q => !(q.1 == i) && !(q.1 + 1 == i && q.2.category == 2)))
def lset2 (ls : AL) (i : Nat) (v : Value) : AL := lins i v (ls.filter (fun q => !(q.1 == i) && (!(q.1 == i + 1) && !(q.1 + 1 == i && q.2.category == 2))))
def lvOf (G : Gp) (ls : AL) : List (Nat × Value) := ls.map (fun q => (q.1, up G q.2))
def Lr (G : Gp) (n : Nat) (ls : AL) (LS : Array Slot) : Prop := lv_has LS n (lvOf G ls)
def trA (F : Nat → Nat) : ((Nat → Int32) ⊕ (Nat → Int64) ⊕ (Nat → UInt32) ⊕ (Nat → UInt64) ⊕ (Nat → Option Nat)) → ((Nat → Int32) ⊕ (Nat → Int64) ⊕ (Nat → UInt32) ⊕ (Nat → UInt64) ⊕ (Nat → Option Nat))
  | .inr (.inr (.inr (.inr f))) => .inr (.inr (.inr (.inr (fun j => (f j).map F))))
  | .inl f => .inl f
  | .inr (.inl f) => .inr (.inl f)
  | .inr (.inr (.inl f)) => .inr (.inr (.inl f))
  | .inr (.inr (.inr (.inl f))) => .inr (.inr (.inr (.inl f)))
def trE (G : Gp) : AC → va_E
  | .inl (t, n, c) => .inl (gA G t, n, trA (gp G) c)
  | .inr (ci, fs) => .inr (ci, fs.map (up G))
def trO (G : Gp) (o : Option AC) : va_E := match o with
  | some c => trE G c
  | none => .inr (0, [])
def wsOf (G : Gp) (h : AH) : va_W := (List.range h.2.1).map (fun k => (gp G k, trO G (h.1 k)))
abbrev atys (A : Nat → ClassId) : List (ClassId × FieldType) := [(A 0, .int), (A 1, .long), (A 2, .boolean), (A 3, .array .int), (A 4, .array .long), (A 5, .object RX0), (A 6, .object RX5)]
def RelH (G : Gp) (h : AH) (H : Heap) : Prop := H.size = gB G + h.2.1 ∧ (∀ q : Nat, q < gB G → H[q]? = (gH G)[q]?) ∧ ((∀ a : Nat, (∃ c, h.1 a = some c) ↔ a < h.2.1) ∧ PI (gm G) h.2.1) ∧ va_P (gD G) acls (wsOf G h) H
/-- the words that no callee may take over by itself: who can be cast to whom, who can't, the links within the nest, arrays of references -/
def caT : List (String × String) := [(RX2, RX3), (RX4, RX3), (RX6, RX3), (RX6, RX4), (RX1, RX7), (RX3, RX5), (RX4, RX5), (RX2, RX5), (RX7, RX5), (RX10, RX5), (RX1, RX5), (RX6, RX5)]
def ncT : List (String × String) := [(RX7, RX3), (RX10, RX3), (RX1, RX3), (RX5, RX3), (RX3, RX4), (RX2, RX4), (RX7, RX4), (RX10, RX4), (RX1, RX4), (RX5, RX4), (RX3, RX2), (RX4, RX2), (RX7, RX2), (RX10, RX2), (RX1, RX2), (RX6, RX2), (RX5, RX2), (RX3, RX7), (RX4, RX7), (RX2, RX7), (RX10, RX7), (RX6, RX7), (RX5, RX7), (RX3, RX10), (RX4, RX10), (RX2, RX10), (RX7, RX10), (RX1, RX10), (RX6, RX10), (RX5, RX10), (RX3, RX1), (RX4, RX1), (RX2, RX1), (RX7, RX1), (RX10, RX1), (RX6, RX1), (RX5, RX1), (RX3, RX6), (RX4, RX6), (RX2, RX6), (RX7, RX6), (RX10, RX6), (RX1, RX6), (RX5, RX6)]
def nsT : List (String × Nat × MethodName × String) := [(RX11, 18, yX9_init, RX11), (RX8, 45, yX11_isWithin, RX11), (RX11, 33, yX0_init, RX11), (RX0, 51, yX11_isWithin, RX11), (RX3, 40, yX11_isWithin, RX11), (RX7, 44, yX11_isWithin, RX11)]
def aoT : List FieldType := [.array .int, .array .long, .object RX0, .object RX5]
def TB (G : Gp) (U : State) : Prop := va_K (gD G) acls (atys (gA G)) U ∧ (∀ q ∈ caT, va_Nw (.castable q.1 q.2) U) ∧ (∀ q ∈ ncT, va_Nc q.1 q.2 U) ∧ (∀ q ∈ nsT, va_Nw (.methodLinkNest q.1 q.2.1 q.2.2.1 q.2.2.2) U) ∧ (∀ t ∈ aoT, (Cond.arrayOver t).before #[] U = true) ∧ va_X (gb G) (gL G) (gx G) U (gH G) ∧ gb G < gB G
def Cx (G : Gp) (d : Nat) (M : AM) (p : Program) (R : Room) (s : State) (m : MethodId) (args : Array Value) (meth : Method) (c : Code) : Prop :=
  p.tables.exec = Jvm.exec ∧ c.code = mC M ∧ c.maxLocals = mL M ∧ meth.sig.returnType = mR M ∧ meth.locks = false ∧ ((mY M).name = "<init>" → meth.name = "<init>") ∧ s.vm.findClass (mY M).cls = some m.cls ∧ (∀ w ∈ gtbl, w.before args s = true) ∧ TB G s ∧ d + 1 ≤ R.frames ∧ 41 * (d + 1) ≤ R.locals
def Rt (M : AM) (pc : Nat) (r : Option Value) : Prop := match r with
  | none => decode (mC M) pc = .ok (.return_, 1) ∧ mR M = none
  | some (.int v) => decode (mC M) pc = .ok (.ireturn, 1) ∧ ∃ ty, mR M = some ty ∧ narrow ty (.int v) = .int v
  | some (.long _) => decode (mC M) pc = .ok (.lreturn, 1) ∧ mR M = some .long
  | some (.ref _) => decode (mC M) pc = .ok (.areturn, 1) ∧ ∃ rt, mR M = some rt ∧ ((∃ n, rt = .object n) ∨ ∃ t, rt = .array t)
  | some .null => decode (mC M) pc = .ok (.areturn, 1) ∧ ∃ rt, mR M = some rt ∧ ((∃ n, rt = .object n) ∨ ∃ t, rt = .array t)
  | some _ => False
def wp (G : Gp) (d : Nat) (M : AM) (pc : Nat) (ls : AL) (st : List Value) (h : AH) (fin : Nat × Nat) (Q : Option Value → AH → Prop) : Prop :=
  ∀ (p : Program) (e : Env) (R : Room) (s : State) (m : MethodId) (args : Array Value) (below : List Frame) (meth : Method) (c : Code) (LS : Array Slot) (H : Heap) (locs : List Loc) (cells slots k1 k2 : Nat) (Qm : State → Prop),
  Cx G d M p R s m args meth c → Lr G (mL M) ls LS → RelH G h H → (∀ q ∈ locs, gB G ≤ q.base) →
  (s.heap.size = gB G + k1 ∧ cells + k1 = h.2.1 ∧ slots + k2 = h.2.2 ∧ fin.1 ≤ R.cells + k1 ∧ fin.2 ≤ R.slots + k2) →
  (∀ (r : Option Value) (h' : AH) (H' : Heap) (locs' : List Loc) (pc' cells' slots' : Nat) (LS' : Array Slot), Q r h' → h'.2 = fin → RelH G h' H' → (∀ q ∈ locs', gB G ≤ q.base) → cells' + k1 = fin.1 → slots' + k2 = fin.2 → Rt M pc' r → W p (gl G) e R s m args below meth c H' locs' cells' slots' Qm (F0 m pc' LS' (r.toList.map (up G)))) →
  W p (gl G) e R s m args below meth c H locs cells slots Qm (F0 m pc LS (st.map (up G)))
theorem W_bound {p : Program} {l : Launch} {e : Env} {R : Room} {s : State} {m : MethodId} {args : Array Value} {below : List Frame} {meth : Method} {c : Code} {H : Heap} {locs : List Loc} {cells slots : Nat} {Q : State → Prop} {g : JFrame} (k : H.size ≤ s.heap.size + cells → W p l e R s m args below meth c H locs cells slots Q g) : W p l e R s m args below meth c H locs cells slots Q g := fun T hT X => k (by rw [← hT]; exact X.same.2.2.1) T hT X
section WpBasics
variable {G : Gp} {d : Nat} {M : AM} {pc : Nat} {ls : AL} {st : List Value} {h : AH} {fin : Nat × Nat} {Q : Option Value → AH → Prop}
theorem wp_mono {Q' : Option Value → AH → Prop} (hw : wp G d M pc ls st h fin Q) (hq : ∀ r h', Q r h' → h'.2 = fin → Q' r h') : wp G d M pc ls st h fin Q' := by
  intro p e R s m args below meth c LS H locs cells slots k1 k2 Qm hC hL hH hl hn hk
  exact hw p e R s m args below meth c LS H locs cells slots k1 k2 Qm hC hL hH hl hn (fun r h' H' locs' pc' cells' slots' LS' q1 q2 => hk r h' H' locs' pc' cells' slots' LS' (hq r h' q1 q2) q2)
theorem up_cat (v : Value) : (up G v).category = v.category := by
  cases v <;> rfl
theorem lvOf_mem {ls : AL} {i : Nat} {v : Value} (h : ls.lookup i = some v) : (i, up G v) ∈ lvOf G ls := by
  refine List.mem_map.mpr ⟨(i, v), ?_, rfl⟩
  induction ls with
  | nil => cases h
  | cons q l ih =>
    obtain ⟨j, w⟩ := q
    rw [List.lookup_cons] at h
    split at h
    · rename_i hj
      have hj : i = j := by simpa using hj
      cases h
      rw [hj]
      exact List.mem_cons_self
    · exact List.mem_cons_of_mem _ (ih h)
theorem lins_mem {i : Nat} {v : Value} {l : AL} {q : Nat × Value} (h : q ∈ lins i v l) : q ∈ (i, v) :: l := by
  induction l with
  | nil => exact h
  | cons a l ih =>
    unfold lins at h
    split at h
    · exact h
    · rcases List.mem_cons.mp h with h | h
      · rw [h]
        exact List.mem_cons_of_mem _ List.mem_cons_self
      · rcases List.mem_cons.mp (ih h) with h | h
        · rw [h]
          exact List.mem_cons_self
        · exact List.mem_cons_of_mem _ (List.mem_cons_of_mem _ h)
theorem Lr.at {n : Nat} {ls : AL} {LS : Array Slot} (hL : Lr G n ls LS) {i : Nat} {v : Value} (hv : ls.lookup i = some v) : LS[i]? = some (.val (up G v)) := hL.2.2 _ (lvOf_mem hv)
theorem Lr.size {n : Nat} {ls : AL} {LS : Array Slot} (hL : Lr G n ls LS) : LS.size = n := hL.1
theorem Lr.sub {n : Nat} {ls ls' : AL} {LS : Array Slot} (hL : Lr G n ls LS) (hs : ∀ q ∈ ls', q ∈ ls) : Lr G n ls' LS := ⟨hL.1, hL.2.1, fun q hq => by
  obtain ⟨q0, h1, h2⟩ := List.mem_map.mp hq
  exact hL.2.2 q (List.mem_map.mpr ⟨q0, hs _ h1, h2⟩)⟩
theorem Lr.store1 {n : Nat} {LS' : Array Slot} {i : Nat} {v : Value} (h' : lv_has LS' n ((i, up G v) :: (lvOf G ls).filter (fun q => !(q.1 == i) && !(q.1 + 1 == i && q.2.category == 2)))) : Lr G n (lset1 ls i v) LS' := by
  refine ⟨h'.1, h'.2.1, fun q hq => h'.2.2 q ?_⟩
  obtain ⟨q0, h1, h2⟩ := List.mem_map.mp hq
  rcases List.mem_cons.mp (lins_mem h1) with h | h
  · rw [← h2, h]
    exact List.mem_cons_self
  · obtain ⟨g1, g2⟩ := List.mem_filter.mp h
    refine List.mem_cons_of_mem _ (List.mem_filter.mpr ⟨List.mem_map.mpr ⟨q0, g1, h2⟩, ?_⟩)
    rw [← h2]
    dsimp only
    rw [up_cat]
    exact g2
theorem Lr.store2 {n : Nat} {LS' : Array Slot} {i : Nat} {v : Value} (h' : lv_has LS' n ((i, up G v) :: (lvOf G ls).filter (fun q => !(q.1 == i) && (!(q.1 == i + 1) && !(q.1 + 1 == i && q.2.category == 2))))) : Lr G n (lset2 ls i v) LS' := by
  refine ⟨h'.1, h'.2.1, fun q hq => h'.2.2 q ?_⟩
  obtain ⟨q0, h1, h2⟩ := List.mem_map.mp hq
  rcases List.mem_cons.mp (lins_mem h1) with h | h
  · rw [← h2, h]
    exact List.mem_cons_self
  · obtain ⟨g1, g2⟩ := List.mem_filter.mp h
    refine List.mem_cons_of_mem _ (List.mem_filter.mpr ⟨List.mem_map.mpr ⟨q0, g1, h2⟩, ?_⟩)
    rw [← h2]
    dsimp only
    rw [up_cat]
    exact g2
/-- fewer locals are known -/
theorem wp_sub {ls' : AL} (hs : ∀ q ∈ ls', q ∈ ls) (hw : wp G d M pc ls' st h fin Q) : wp G d M pc ls st h fin Q := by
  intro p e R s m args below meth c LS H locs cells slots k1 k2 Qm hC hL
  exact hw p e R s m args below meth c LS H locs cells slots k1 k2 Qm hC (hL.sub hs)
end WpBasics
