section WpHeap
variable {G : Gp} {d : Nat} {M : AM} {pc : Nat} {ls : AL} {st : List Value} {h : AH} {fin : Nat × Nat} {Q : Option Value → AH → Prop}
theorem hsame_of {args : Array Value} {s : State} {ref owner name desc : String} (hw : ∀ w ∈ gtbl, w.before args s = true) (h : ref = owner ∨ Cond.sameField ref owner name desc ∈ gtbl) : ∀ x, s.fieldFound? owner name desc = some x → s.fieldFound? ref name desc = some x := by
  intro x hx
  rcases h with h | h
  · rw [h]; exact hx
  · exact u_same (hw _ h) x hx
theorem wp_getfield {a ci k idx : Nat} {fs : List Value} {v : Value} (hd : decode (mC M) pc = .ok (.getfield idx, 3)) (hc : h.1 a = some (.inr (ci, fs))) (hf : fOK (mY M).cls idx ci k) (hv : fs[k]? = some v) (kk : wp G d M (pc + 3) ls (v :: st) h fin Q) : wp G d M pc ls (.ref a :: st) h fin Q := by
  intro p e R s m args below meth c LS H locs cells slots k1 k2 Qm hC hL hH hl hn hk
  obtain ⟨C, ref, T, N, h1, h2, h3, h4⟩ := hf
  have hw := hC.2.2.2.2.2.2.2.1
  exact va_get (Ts := gtbl) hC.1 hC.2.1 hw (acls_ok h1).1 hC.2.2.2.2.2.2.1 hC.2.2.2.2.2.2.2.2.1.1 hH.2.2.2 a (wsOf_get hH hc) h1 k h2 (hw _ h3) (hsame_of hw h4) (v := up G v) (by rw [List.getElem?_map, hv]; rfl) hd (kk p e R s m args below meth c LS H locs cells slots k1 k2 Qm hC hL hH hl hn hk)
theorem wp_put0 {a ci k idx : Nat} {fs : List Value} {v : Value} {ty : FieldType} (hd : decode (mC M) pc = .ok (.putfield idx, 3)) (hc : h.1 a = some (.inr (ci, fs))) (hf : fWK (mY M).cls idx ci k ty false) (hl0 : k < fs.length) (hnar : ∀ G, narrow ty (up G v) = up G v) (hfit : ∀ G, fits ty (up G v) = true) (kk : wp G d M (pc + 3) ls st (hset h a (.inr (ci, fs.set k v))) fin Q) : wp G d M pc ls (v :: .ref a :: st) h fin Q := by
  intro p e R s m args below meth c LS H locs cells slots k1 k2 Qm hC hL hH hl hn hk
  obtain ⟨C, ref, T, N, h1, h2, h3, h4, h5, h6, h7⟩ := hf
  have hw := hC.2.2.2.2.2.2.2.1
  have hok := acls_ok h1
  refine va_put (Ts := gtbl) (H0 := H) hC.1 hC.2.1 hw hok.1 (fun k => (parseFieldDescriptor (T k).2.2.1).getD .int) (fun k hk => by obtain ⟨ty, e9⟩ := hok.2.1 k hk; show parseFieldDescriptor (T k).2.2.1 = some _; rw [show parseFieldDescriptor (T k).2.2.1 = some ty from e9]; rfl) hok.2.2 hC.2.2.2.2.2.2.1 hC.2.2.2.2.2.2.2.2.1.1 hH.2.2.2 (wsOf_D hH) (RelH.S locs hl) a (wsOf_get hH hc) h1 k h2 (hw _ h3) (hsame_of hw h4) h6 h5 (hnar G) (hfit G) (by rw [List.length_map]; exact hl0) hd (fun H1 locs1 hP hD hS => ?_)
  refine W_bound (fun hb => ?_)
  have hb : H1.size ≤ gB G + h.2.1 := by obtain ⟨e1, e2, -⟩ := hn; omega
  have e9 : (Sum.inr (ci, (fs.map (up G)).set k (up G v)) : va_E) = trE G (.inr (ci, fs.set k v)) := by
    show _ = Sum.inr (ci, (fs.set k v).map (up G))
    rw [List.map_set]
  rw [e9] at hP
  exact kk p e R s m args below meth c LS H1 locs1 cells slots k1 k2 Qm hC hL (hH.put hc hP hS hb) hS.2.2 hn hk
end WpHeap
