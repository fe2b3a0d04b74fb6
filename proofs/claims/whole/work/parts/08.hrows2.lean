section WpHeap2
variable {G : Gp} {d : Nat} {M : AM} {pc : Nat} {ls : AL} {st : List Value} {h : AH} {fin : Nat × Nat} {Q : Option Value → AH → Prop}
theorem cb_le (ty : FieldType) {N : Nat} (h : N ≤ 60000) : N * componentBytes ty ≤ 536870912 := by
  have : componentBytes ty ≤ 8 := by cases ty <;> first | decide | exact (show (4 : Nat) ≤ 8 by decide)
  exact Nat.le_trans (Nat.mul_le_mul h this) (by decide)
theorem wp_putF0 {a ci k idx : Nat} {fs : List Value} {v : Value} {ty : FieldType} (hd : decode (mC M) pc = .ok (.putfield idx, 3)) (hi : (mY M).name = "<init>") (hc : h.1 a = some (.inr (ci, fs))) (hf : fWK (mY M).cls idx ci k ty true) (hl0 : k < fs.length) (hnar : ∀ G, narrow ty (up G v) = up G v) (hfit : ∀ G, fits ty (up G v) = true) (kk : wp G d M (pc + 3) ls st (hset h a (.inr (ci, fs.set k v))) fin Q) : wp G d M pc ls (v :: .ref a :: st) h fin Q := by
  intro p e R s m args below meth c LS H locs cells slots k1 k2 Qm hC hL hH hl hn hk
  obtain ⟨C, ref, T, N, h1, h2, h3, h4, h5, h6, h7⟩ := hf
  have hw := hC.2.2.2.2.2.2.2.1
  have hok := acls_ok h1
  refine va_putF (Ts := gtbl) (H0 := H) hC.1 hC.2.1 hw hok.1 (fun k => (parseFieldDescriptor (T k).2.2.1).getD .int) (fun k hk => by obtain ⟨ty, e9⟩ := hok.2.1 k hk; show parseFieldDescriptor (T k).2.2.1 = some _; rw [show parseFieldDescriptor (T k).2.2.1 = some ty from e9]; rfl) hok.2.2 hC.2.2.2.2.2.2.1 hC.2.2.2.2.2.2.2.2.1.1 hH.2.2.2 (wsOf_D hH) (RelH.S locs hl) a (wsOf_get hH hc) h1 k h2 (hw _ h3) (hsame_of hw h4) h6 (hC.2.2.2.2.2.1 hi) (h7 rfl) h5 (hnar G) (hfit G) (by rw [List.length_map]; exact hl0) hd (fun H1 locs1 hP hD hS => ?_)
  refine W_bound (fun hb => ?_)
  have hb : H1.size ≤ gB G + h.2.1 := by obtain ⟨e1, e2, -⟩ := hn; omega
  have e9 : (Sum.inr (ci, (fs.map (up G)).set k (up G v)) : va_E) = trE G (.inr (ci, fs.set k v)) := by
    show _ = Sum.inr (ci, (fs.set k v).map (up G))
    rw [List.map_set]
  rw [e9] at hP
  exact kk p e R s m args below meth c LS H1 locs1 cells slots k1 k2 Qm hC hL (hH.put hc hP hS hb) hS.2.2 hn hk

theorem wp_putI {a ci k idx : Nat} {fs : List Value} {x : Int32} (hd : decode (mC M) pc = .ok (.putfield idx, 3)) (hc : h.1 a = some (.inr (ci, fs))) (hf : fWK (mY M).cls idx ci k .int false) (hl0 : k < fs.length) (kk : wp G d M (pc + 3) ls st (hset h a (.inr (ci, fs.set k (.int x)))) fin Q) : wp G d M pc ls (.int x :: .ref a :: st) h fin Q := wp_put0 hd hc hf hl0 (fun _ => rfl) (fun _ => rfl) kk
theorem wp_putR {a ci k idx b : Nat} {fs : List Value} {ty : FieldType} (hd : decode (mC M) pc = .ok (.putfield idx, 3)) (hc : h.1 a = some (.inr (ci, fs))) (hf : fWK (mY M).cls idx ci k ty false) (hty : (∃ n, ty = .object n) ∨ ∃ t, ty = .array t) (hl0 : k < fs.length) (kk : wp G d M (pc + 3) ls st (hset h a (.inr (ci, fs.set k (.ref b)))) fin Q) : wp G d M pc ls (.ref b :: .ref a :: st) h fin Q := wp_put0 hd hc hf hl0 (fun _ => by rcases hty with ⟨n, rfl⟩ | ⟨t, rfl⟩ <;> rfl) (fun _ => by rcases hty with ⟨n, rfl⟩ | ⟨t, rfl⟩ <;> rfl) kk
theorem wp_putN {a ci k idx : Nat} {fs : List Value} {ty : FieldType} (hd : decode (mC M) pc = .ok (.putfield idx, 3)) (hc : h.1 a = some (.inr (ci, fs))) (hf : fWK (mY M).cls idx ci k ty false) (hty : (∃ n, ty = .object n) ∨ ∃ t, ty = .array t) (hl0 : k < fs.length) (kk : wp G d M (pc + 3) ls st (hset h a (.inr (ci, fs.set k .null))) fin Q) : wp G d M pc ls (.null :: .ref a :: st) h fin Q := wp_put0 hd hc hf hl0 (fun _ => by rcases hty with ⟨n, rfl⟩ | ⟨t, rfl⟩ <;> rfl) (fun _ => by rcases hty with ⟨n, rfl⟩ | ⟨t, rfl⟩ <;> rfl) kk

theorem wp_putFI {a ci k idx : Nat} {fs : List Value} {x : Int32} (hd : decode (mC M) pc = .ok (.putfield idx, 3)) (hi : (mY M).name = "<init>") (hc : h.1 a = some (.inr (ci, fs))) (hf : fWK (mY M).cls idx ci k .int true) (hl0 : k < fs.length) (kk : wp G d M (pc + 3) ls st (hset h a (.inr (ci, fs.set k (.int x)))) fin Q) : wp G d M pc ls (.int x :: .ref a :: st) h fin Q := wp_putF0 hd hi hc hf hl0 (fun _ => rfl) (fun _ => rfl) kk
theorem wp_putFR {a ci k idx b : Nat} {fs : List Value} {ty : FieldType} (hd : decode (mC M) pc = .ok (.putfield idx, 3)) (hi : (mY M).name = "<init>") (hc : h.1 a = some (.inr (ci, fs))) (hf : fWK (mY M).cls idx ci k ty true) (hty : (∃ n, ty = .object n) ∨ ∃ t, ty = .array t) (hl0 : k < fs.length) (kk : wp G d M (pc + 3) ls st (hset h a (.inr (ci, fs.set k (.ref b)))) fin Q) : wp G d M pc ls (.ref b :: .ref a :: st) h fin Q := wp_putF0 hd hi hc hf hl0 (fun _ => by rcases hty with ⟨n, rfl⟩ | ⟨t, rfl⟩ <;> rfl) (fun _ => by rcases hty with ⟨n, rfl⟩ | ⟨t, rfl⟩ <;> rfl) kk
theorem wp_putFN {a ci k idx : Nat} {fs : List Value} {ty : FieldType} (hd : decode (mC M) pc = .ok (.putfield idx, 3)) (hi : (mY M).name = "<init>") (hc : h.1 a = some (.inr (ci, fs))) (hf : fWK (mY M).cls idx ci k ty true) (hty : (∃ n, ty = .object n) ∨ ∃ t, ty = .array t) (hl0 : k < fs.length) (kk : wp G d M (pc + 3) ls st (hset h a (.inr (ci, fs.set k .null))) fin Q) : wp G d M pc ls (.null :: .ref a :: st) h fin Q := wp_putF0 hd hi hc hf hl0 (fun _ => by rcases hty with ⟨n, rfl⟩ | ⟨t, rfl⟩ <;> rfl) (fun _ => by rcases hty with ⟨n, rfl⟩ | ⟨t, rfl⟩ <;> rfl) kk

theorem wp_iaload {a n : Nat} {f : Nat → Int32} {i : Int32} (hd : decode (mC M) pc = .ok (.iaload, 1)) (hc : h.1 a = some (.inl (0, n, .inl f))) (hi : vp_in i n) (kk : wp G d M (pc + 1) ls (.int (f i.toNatClampNeg) :: st) h fin Q) : wp G d M pc ls (.int i :: .ref a :: st) h fin Q := by
  intro p e R s m args below meth c LS H locs cells slots k1 k2 Qm hC hL hH hl hn hk
  exact va_iald hC.1 hC.2.1 hC.2.2.2.2.2.2.2.2.1.1 hH.2.2.2 a 0 (wsOf_get hH hc) rfl hi hd (kk p e R s m args below meth c LS H locs cells slots k1 k2 Qm hC hL hH hl hn hk)

theorem wp_laload {a n : Nat} {f : Nat → Int64} {i : Int32} (hd : decode (mC M) pc = .ok (.laload, 1)) (hc : h.1 a = some (.inl (1, n, .inr (.inl f)))) (hi : vp_in i n) (kk : wp G d M (pc + 1) ls (.long (f i.toNatClampNeg) :: st) h fin Q) : wp G d M pc ls (.int i :: .ref a :: st) h fin Q := by
  intro p e R s m args below meth c LS H locs cells slots k1 k2 Qm hC hL hH hl hn hk
  exact va_lald hC.1 hC.2.1 hC.2.2.2.2.2.2.2.2.1.1 hH.2.2.2 a 1 (wsOf_get hH hc) rfl hi hd (kk p e R s m args below meth c LS H locs cells slots k1 k2 Qm hC hL hH hl hn hk)

theorem wp_baload {a n : Nat} {f : Nat → Int32} {i : Int32} (hd : decode (mC M) pc = .ok (.baload, 1)) (hc : h.1 a = some (.inl (2, n, .inl f))) (hi : vp_in i n) (kk : wp G d M (pc + 1) ls (.int (f i.toNatClampNeg) :: st) h fin Q) : wp G d M pc ls (.int i :: .ref a :: st) h fin Q := by
  intro p e R s m args below meth c LS H locs cells slots k1 k2 Qm hC hL hH hl hn hk
  exact va_zald hC.1 hC.2.1 hC.2.2.2.2.2.2.2.2.1.1 hH.2.2.2 a 2 (wsOf_get hH hc) rfl hi hd (kk p e R s m args below meth c LS H locs cells slots k1 k2 Qm hC hL hH hl hn hk)

theorem wp_iastore {a n : Nat} {f : Nat → Int32} {i : Int32} {x : Int32} (hd : decode (mC M) pc = .ok (.iastore, 1)) (hc : h.1 a = some (.inl (0, n, .inl f))) (hi : vp_in i n) (kk : wp G d M (pc + 1) ls st (hset h a (.inl (0, n, .inl (upd f i.toNatClampNeg x)))) fin Q) : wp G d M pc ls (.int x :: .int i :: .ref a :: st) h fin Q := by
  intro p e R s m args below meth c LS H locs cells slots k1 k2 Qm hC hL hH hl hn hk
  refine va_iast (H0 := H) hC.1 hC.2.1 hC.2.2.2.2.2.2.2.2.1.1 hH.2.2.2 (wsOf_D hH) (RelH.S locs hl) a 0 (wsOf_get hH hc) rfl hi hd (fun H1 locs1 hP hD hS => ?_)
  refine W_bound (fun hb => ?_)
  have hb : H1.size ≤ gB G + h.2.1 := by obtain ⟨e1, e2, -⟩ := hn; omega
  exact kk p e R s m args below meth c LS H1 locs1 cells slots k1 k2 Qm hC hL (hH.put hc hP hS hb) hS.2.2 hn hk

theorem wp_lastore {a n : Nat} {f : Nat → Int64} {i : Int32} {x : Int64} (hd : decode (mC M) pc = .ok (.lastore, 1)) (hc : h.1 a = some (.inl (1, n, .inr (.inl f)))) (hi : vp_in i n) (kk : wp G d M (pc + 1) ls st (hset h a (.inl (1, n, .inr (.inl (vp_updL f i.toNatClampNeg x))))) fin Q) : wp G d M pc ls (.long x :: .int i :: .ref a :: st) h fin Q := by
  intro p e R s m args below meth c LS H locs cells slots k1 k2 Qm hC hL hH hl hn hk
  refine va_last (H0 := H) hC.1 hC.2.1 hC.2.2.2.2.2.2.2.2.1.1 hH.2.2.2 (wsOf_D hH) (RelH.S locs hl) a 1 (wsOf_get hH hc) rfl hi hd (fun H1 locs1 hP hD hS => ?_)
  refine W_bound (fun hb => ?_)
  have hb : H1.size ≤ gB G + h.2.1 := by obtain ⟨e1, e2, -⟩ := hn; omega
  exact kk p e R s m args below meth c LS H1 locs1 cells slots k1 k2 Qm hC hL (hH.put hc hP hS hb) hS.2.2 hn hk

theorem wp_bastore {a n : Nat} {f : Nat → Int32} {i : Int32} {x : Int32} (hd : decode (mC M) pc = .ok (.bastore, 1)) (hc : h.1 a = some (.inl (2, n, .inl f))) (hi : vp_in i n) (kk : wp G d M (pc + 1) ls st (hset h a (.inl (2, n, .inl (upd f i.toNatClampNeg (vp_nar .boolean x))))) fin Q) : wp G d M pc ls (.int x :: .int i :: .ref a :: st) h fin Q := by
  intro p e R s m args below meth c LS H locs cells slots k1 k2 Qm hC hL hH hl hn hk
  refine va_zast (H0 := H) hC.1 hC.2.1 hC.2.2.2.2.2.2.2.2.1.1 hH.2.2.2 (wsOf_D hH) (RelH.S locs hl) a 2 (wsOf_get hH hc) rfl hi hd (fun H1 locs1 hP hD hS => ?_)
  refine W_bound (fun hb => ?_)
  have hb : H1.size ≤ gB G + h.2.1 := by obtain ⟨e1, e2, -⟩ := hn; omega
  exact kk p e R s m args below meth c LS H1 locs1 cells slots k1 k2 Qm hC hL (hH.put hc hP hS hb) hS.2.2 hn hk

theorem wp_alen {a n t : Nat} {x} (hd : decode (mC M) pc = .ok (.arraylength, 1)) (hc : h.1 a = some (.inl (t, n, x))) (ht : t < 7) (kk : wp G d M (pc + 1) ls (.int (Int32.ofNat n) :: st) h fin Q) : wp G d M pc ls (.ref a :: st) h fin Q := by
  intro p e R s m args below meth c LS H locs cells slots k1 k2 Qm hC hL hH hl hn hk
  have hty : ∃ ty, (atys (gA G))[t]? = some (gA G t, ty) := by
    rcases (show t = 0 ∨ t = 1 ∨ t = 2 ∨ t = 3 ∨ t = 4 ∨ t = 5 ∨ t = 6 by omega) with rfl | rfl | rfl | rfl | rfl | rfl | rfl <;> exact ⟨_, rfl⟩
  obtain ⟨ty, hty⟩ := hty
  exact va_alen hC.1 hC.2.1 hC.2.2.2.2.2.2.2.2.1.1 hH.2.2.2 a t (x := (n, trA (gp G) x)) (wsOf_get hH hc) hty rfl hd (kk p e R s m args below meth c LS H locs cells slots k1 k2 Qm hC hL hH hl hn hk)
theorem wp_sld {q : Nat} {i : Int32} (hd : decode (mC M) pc = .ok (.iaload, 1)) (hi : vp_in i (gL G)) (kk : wp G d M (pc + 1) ls (.int (gx G i.toNatClampNeg) :: st) h fin Q) : wp G d M pc ls (.int i :: .retAddr q :: st) h fin Q := by
  intro p e R s m args below meth c LS H locs cells slots k1 k2 Qm hC hL hH hl hn hk
  obtain ⟨-, -, -, -, -, hX, hb⟩ := hC.2.2.2.2.2.2.2.2.1
  exact va_sld (H0 := gH G) (A := fun q => gB G ≤ q) hC.1 hC.2.1 hX hb (Nat.not_le.mpr hb) ⟨by rw [hH.1]; exact Nat.le_add_right _ _, fun q h1 _ => hH.2.1 q h1, hl⟩ hi hd (kk p e R s m args below meth c LS H locs cells slots k1 k2 Qm hC hL hH hl hn hk)
theorem wp_slen {q : Nat} (hd : decode (mC M) pc = .ok (.arraylength, 1)) (kk : wp G d M (pc + 1) ls (.int (Int32.ofNat (gL G)) :: st) h fin Q) : wp G d M pc ls (.retAddr q :: st) h fin Q := by
  intro p e R s m args below meth c LS H locs cells slots k1 k2 Qm hC hL hH hl hn hk
  obtain ⟨-, -, -, -, -, hX, hb⟩ := hC.2.2.2.2.2.2.2.2.1
  exact va_slen (H0 := gH G) (A := fun q => gB G ≤ q) hC.1 hC.2.1 hX hb (Nat.not_le.mpr hb) ⟨by rw [hH.1]; exact Nat.le_add_right _ _, fun q h1 _ => hH.2.1 q h1, hl⟩ hd (kk p e R s m args below meth c LS H locs cells slots k1 k2 Qm hC hL hH hl hn hk)
/-- reading an array of references -/
theorem wp_aald0 {a n t : Nat} {f : Nat → Option Nat} {i : Int32} (hd : decode (mC M) pc = .ok (.aaload, 1)) (hc : h.1 a = some (.inl (t, n, .inr (.inr (.inr (.inr f)))))) (ht : 3 ≤ t ∧ t < 7) (hi : vp_in i n) {v : Value} (hv : ∀ G, va_rf ((f i.toNatClampNeg).map (gp G)) = up G v) (kk : wp G d M (pc + 1) ls (v :: st) h fin Q) : wp G d M pc ls (.int i :: .ref a :: st) h fin Q := by
  intro p e R s m args below meth c LS H locs cells slots k1 k2 Qm hC hL hH hl hn hk
  have hty : ∃ ty, (atys (gA G))[t]? = some (gA G t, ty) ∧ refKind ty = true := by
    rcases (show t = 3 ∨ t = 4 ∨ t = 5 ∨ t = 6 by omega) with rfl | rfl | rfl | rfl <;> exact ⟨_, rfl, rfl⟩
  obtain ⟨ty, hty, hrk⟩ := hty
  have hlt : i.toNatClampNeg < n := Nat.not_le.mp fun q => hi (Or.inr q)
  have hcell := hH.2.2.2 a _ (wsOf_get hH hc)
  have harr := (hC.2.2.2.2.2.2.2.2.1.1.2 t _ hty).1 n (fun j => va_rf ((f j).map (gp G)))
  refine W.aald (ty := ty) (v := up G v) hC.1 hC.2.1 hcell harr hrk (fun q => by cases q) (by show ¬ (i < 0 ∨ (arrV _ _ _).slots.size ≤ _); rw [arrV_size]; exact hi) (by show (arrV _ _ _).slots[_]? = _; rw [arrV_read _ _ hlt, hv G]) rfl rfl hd (kk p e R s m args below meth c LS H locs cells slots k1 k2 Qm hC hL hH hl hn hk)
theorem wp_aaloadR {a n t b : Nat} {f : Nat → Option Nat} {i : Int32} (hd : decode (mC M) pc = .ok (.aaload, 1)) (hc : h.1 a = some (.inl (t, n, .inr (.inr (.inr (.inr f)))))) (ht : 3 ≤ t ∧ t < 7) (hi : vp_in i n) (hf : f i.toNatClampNeg = some b) (kk : wp G d M (pc + 1) ls (.ref b :: st) h fin Q) : wp G d M pc ls (.int i :: .ref a :: st) h fin Q := wp_aald0 hd hc ht hi (v := .ref b) (fun _ => by rw [hf]; rfl) kk
theorem wp_aaloadN {a n t : Nat} {f : Nat → Option Nat} {i : Int32} (hd : decode (mC M) pc = .ok (.aaload, 1)) (hc : h.1 a = some (.inl (t, n, .inr (.inr (.inr (.inr f)))))) (ht : 3 ≤ t ∧ t < 7) (hi : vp_in i n) (hf : f i.toNatClampNeg = none) (kk : wp G d M (pc + 1) ls (.null :: st) h fin Q) : wp G d M pc ls (.int i :: .ref a :: st) h fin Q := wp_aald0 hd hc ht hi (v := .null) (fun _ => by rw [hf]; rfl) kk
theorem trA_up {F : Nat → Nat} {f : Nat → Option Nat} {k : Nat} {o : Option Nat} : (fun j => ((va_up f k o) j).map F) = va_up (fun j => (f j).map F) k (o.map F) := by
  funext j
  unfold va_up
  split <;> rfl
theorem wp_aastN {a n t : Nat} {E : String} {f : Nat → Option Nat} {i : Int32} (hd : decode (mC M) pc = .ok (.aastore, 1)) (hc : h.1 a = some (.inl (t, n, .inr (.inr (.inr (.inr f)))))) (ht : ∀ A, (atys A)[t]? = some (A t, .object E)) (hi : vp_in i n) (kk : wp G d M (pc + 1) ls st (hset h a (.inl (t, n, .inr (.inr (.inr (.inr (va_up f i.toNatClampNeg none))))))) fin Q) : wp G d M pc ls (.null :: .int i :: .ref a :: st) h fin Q := by
  intro p e R s m args below meth c LS H locs cells slots k1 k2 Qm hC hL hH hl hn hk
  refine va_astqN (H0 := H) hC.1 hC.2.1 hC.2.2.2.2.2.2.2.2.1.1 hH.2.2.2 (wsOf_D hH) (RelH.S locs hl) a t (wsOf_get hH hc) (ht (gA G)) hi hd (fun H1 locs1 hP hD hS => ?_)
  refine W_bound (fun hb => ?_)
  have hb : H1.size ≤ gB G + h.2.1 := by obtain ⟨e1, e2, -⟩ := hn; omega
  have e9 : (Sum.inl (gA G t, n, .inr (.inr (.inr (.inr (va_up (fun j => (f j).map (gp G)) i.toNatClampNeg none))))) : va_E) = trE G (.inl (t, n, .inr (.inr (.inr (.inr (va_up f i.toNatClampNeg none)))))) := by
    show _ = (Sum.inl (gA G t, n, .inr (.inr (.inr (.inr (fun j => ((va_up f i.toNatClampNeg none) j).map (gp G)))))) : va_E)
    rw [trA_up]
    rfl
  rw [e9] at hP
  exact kk p e R s m args below meth c LS H1 locs1 cells slots k1 k2 Qm hC hL (hH.put hc hP hS hb) hS.2.2 hn hk
theorem wp_aastR {a n t b ci : Nat} {E : String} {r : vw_C} {f : Nat → Option Nat} {vs : List Value} {i : Int32} (hd : decode (mC M) pc = .ok (.aastore, 1)) (hc : h.1 a = some (.inl (t, n, .inr (.inr (.inr (.inr f)))))) (ht : ∀ A, (atys A)[t]? = some (A t, .object E)) (hv : h.1 b = some (.inr (ci, vs))) (hr : acls[ci]? = some r) (hca : r.1 = E ∨ (r.1, E) ∈ caT) (hi : vp_in i n) (kk : wp G d M (pc + 1) ls st (hset h a (.inl (t, n, .inr (.inr (.inr (.inr (va_up f i.toNatClampNeg (some b)))))))) fin Q) : wp G d M pc ls (.ref b :: .int i :: .ref a :: st) h fin Q := by
  intro p e R s m args below meth c LS H locs cells slots k1 k2 Qm hC hL hH hl hn hk
  have go : ∀ (H1 : Heap) (locs1 : List Loc), va_P (gD G) acls ((wsOf G h).set a (gp G a, .inl (gA G t, n, .inr (.inr (.inr (.inr (va_up (fun j => (f j).map (gp G)) i.toNatClampNeg (some (gp G b))))))))) H1 → va_D (fun q : Nat => gB G ≤ q) ((wsOf G h).set a (gp G a, .inl (gA G t, n, .inr (.inr (.inr (.inr (va_up (fun j => (f j).map (gp G)) i.toNatClampNeg (some (gp G b))))))))) → va_S (fun q : Nat => gB G ≤ q) H H1 locs1 → W p (gl G) e R s m args below meth c H1 locs1 cells slots Qm (F0 m (pc + 1) LS (st.map (up G))) := by
    intro H1 locs1 hP hD hS
    refine W_bound (fun hb => ?_)
    have hb : H1.size ≤ gB G + h.2.1 := by obtain ⟨e1, e2, -⟩ := hn; omega
    have e9 : (Sum.inl (gA G t, n, .inr (.inr (.inr (.inr (va_up (fun j => (f j).map (gp G)) i.toNatClampNeg (some (gp G b))))))) : va_E) = trE G (.inl (t, n, .inr (.inr (.inr (.inr (va_up f i.toNatClampNeg (some b))))))) := by
      show _ = (Sum.inl (gA G t, n, .inr (.inr (.inr (.inr (fun j => ((va_up f i.toNatClampNeg (some b)) j).map (gp G)))))) : va_E)
      rw [trA_up]
      rfl
    rw [e9] at hP
    exact kk p e R s m args below meth c LS H1 locs1 cells slots k1 k2 Qm hC hL (hH.put hc hP hS hb) hS.2.2 hn hk
  rcases hca with hca | hca
  · subst hca
    exact va_astq (H0 := H) hC.1 hC.2.1 hC.2.2.2.2.2.2.2.2.1.1 hH.2.2.2 (wsOf_D hH) (RelH.S locs hl) a t b ci (wsOf_get hH hc) (ht (gA G)) (wsOf_get hH hv) hr hi hd go
  · exact va_astqO (H0 := H) hC.1 hC.2.1 hC.2.2.2.2.2.2.2.2.1.1 hH.2.2.2 (wsOf_D hH) (RelH.S locs hl) a t b ci (wsOf_get hH hc) (ht (gA G)) (hC.2.2.2.2.2.2.2.2.1.2.1 _ hca) (wsOf_get hH hv) hr hi hd go
theorem wp_recv {s : State} {H : Heap} (hB : TB G s) (hH : RelH G h H) {a ci : Nat} {q : vw_C} {fs : List Value} (hq : acls[ci]? = some q) (hc : h.1 a = some (.inr (ci, fs))) : ∃ cell : Cell, H[gp G a]? = some cell ∧ cell.vm.isStatics = false ∧ s.vm.findClass q.1 = some cell.cls := va_recv hB.1 hH.2.2.2 hq (wsOf_get hH hc)
theorem wp_instN {idx : Nat} (hd : decode (mC M) pc = .ok (.instanceof idx, 3)) (kk : wp G d M (pc + 3) ls (.int 0 :: st) h fin Q) : wp G d M pc ls (.null :: st) h fin Q := by
  intro p e R s m args below meth c LS H locs cells slots k1 k2 Qm hC hL hH hl hn hk
  exact lv_instN hC.1 hC.2.1 hd (kk p e R s m args below meth c LS H locs cells slots k1 k2 Qm hC hL hH hl hn hk)
theorem wp_instY {a ci idx : Nat} {q r : vw_C} {fs : List Value} {cj : Nat} (hd : decode (mC M) pc = .ok (.instanceof idx, 3)) (hc : h.1 a = some (.inr (ci, fs))) (hq : acls[ci]? = some q) (hr : acls[cj]? = some r) (hw : Cond.classLink (mY M).cls idx r.1 ∈ gtbl) (hy : ci = cj ∨ (q.1, r.1) ∈ caT) (kk : wp G d M (pc + 3) ls (.int 1 :: st) h fin Q) : wp G d M pc ls (.ref a :: st) h fin Q := by
  intro p e R s m args below meth c LS H locs cells slots k1 k2 Qm hC hL hH hl hn hk
  have hB := hC.2.2.2.2.2.2.2.2.1
  have hlk := hC.2.2.2.2.2.2.2.1 _ hw
  rcases hy with hy | hy
  · subst hy
    cases hq.symm.trans hr
    exact va_instS hC.1 hC.2.1 hC.2.2.2.2.2.2.1 hlk (hB.1.1 ci _ hq).2 (wp_recv hB hH hq hc) hd (kk p e R s m args below meth c LS H locs cells slots k1 k2 Qm hC hL hH hl hn hk)
  · exact va_instY hC.1 hC.2.1 hC.2.2.2.2.2.2.1 hlk (hB.2.1 _ hy) (wp_recv hB hH hq hc) hd (kk p e R s m args below meth c LS H locs cells slots k1 k2 Qm hC hL hH hl hn hk)
theorem wp_instNo {a ci idx : Nat} {q r : vw_C} {fs : List Value} {cj : Nat} (hd : decode (mC M) pc = .ok (.instanceof idx, 3)) (hc : h.1 a = some (.inr (ci, fs))) (hq : acls[ci]? = some q) (hr : acls[cj]? = some r) (hw : Cond.classLink (mY M).cls idx r.1 ∈ gtbl) (hy : (q.1, r.1) ∈ ncT) (kk : wp G d M (pc + 3) ls (.int 0 :: st) h fin Q) : wp G d M pc ls (.ref a :: st) h fin Q := by
  intro p e R s m args below meth c LS H locs cells slots k1 k2 Qm hC hL hH hl hn hk
  have hB := hC.2.2.2.2.2.2.2.2.1
  exact va_instNo hC.1 hC.2.1 hC.2.2.2.2.2.2.1 (hC.2.2.2.2.2.2.2.1 _ hw) (hB.2.2.1 _ hy) (wp_recv hB hH hq hc) hd (kk p e R s m args below meth c LS H locs cells slots k1 k2 Qm hC hL hH hl hn hk)

theorem wp_newI {n : Int32} {N : Nat} (hd : decode (mC M) pc = .ok (.newarray .int, 2)) (hw : Cond.arrayClass .int ∈ gtbl) (h0 : ¬ n < 0) (hN : n.toNatClampNeg = N) (hb0 : N ≤ 60000) (hf1 : h.2.1 + 1 ≤ fin.1) (hf2 : h.2.2 + N ≤ fin.2) (kk : wp G d M (pc + 2) ls (.ref h.2.1 :: st) (hnew h (.inl (0, N, .inl (fun _ => 0))) N) fin Q) : wp G d M pc ls (.int n :: st) h fin Q := by
  intro p e R s m args below meth c LS H locs cells slots k1 k2 Qm hC hL hH hl hn hk
  obtain ⟨e1, e2, e3, e4, e5⟩ := id hn
  refine va_newa (atype := .int) (ty := .int) (H0 := H) (N' := N) (a0 := (N, .inl (fun _ => 0))) hC.1 hC.2.1 (hC.2.2.2.2.2.2.2.1 _ hw) rfl hC.2.2.2.2.2.2.2.2.1.1 hH.2.2.2 (wsOf_D hH) (RelH.S locs hl) (fun q hq => by rw [hH.1] at hq; show gB G ≤ q; omega) (fun _ => rfl) h0 hN (cb_le _ hb0) (by omega) (by omega) hd (fun q cA H1 hKx hP hD hS => ?_)
  refine W_bound (fun hb => ?_)
  have hb : H1.size ≤ gB G + (h.2.1 + 1) := by omega
  have hcA : cA = gA G 0 := by
    have h1 := (hKx.2 7 (cA, .int) rfl).2
    have h2 := (hC.2.2.2.2.2.2.2.2.1.1.2 0 (gA G 0, .int) rfl).2
    exact Option.some.inj (Eq.trans (Eq.symm h1) h2)
  subst hcA
  obtain ⟨hq, hH1⟩ := hH.new (c' := .inl (0, N, .inl (fun _ => 0))) (n := N) hP hD hS hb
  subst hq
  exact kk p e R s m args below meth c LS H1 locs (cells + 1) (slots + N) k1 k2 Qm hC hL hH1 hl ⟨e1, by show cells + 1 + k1 = h.2.1 + 1; omega, by show slots + N + k2 = h.2.2 + N; omega, e4, e5⟩ hk

theorem wp_newJ {n : Int32} {N : Nat} (hd : decode (mC M) pc = .ok (.newarray .long, 2)) (hw : Cond.arrayClass .long ∈ gtbl) (h0 : ¬ n < 0) (hN : n.toNatClampNeg = N) (hb0 : N ≤ 60000) (hf1 : h.2.1 + 1 ≤ fin.1) (hf2 : h.2.2 + N ≤ fin.2) (kk : wp G d M (pc + 2) ls (.ref h.2.1 :: st) (hnew h (.inl (1, N, .inr (.inl (fun _ => 0)))) N) fin Q) : wp G d M pc ls (.int n :: st) h fin Q := by
  intro p e R s m args below meth c LS H locs cells slots k1 k2 Qm hC hL hH hl hn hk
  obtain ⟨e1, e2, e3, e4, e5⟩ := id hn
  refine va_newa (atype := .long) (ty := .long) (H0 := H) (N' := N) (a0 := (N, .inr (.inl (fun _ => 0)))) hC.1 hC.2.1 (hC.2.2.2.2.2.2.2.1 _ hw) rfl hC.2.2.2.2.2.2.2.2.1.1 hH.2.2.2 (wsOf_D hH) (RelH.S locs hl) (fun q hq => by rw [hH.1] at hq; show gB G ≤ q; omega) (fun _ => rfl) h0 hN (cb_le _ hb0) (by omega) (by omega) hd (fun q cA H1 hKx hP hD hS => ?_)
  refine W_bound (fun hb => ?_)
  have hb : H1.size ≤ gB G + (h.2.1 + 1) := by omega
  have hcA : cA = gA G 1 := by
    have h1 := (hKx.2 7 (cA, .long) rfl).2
    have h2 := (hC.2.2.2.2.2.2.2.2.1.1.2 1 (gA G 1, .long) rfl).2
    exact Option.some.inj (Eq.trans (Eq.symm h1) h2)
  subst hcA
  obtain ⟨hq, hH1⟩ := hH.new (c' := .inl (1, N, .inr (.inl (fun _ => 0)))) (n := N) hP hD hS hb
  subst hq
  exact kk p e R s m args below meth c LS H1 locs (cells + 1) (slots + N) k1 k2 Qm hC hL hH1 hl ⟨e1, by show cells + 1 + k1 = h.2.1 + 1; omega, by show slots + N + k2 = h.2.2 + N; omega, e4, e5⟩ hk

theorem wp_newZ {n : Int32} {N : Nat} (hd : decode (mC M) pc = .ok (.newarray .boolean, 2)) (hw : Cond.arrayClass .boolean ∈ gtbl) (h0 : ¬ n < 0) (hN : n.toNatClampNeg = N) (hb0 : N ≤ 60000) (hf1 : h.2.1 + 1 ≤ fin.1) (hf2 : h.2.2 + N ≤ fin.2) (kk : wp G d M (pc + 2) ls (.ref h.2.1 :: st) (hnew h (.inl (2, N, .inl (fun _ => 0))) N) fin Q) : wp G d M pc ls (.int n :: st) h fin Q := by
  intro p e R s m args below meth c LS H locs cells slots k1 k2 Qm hC hL hH hl hn hk
  obtain ⟨e1, e2, e3, e4, e5⟩ := id hn
  refine va_newa (atype := .boolean) (ty := .boolean) (H0 := H) (N' := N) (a0 := (N, .inl (fun _ => 0))) hC.1 hC.2.1 (hC.2.2.2.2.2.2.2.1 _ hw) rfl hC.2.2.2.2.2.2.2.2.1.1 hH.2.2.2 (wsOf_D hH) (RelH.S locs hl) (fun q hq => by rw [hH.1] at hq; show gB G ≤ q; omega) (fun _ => rfl) h0 hN (cb_le _ hb0) (by omega) (by omega) hd (fun q cA H1 hKx hP hD hS => ?_)
  refine W_bound (fun hb => ?_)
  have hb : H1.size ≤ gB G + (h.2.1 + 1) := by omega
  have hcA : cA = gA G 2 := by
    have h1 := (hKx.2 7 (cA, .boolean) rfl).2
    have h2 := (hC.2.2.2.2.2.2.2.2.1.1.2 2 (gA G 2, .boolean) rfl).2
    exact Option.some.inj (Eq.trans (Eq.symm h1) h2)
  subst hcA
  obtain ⟨hq, hH1⟩ := hH.new (c' := .inl (2, N, .inl (fun _ => 0))) (n := N) hP hD hS hb
  subst hq
  exact kk p e R s m args below meth c LS H1 locs (cells + 1) (slots + N) k1 k2 Qm hC hL hH1 hl ⟨e1, by show cells + 1 + k1 = h.2.1 + 1; omega, by show slots + N + k2 = h.2.2 + N; omega, e4, e5⟩ hk

/-- an array of references -/
theorem wp_newA {n : Int32} {N idx t : Nat} {E : String} (hd : decode (mC M) pc = .ok (.anewarray idx, 3)) (ht : ∀ A, (atys A)[t]? = some (A t, .object E)) (hw : Cond.classLink (mY M).cls idx E ∈ gtbl) (hE : FieldType.object E ∈ aoT) (h0 : ¬ n < 0) (hN : n.toNatClampNeg = N) (hb0 : N ≤ 60000) (hf1 : h.2.1 + 1 ≤ fin.1) (hf2 : h.2.2 + N ≤ fin.2) (kk : wp G d M (pc + 3) ls (.ref h.2.1 :: st) (hnew h (.inl (t, N, .inr (.inr (.inr (.inr (fun _ => none)))))) N) fin Q) : wp G d M pc ls (.int n :: st) h fin Q := by
  intro p e R s m args below meth c LS H locs cells slots k1 k2 Qm hC hL hH hl hn hk
  obtain ⟨e1, e2, e3, e4, e5⟩ := id hn
  refine va_newq (H0 := H) (N' := N) hC.1 hC.2.1 hC.2.2.2.2.2.2.1 (hC.2.2.2.2.2.2.2.1 _ hw) (hC.2.2.2.2.2.2.2.2.1.2.2.2.2.1 _ hE) hC.2.2.2.2.2.2.2.2.1.1 hH.2.2.2 (wsOf_D hH) (RelH.S locs hl) (fun q hq => by rw [hH.1] at hq; show gB G ≤ q; omega) h0 hN (by omega) (by omega) (by omega) hd (fun q cA H1 hKx hP hD hS => ?_)
  refine W_bound (fun hb => ?_)
  have hb : H1.size ≤ gB G + (h.2.1 + 1) := by omega
  have hcA : cA = gA G t := by
    obtain ⟨kA, comp, a1, a2, a3, a4⟩ := (hKx.2 7 (cA, .object E) rfl).2
    obtain ⟨kA', comp', b1, b2, b3, b4⟩ := (hC.2.2.2.2.2.2.2.2.1.1.2 t _ (ht (gA G))).2
    exact Option.some.inj (a4.symm.trans b4)
  subst hcA
  obtain ⟨hq, hH1⟩ := hH.new (c' := .inl (t, N, .inr (.inr (.inr (.inr (fun _ => none)))))) (n := N) hP hD hS hb
  subst hq
  exact kk p e R s m args below meth c LS H1 locs (cells + 1) (slots + N) k1 k2 Qm hC hL hH1 hl ⟨e1, by show cells + 1 + k1 = h.2.1 + 1; omega, by show slots + N + k2 = h.2.2 + N; omega, e4, e5⟩ hk
/-- a new object: its fields are as laid -/
def nOK (own : String) (idx ci N : Nat) (fs : List Value) : Prop := ∃ (C : String) (T : u_T), acls[ci]? = some (C, T, N) ∧ Cond.classLink own idx C ∈ gtbl ∧ Cond.instantiable C N ∈ gtbl ∧ Cond.initialized C ∈ gtbl ∧ (∀ j, j < N → (parseFieldDescriptor (T j).2.2.1).map defaultValue = some (vp_V fs j)) ∧ ∀ v ∈ fs, v = .int 0 ∨ v = .null
theorem wp_new {idx ci N : Nat} {fs : List Value} (hd : decode (mC M) pc = .ok (.new idx, 3)) (ho : nOK (mY M).cls idx ci N fs) (hf1 : h.2.1 + 1 ≤ fin.1) (hf2 : h.2.2 + N ≤ fin.2) (kk : wp G d M (pc + 3) ls (.ref h.2.1 :: st) (hnew h (.inr (ci, fs)) N) fin Q) : wp G d M pc ls st h fin Q := by
  intro p e R s m args below meth c LS H locs cells slots k1 k2 Qm hC hL hH hl hn hk
  obtain ⟨e1, e2, e3, e4, e5⟩ := id hn
  obtain ⟨C, T, h1, h2, h3, h4, h5, h6⟩ := ho
  have hw := hC.2.2.2.2.2.2.2.1
  have hok := acls_ok h1
  refine va_new (Ts := gtbl) (H0 := H) (fs := fs) (ci := ci) hC.1 hC.2.1 hw hok.1 (fun k => (parseFieldDescriptor (T k).2.2.1).getD .int) (fun k hk => by obtain ⟨ty, e9⟩ := hok.2.1 k hk; show parseFieldDescriptor (T k).2.2.1 = some _; rw [show parseFieldDescriptor (T k).2.2.1 = some ty from e9]; rfl) hC.2.2.2.2.2.2.1 (hw _ h2) (hw _ h3) (hw _ h4) hC.2.2.2.2.2.2.2.2.1.1 hH.2.2.2 (wsOf_D hH) (RelH.S locs hl) (fun q hq => by rw [hH.1] at hq; show gB G ≤ q; omega) h1 (fun j hj => by
    obtain ⟨ty, e9⟩ := hok.2.1 j hj
    have e8 := h5 j hj
    have e9 : parseFieldDescriptor (T j).2.2.1 = some ty := e9
    rw [e9] at e8
    show defaultValue ((parseFieldDescriptor (T j).2.2.1).getD .int) = _
    rw [e9]
    exact Option.some.inj e8) (by omega) (by show slots + N ≤ R.slots; omega) hd (fun q H1 hP hD hS => ?_)
  refine W_bound (fun hb => ?_)
  have hb : H1.size ≤ gB G + (h.2.1 + 1) := by omega
  have e9 : (Sum.inr (ci, fs) : va_E) = trE G (.inr (ci, fs)) := by
    show _ = Sum.inr (ci, fs.map (up G))
    have : fs.map (up G) = fs := by
      conv => rhs; rw [← List.map_id fs]
      apply List.map_congr_left
      intro v hv
      rcases h6 v hv with rfl | rfl <;> rfl
    rw [this]
  rw [e9] at hP hD
  obtain ⟨hq, hH1⟩ := hH.new (c' := .inr (ci, fs)) (n := N) hP hD hS hb
  subst hq
  exact kk p e R s m args below meth c LS H1 locs (cells + 1) (slots + N) k1 k2 Qm hC hL hH1 hl ⟨e1, by show cells + 1 + k1 = h.2.1 + 1; omega, by show slots + N + k2 = h.2.2 + N; omega, e4, e5⟩ hk

theorem wp_copyI {a0 a n0 n1 idx : Nat} {f g : Nat → Int32} {sp dp n : Int32} (hd : decode (mC M) pc = .ok (.invokestatic idx, 3)) (hw : Cond.methodLink (mY M).cls idx arraycopyName ∈ gtbl) (hw1 : Cond.native arraycopyName ∈ gtbl) (hw2 : Cond.static arraycopyName ∈ gtbl) (hw3 : Cond.initialized "java/lang/System" ∈ gtbl) (hc0 : h.1 a0 = some (.inl (0, n0, .inl f))) (hc1 : h.1 a = some (.inl (0, n1, .inl g))) (h1 : ¬ sp < 0) (h2 : ¬ dp < 0) (h3 : ¬ n < 0) (h4 : sp.toNatClampNeg + n.toNatClampNeg ≤ n0) (h5 : dp.toNatClampNeg + n.toNatClampNeg ≤ n1) (hst : (st.map fun v => v.category).sum ≤ 8) (kk : wp G d M (pc + 3) ls st (hset h a (.inl (0, n1, .inl (va_cpy f g sp.toNatClampNeg dp.toNatClampNeg n.toNatClampNeg)))) fin Q) : wp G d M pc ls (.int n :: .int dp :: .ref a :: .int sp :: .ref a0 :: st) h fin Q := by
  intro p e R s m args below meth c LS H locs cells slots k1 k2 Qm hC hL hH hl hn hk
  have hww := hC.2.2.2.2.2.2.2.1
  have hst' : ((st.map (up G)).map fun v => v.category).sum ≤ 8 := by
    rw [List.map_map]
    have : ((fun v : Value => v.category) ∘ up G) = fun v => v.category := by funext v; exact up_cat v
    rw [this]
    exact hst
  refine va_copyi (ty := .int) (H0 := H) hC.1 hC.2.1 (by rw [hC.2.2.1, hL.size]) hC.2.2.2.2.2.2.1 (hww _ hw) (hww _ hw1) (hww _ hw2) (hww _ hw3) hC.2.2.2.2.2.2.2.2.1.1 hH.2.2.2 (wsOf_D hH) (RelH.S locs hl) a0 a 0 0 (wsOf_get hH hc0) (wsOf_get hH hc1) rfl rfl rfl h1 h2 h3 h4 h5 (fun _ _ => rfl) (by have := hC.2.2.2.2.2.2.2.2.2.1; omega) (by
    have := hC.2.2.2.2.2.2.2.2.2.2
    have h41 : nativeFrameWords "java/lang/System" "arraycopy" 5 + 11 ≤ 33 := by decide +kernel
    omega) hd (fun H1 locs1 hP hD hS => ?_)
  refine W_bound (fun hb => ?_)
  have hb : H1.size ≤ gB G + h.2.1 := by obtain ⟨e1, e2, -⟩ := hn; omega
  exact kk p e R s m args below meth c LS H1 locs1 cells slots k1 k2 Qm hC hL (hH.put hc1 hP hS hb) hS.2.2 hn hk

theorem wp_copyL {a0 a n0 n1 idx : Nat} {f g : Nat → Int64} {sp dp n : Int32} (hd : decode (mC M) pc = .ok (.invokestatic idx, 3)) (hw : Cond.methodLink (mY M).cls idx arraycopyName ∈ gtbl) (hw1 : Cond.native arraycopyName ∈ gtbl) (hw2 : Cond.static arraycopyName ∈ gtbl) (hw3 : Cond.initialized "java/lang/System" ∈ gtbl) (hc0 : h.1 a0 = some (.inl (1, n0, .inr (.inl f)))) (hc1 : h.1 a = some (.inl (1, n1, .inr (.inl g)))) (h1 : ¬ sp < 0) (h2 : ¬ dp < 0) (h3 : ¬ n < 0) (h4 : sp.toNatClampNeg + n.toNatClampNeg ≤ n0) (h5 : dp.toNatClampNeg + n.toNatClampNeg ≤ n1) (hst : (st.map fun v => v.category).sum ≤ 8) (kk : wp G d M (pc + 3) ls st (hset h a (.inl (1, n1, .inr (.inl (va_cpy f g sp.toNatClampNeg dp.toNatClampNeg n.toNatClampNeg))))) fin Q) : wp G d M pc ls (.int n :: .int dp :: .ref a :: .int sp :: .ref a0 :: st) h fin Q := by
  intro p e R s m args below meth c LS H locs cells slots k1 k2 Qm hC hL hH hl hn hk
  have hww := hC.2.2.2.2.2.2.2.1
  have hst' : ((st.map (up G)).map fun v => v.category).sum ≤ 8 := by
    rw [List.map_map]
    have : ((fun v : Value => v.category) ∘ up G) = fun v => v.category := by funext v; exact up_cat v
    rw [this]
    exact hst
  refine va_copyl (ty := .long) (H0 := H) hC.1 hC.2.1 (by rw [hC.2.2.1, hL.size]) hC.2.2.2.2.2.2.1 (hww _ hw) (hww _ hw1) (hww _ hw2) (hww _ hw3) hC.2.2.2.2.2.2.2.2.1.1 hH.2.2.2 (wsOf_D hH) (RelH.S locs hl) a0 a 1 1 (wsOf_get hH hc0) (wsOf_get hH hc1) rfl rfl rfl h1 h2 h3 h4 h5 (fun _ _ => rfl) (by have := hC.2.2.2.2.2.2.2.2.2.1; omega) (by
    have := hC.2.2.2.2.2.2.2.2.2.2
    have h41 : nativeFrameWords "java/lang/System" "arraycopy" 5 + 11 ≤ 33 := by decide +kernel
    omega) hd (fun H1 locs1 hP hD hS => ?_)
  refine W_bound (fun hb => ?_)
  have hb : H1.size ≤ gB G + h.2.1 := by obtain ⟨e1, e2, -⟩ := hn; omega
  exact kk p e R s m args below meth c LS H1 locs1 cells slots k1 k2 Qm hC hL (hH.put hc1 hP hS hb) hS.2.2 hn hk

end WpHeap2
