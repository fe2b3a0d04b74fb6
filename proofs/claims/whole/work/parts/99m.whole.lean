/-! ===== the start ===== -/
theorem Vi_z {a k : Nat} (h : ¬ ((a = 3 ∧ k < 4) ∨ (a = 48 ∧ k < 6) ∨ (a = 13 ∧ k = 3) ∨ (a = 57 ∧ k = 44) ∨ (a = 61 ∧ k < 4) ∨ (a = 92 ∧ k < 6) ∨ (a = 96 ∧ k = 0))) : Vi a k = 0 := by
  rw [Vi_e, if_neg (by omega), if_neg (by omega)]
theorem Vi_m {a k : Nat} (h : (a = 3 ∧ k < 4) ∨ (a = 48 ∧ k < 6) ∨ (a = 13 ∧ k = 3) ∨ (a = 57 ∧ k = 44) ∨ (a = 61 ∧ k < 4) ∨ (a = 92 ∧ k < 6)) : Vi a k = -1 := by
  rw [Vi_e, if_pos h]
theorem Vi_1 : Vi 96 0 = 1 := by
  rw [Vi_e, if_neg (by omega), if_pos ⟨rfl, rfl⟩]
theorem INV_0 {s : Nat} : INV K0 (100, s) Vi J0 O0 := by
  have z : ∀ {a k : Nat}, ¬ ((a = 3 ∧ k < 4) ∨ (a = 48 ∧ k < 6) ∨ (a = 13 ∧ k = 3) ∨ (a = 57 ∧ k = 44) ∨ (a = 61 ∧ k < 4) ∨ (a = 92 ∧ k < 6) ∨ (a = 96 ∧ k = 0)) → Vi a k = nI 0 := fun h => Vi_z h
  refine ⟨⟨K0_st, Nat.le_add_right 96 4⟩, 0, 0, fun _ _ => 0, fun _ => false, fun _ => 0, 0, fun _ => 0, fun _ => 0, fun _ => 0, fun _ => x00, 0, fun _ => 96, fun _ => 0, fun _ => ((0, fun _ => (0, 0, 0)), 0, 0, 0), ⟨?_, ?_, rfl⟩, ⟨?_, ?_, ?_⟩, ⟨?_, ?_, ?_, ?_⟩, ⟨⟨⟨rfl, K0_ak, Nat.le_refl _, Nat.le_refl _⟩, Vi_1, 0, by decide, z (by omega)⟩, fun i hi => absurd hi (Nat.not_lt_zero i)⟩, ?_, ⟨[], ?_⟩, ⟨fun _ => none, ?_⟩, ?_, ?_, ?_, ?_, ?_, ?_, ?_⟩
  · exact ⟨⟨by decide, Nat.le_refl _⟩, z (by omega), z (by omega), fun _ t _ ht => absurd ht (Nat.not_lt_zero t), fun t ht => absurd ht (Nat.not_lt_zero t)⟩
  · exact ⟨by decide, z (by omega), fun _ t _ ht => absurd ht (Nat.not_lt_zero t), fun t ht => absurd ht (Nat.not_lt_zero t)⟩
  · exact ⟨⟨by decide, fun i j _ hj => absurd hj (Nat.not_lt_zero j), z (by omega), z (by omega)⟩, fun i hi => absurd hi (Nat.not_lt_zero i), fun i hi => absurd hi (Nat.not_lt_zero i), fun i hi => absurd hi (Nat.not_lt_zero i)⟩
  · exact fun s _ _ => ⟨⟨z (by omega), z (by omega), z (by omega), z (by omega)⟩, fun t _ => ⟨z (by omega), z (by omega)⟩⟩
  · exact fun i hi => absurd hi (Nat.not_lt_zero i)
  · exact ⟨⟨by decide, z (by omega), z (by omega)⟩, fun i j _ hj => absurd hj (Nat.not_lt_zero j), fun i hi => absurd hi (Nat.not_lt_zero i)⟩
  · exact fun i hi => absurd hi (Nat.not_lt_zero i)
  · exact fun p _ _ => ⟨0, by decide, z (by omega)⟩
  · exact fun i hi => absurd hi (Nat.not_lt_zero i)
  · exact fun i j hi _ => absurd hi (Nat.not_lt_zero i)
  · exact ⟨⟨z (by omega), fun j hj _ => absurd hj (Nat.not_lt_zero j)⟩, Nat.zero_le _, Or.inl ⟨rfl, rfl⟩⟩
  · exact ⟨by decide, fun _ _ _ _ => rfl, fun i hi => (show O0 47 i = none ∧ Vi 48 i = -1 ∧ Vi 92 i = -1 from ⟨if_neg (by omega), Vi_m (by omega), Vi_m (by omega)⟩)⟩
  · exact ⟨0, fun _ => false, fun _ => 0, fun _ => 0, fun _ => 0, fun _ => 0, fun _ _ => false, ⟨by decide, z (by omega), z (by omega)⟩, fun w hw => absurd hw (Nat.not_lt_zero w), fun w hw => absurd hw (Nat.not_lt_zero w), fun w _ hw => absurd hw (Nat.not_lt_zero w), fun w _ hw => absurd hw (Nat.not_lt_zero w), fun w _ hw => absurd hw (Nat.not_lt_zero w), fun i _ _ => Vi_z (by omega)⟩
  · have q : ∀ {a b : Nat}, (a = 2 ∨ a = 60) → (b = 3 ∨ b = 61) → LW (fun _ => false) (fun _ => none) (Vi a) (Vi b) := fun ha hb f hf => ⟨(Vi_z (by omega)).trans (bI_f (show ¬ false = true by decide)).symm, Vi_m (by omega), fun _ h => by cases h⟩
    exact ⟨_, _, q (Or.inl rfl) (Or.inl rfl), q (Or.inr rfl) (Or.inr rfl)⟩
  · exact ⟨0, fun _ => 0, ⟨by decide, z (by omega), fun i hi => absurd hi (Nat.not_lt_zero i)⟩, ⟨by decide, z (by omega), fun i hi => absurd hi (Nat.not_lt_zero i)⟩⟩
  · exact ⟨0, fun _ => 0, fun _ => 0, ⟨by decide, z (by omega), fun i hi => absurd hi (Nat.not_lt_zero i)⟩, ⟨by decide, z (by omega), fun i hi => absurd hi (Nat.not_lt_zero i)⟩⟩
  · exact ⟨0, fun _ => 0, ⟨by decide, z (by omega), fun i hi => absurd hi (Nat.not_lt_zero i)⟩, ⟨by decide, z (by omega), fun i hi => absurd hi (Nat.not_lt_zero i)⟩⟩
  · exact ⟨0, fun _ => 0, fun _ => 0, none, ⟨by decide, z (by omega), fun i hi => absurd hi (Nat.not_lt_zero i), Vi_m (by omega), fun _ h => (by cases h), fun k hk => Vi_z (by omega)⟩, ⟨by decide, z (by omega), fun i hi => absurd hi (Nat.not_lt_zero i), Vi_m (by omega), fun _ h => by cases h⟩⟩
  · exact (Vi_z (a := 0) (k := 8) (by omega)).trans (Vi_z (a := 57) (k := 33) (by omega)).symm
/-- the law, whole -/
theorem law_all {G : Gp} (hG : gm G = fun a => a) (hL : gL G ≤ 3072) : ∃ fin : Nat × Nat, fin.1 ≤ 600000 ∧ fin.2 ≤ 7302250 ∧ ∀ (sc : Nat) (Q : Option Value → AH → Prop), (∀ h, Q (some (.int 1)) h) → wp G (98 + 3) mL_law 0 [(0, .retAddr sc)] [] (LH [] 0) fin Q := by
  obtain ⟨fin, ⟨f1, f2⟩, f3, f4, f5⟩ := law_loop (G := gS G pmA) (show gL G < 100000 by omega) 512 0 K0 (100, 5854) Vi J0 O0 (show gL G < 0 + 6 * 512 + 6 by omega) (by omega) INV_0
  dsimp only at f1 f2 f3 f4
  exact ⟨fin, by omega, by omega, fun sc Q hQ => law_start hG f1 f2 hQ (fun Q' hQ' => f5 sc Q' hQ')⟩
section
variable {U : State} {A : Array Value}
theorem ao_args {t : FieldType} (h : (Cond.arrayOver t).before A U = true) : (Cond.arrayOver t).before #[] U = true := h
theorem kn_P {t : FieldType} (h : (Cond.arrayClass t).before A U = true) (ht : ∀ c, U.vm.findClass ("[" ++ t.toString) = some c → va_RA U c t) : ∃ c, ArrOfT U c t ∧ va_RA U c t := by
  obtain ⟨c, k, comp, h1, h2, h3⟩ := Cond.arrayClass_spec h
  exact ⟨c, fun n z => ⟨fun k h => (by cases h), k, h2, comp, h3⟩, ht c h1⟩
theorem kn_A {t : FieldType} (h : (Cond.arrayOver (.array t)).before A U = true) : ∃ c, ArrOfT U c (.array t) ∧ va_RA U c (.array t) := by
  obtain ⟨comp, c, k, h1, h2, h3, h4, h5⟩ := ao_spec h
  exact ⟨c, fun n z => ⟨fun k h => (by cases h), k, h3, comp, h4⟩, h5⟩
theorem kn_O {C : String} (h : (Cond.arrayOver (.object C)).before A U = true) : ∃ c, ArrOfT U c (.object C) ∧ va_RA U c (.object C) := by
  obtain ⟨comp, c, k, h1, h2, h3, h4, h5⟩ := Cond.arrayOver_spec h
  exact ⟨c, fun n z => ⟨fun k h => (by cases h), k, h3, comp, h4⟩, k, comp, h3, h4, h1, h5⟩
end
theorem all_mem {α : Type} {f : α → Cond} {l : List α} {T : List Cond} (h : l.all (fun q => decide (f q ∈ T)) = true) : ∀ q ∈ l, f q ∈ T := fun q hq => of_decide_eq_true (List.all_eq_true.mp h q hq)
theorem in_inst : ∀ q ∈ acls, Cond.instantiable q.1 q.2.2 ∈ lw_tbl := all_mem (f := fun q : vw_C => Cond.instantiable q.1 q.2.2) (by decide +kernel)
theorem in_ca : ∀ q ∈ caT, Cond.castable q.1 q.2 ∈ lw_tbl := all_mem (f := fun q : String × String => Cond.castable q.1 q.2) (by decide +kernel)
theorem in_ns : ∀ q ∈ nsT, Cond.methodLinkNest q.1 q.2.1 q.2.2.1 q.2.2.2 ∈ lw_tbl := all_mem (f := fun q : String × Nat × MethodName × String => Cond.methodLinkNest q.1 q.2.1 q.2.2.1 q.2.2.2) (by decide +kernel)
theorem in_ao : ∀ t ∈ aoT, Cond.arrayOver t ∈ lw_tbl := all_mem (f := fun t : FieldType => Cond.arrayOver t) (by decide +kernel)
theorem in_nc : ∀ q ∈ ncT, Cond.not (.castable q.1 q.2) ∈ flatC (Jvm.Cond.and given_1 narrow_1) := all_mem (f := fun q : String × String => Cond.not (.castable q.1 q.2)) (by decide +kernel)
/-- YOUR PART: from the entry, for every script of at most 3072 ints, the law comes to its end with true ('hflags': the launch's flags, for a law that throws: no stack traces) -/
theorem whole_start {p : Program} {e : Env} {s : State} {m : MethodId} {below : List Frame} {meth : Method} {c : Code} (l : Launch) (hflags : l.flags = flags0) {b L : Nat} {xs : Nat → Int32} (hL : L ≤ 3072) (C0 : lw_At p s m meth c b L xs) : W p l e room_1 s m #[Value.ref b] below meth c s.heap [] 0 0 (lw_Z below #[Value.ref b] s) (entryFrame m ([Value.ref b] : List Value).toArray 4) := by
  obtain ⟨hx, hb, hr, hml, hown, hts, hX, hbl, hlocks, hgv⟩ := id C0
  have hg : ∀ w ∈ gtbl, w.before #[Value.ref b] s = true := fun w hw => hts w (List.mem_filter.mp hw).1
  have hkc : ∀ c : Nat, ∃ p : ClassId × (Nat → Nat), ∀ q, acls[c]? = some q → u_Kn s q.1 q.2.1 q.2.2 p.1 p.2 := fun c => by
    cases e : acls[c]? with
    | none => exact ⟨(m.cls, fun _ => 0), fun q h => by cases h⟩
    | some q =>
      obtain ⟨cC, iS, h⟩ := u_known hg (acls_ok e).1 (hts _ (in_inst q (List.mem_of_getElem? e)))
      exact ⟨(cC, iS), fun q' h' => by cases h'; exact h⟩
  obtain ⟨f, hf⟩ := Classical.axiomOfChoice hkc
  have hao : ∀ t ∈ aoT, (Cond.arrayOver t).before #[] s = true := fun t ht => hts _ (in_ao t ht)
  obtain ⟨a0, h0⟩ := kn_P (t := .int) (hg _ aI) (fun _ h => h)
  obtain ⟨a1, h1⟩ := kn_P (t := .long) (hg _ aJ) (fun _ h => h)
  obtain ⟨a2, h2⟩ := kn_P (t := .boolean) (hg _ aZ) (fun _ h => h)
  obtain ⟨a3, h3⟩ := kn_A (hao (.array .int) (by decide))
  obtain ⟨a4, h4⟩ := kn_A (hao (.array .long) (by decide))
  obtain ⟨a5, h5⟩ := kn_O (hao (.object RX0) (by decide))
  obtain ⟨a6, h6⟩ := kn_O (hao (.object RX5) (by decide))
  have hTB : TB (s.heap, (fun c => (f c).1, fun c => (f c).2), (fun t => match t with | 0 => a0 | 1 => a1 | 2 => a2 | 3 => a3 | 4 => a4 | 5 => a5 | _ => a6), l, b, L, xs, fun a => a) s := by
    refine ⟨⟨fun c q hq => hf c q hq, fun k q hq => ?_⟩, fun q hq => va_Nw.of rfl (hts _ (in_ca q hq)), fun q hq => va_Nc.of (flat_of_before _ hgv _ (in_nc q hq)), fun q hq => va_Nw.of rfl (hts _ (in_ns q hq)), fun t ht => ao_args (hao t ht), hX, hbl⟩
    match k, hq with
    | 0, hq => cases hq; exact h0
    | 1, hq => cases hq; exact h1
    | 2, hq => cases hq; exact h2
    | 3, hq => cases hq; exact h3
    | 4, hq => cases hq; exact h4
    | 5, hq => cases hq; exact h5
    | 6, hq => cases hq; exact h6
    | k + 7, hq => simp at hq
  have hl := lv_entry ([.ref b]) (n := 4) (Nat.le_of_ble_eq_true rfl)
  rw [lg_entry_eq]
  generalize (lg_sl ([.ref b]) ++ List.replicate (4 - (lg_sl ([.ref b])).length) Slot.unset).toArray = ls at hl ⊢
  have hl : lv_has ls 4 [(0, .ref b)] := hl
  generalize hG : ((s.heap, (fun c => (f c).1, fun c => (f c).2), (fun t => match t with | 0 => a0 | 1 => a1 | 2 => a2 | 3 => a3 | 4 => a4 | 5 => a5 | _ => a6), l, b, L, xs, fun a => a) : Gp) = G at hTB
  have eL : gL G = L := by rw [← hG]
  have el : gl G = l := by rw [← hG]
  have eb : gb G = b := by rw [← hG]
  have eB : gB G = s.heap.size := by rw [← hG]
  have eH : gH G = s.heap := by rw [← hG]
  have eP : gm G = fun a => a := by rw [← hG]
  obtain ⟨fin, f1, f2, f3⟩ := law_all (G := G) eP (by rw [eL]; exact hL)
  have hR : RelH G (LH [] 0) s.heap := ⟨by rw [eB]; rfl, fun q _ => by rw [eH], ⟨fun a => ⟨fun ⟨c, h⟩ => by simp [LH] at h, fun h => absurd h (Nat.not_lt_zero a)⟩, by rw [eP]; exact PI.id _⟩, fun k q h => by simp [wsOf, LH] at h⟩
  have key := f3 0 (fun r _ => r = some (.int 1)) (fun _ => rfl) p e room_1 s m #[Value.ref b] below meth c ls s.heap [] 0 0 0 0 (lw_Z below #[Value.ref b] s) ⟨hx, hb, hml, hr, hlocks, fun h => absurd h (by decide), hown, hg, hTB, by decide, by decide⟩ (show lv_has ls 4 [(0, .ref (gb G))] by rw [eb]; exact hl) hR (fun q h => absurd h List.not_mem_nil) ⟨by rw [eB, Nat.add_zero], rfl, rfl, f1, f2⟩ (fun r h' H' locs' pc' cells' slots' LS' q1 q2 hR' hlc hc hs hRt => by
    subst q1
    rw [el]
    refine va_forget (fun q hq => by rw [← eB]; exact hlc q hq) (W.widen (k := 600000) (n := 7302250) (by omega) (by omega) ?_)
    exact lw_ret hx hb hr hlocks hRt.1)
  rw [el] at key
  exact key
-- ===== YOUR PART ENDS =====
set_option maxHeartbeats 4000000 in
theorem lw_walk (l : Launch) (hflags : l.flags = flags0) (b : Addr) (xs : List Int32) : MetFree l x (headSpec (Jvm.Cond.code x code maxLocals ret :: tables_1) room_1) (lw_P b xs) (fun _ _ _ _ _ => True) lw_Q := by
  refine MetFree.of_bodyS (code := code) (maxLocals := maxLocals) (ret := ret) (by decide) ?_ ?_
  · intro args s m h hn
    obtain ⟨meth, c, h1, h2, h3, h4, h5, h6, -, -⟩ := Cond.code_spec hn (atoms_spec (ws := Jvm.Cond.code x code maxLocals ret :: tables_1) h _ List.mem_cons_self)
    exact ⟨meth, c, h1, h2, h3, h4, h5, h6⟩
  · intro p e s m args below meth c s₁ B hml0 hP _
    obtain ⟨rfl, hx, hbd, hgv⟩ := hP
    obtain ⟨scr, harrAt, hlist, hof, hsmall⟩ := hx
    obtain ⟨hcb, hkn, -, -⟩ := State.arrayAt?_spec harrAt
    have hown : s.vm.findClass R_law = some m.cls := findClass_of_methodNamed B.named
    have hts0 : ∀ c ∈ (Jvm.Cond.code x code maxLocals ret :: tables_1), c.before #[Value.ref b] s = true := atoms_spec (ws := Jvm.Cond.code x code maxLocals ret :: tables_1) B.pre
    have hts : ∀ w ∈ lw_tbl, w.before #[Value.ref b] s = true := k2_hts_sels lw_privs (fun w hw => hts0 w (List.mem_cons_of_mem _ hw)) lw_privs_ok
    have hml : c.maxLocals = 4 := B.maxLocals_eq (hts0 _ List.mem_cons_self)
    have X₀ : Stand p l e room_1 s m #[Value.ref b] below meth c s₁ [] 0 0 := Stand.of_body B
    have hh0 : s₁.heap = s.heap := by rw [B.state]; rfl
    have hsz : scr.slots.size = xs.length := by rw [← Array.length_toList, hlist, List.length_map]
    have hval : ∀ j : Nat, j < xs.length → scr.slots[j]? = some (.int (xs.getD j 0)) := fun j hj => by
      rw [← Array.getElem?_toList, hlist]
      simp [hj]
    have hbl : b < s.heap.size := (Array.getElem?_eq_some_iff.mp hcb).1
    have hX : va_X b xs.length (fun j => xs.getD j 0) s s.heap := ⟨scr, hcb, hof, hkn, hsz, hval⟩
    have K : W p l e room_1 s m #[Value.ref b] below meth c s₁.heap [] 0 0 (lw_Z below #[Value.ref b] s) (entryFrame m ([Value.ref b] : List Value).toArray 4) := by
      rw [hh0]
      exact whole_start l hflags hbd ⟨B.exec, B.bytes, B.returns, hml, hown, hts, hX, hbl, B.notSynchronized, hgv⟩
    obtain ⟨t, a1, o, b1, b2, b3⟩ := K s₁ rfl X₀
    exact ⟨t, o, a1, b1, b2, b3⟩
theorem lw_pre_spec {args : Array Value} {s : State} (h : (Jvm.Cond.and given_1 narrow_1).before args s = true) (hr : rest_1_c.before args s = true) : ∃ (b : Addr) (xs : List Int32), lw_P b xs args s := by
  have hs := flat_of_before _ h
  have hq := flat_of_before _ hr
  have hc : (Cond.count 1).before args s = true := hs _ (by decide +kernel)
  have harr : (Cond.arrayOf (.arg 0) .int).before args s = true := hs _ (by decide +kernel)
  have hle : (Cond.le (.length (.arg 0)) (.int 3072)).before args s = true := hs _ (by decide +kernel)
  have hlen : (Cond.isInt (.length (.arg 0))).before args s = true := hq _ (by decide +kernel)
  have hall : (Cond.all (.arg 0) (.isInt (.elem (.arg 0) (.index 0)))).before args s = true := hq _ (by decide +kernel)
  obtain ⟨b, xs, hb, hx⟩ := State.ints_of_pre rfl harr hlen hall
  have hsm : xs.length < 2 ^ 31 := hx.choose_spec.2.2.2
  have hev : (Term.length (.arg 0)).eval args s none [] s = some (.int xs.length.toInt32) := hx.length_eval hb
  have hv := Cond.le_ints hev (show (Term.int 3072).eval args s none [] s = some (.int 3072) from rfl)
  have hd : xs.length.toInt32 ≤ 3072 := by
    simpa [Cond.before, Cond.holds, hv] using hle
  have hN : xs.length ≤ 3072 := (Int32.ofNat_le_ofNat hsm (by decide)).mp (show Int32.ofNat xs.length ≤ Int32.ofNat 3072 from hd)
  exact ⟨b, xs, Cond.one_arg hc (show args[0]? = some (.ref b) from hb), hx, hN, h⟩
theorem lw_comes (l : Launch) (hflags : l.flags = flags0) : Comes l x (Jvm.Cond.code x code maxLocals ret :: tables_1) room_1 (fun tb e args s => Calls_1 tb e args s ∧ rest_1 tb e args s ∧ Pre_1 tb e args s)
    (fun _ _ args s o t => lw_Q args s o t) := by
  intro p e ha hc hk s m args below hf hfit hheap happ hpre
  obtain ⟨b, xs, hP⟩ := lw_pre_spec hpre.2.2 hpre.2.1
  obtain ⟨k, o, h1, h2, h3, hQ⟩ := lw_walk l hflags b xs p e ha hc hk s m args below hf ((Spec.applies_iff_loose hf).mp happ).1 hP trivial
  exact ⟨k, o, h1, h2, h3, hQ⟩
theorem lw_frame {s t : State} {o : Outcome} {args : Array Value} (h : Framed s o t [] 600000 7302250) :
    Framed s o t (fieldLocs frame_1_writes args s ++ arrayLocs frame_1_arrays args s ++ staticLocs frame_1_statics s) 600000 7302250 := h
theorem lw_limb (L : Cond) (hL : ∀ (args : Array Value) (s t : State), L.after args s (.returned (some (.int 1))) t = true) :
    ArmFor flags0 classFile x code maxLocals ret World_1 tables_1 room_1 Calls_1 rest_1 Pre_1
      (fun tb e a s o t => postC L tb e a s o t ∧ Framed s o t (fieldLocs frame_1_writes a s ++ arrayLocs frame_1_arrays a s ++ staticLocs frame_1_statics s) 600000 7302250) := by
  intro l hflags _ _ p e ha hc hk s m args below hf hfit hheap happ hpre
  obtain ⟨k, o, h1, h2, h3, rfl, hF⟩ := lw_comes l hflags p e ha hc hk s m args below hf hfit hheap happ hpre
  exact ⟨k, _, h1, h2, h3, hL args s _, lw_frame hF⟩
theorem i_vc : Claimed_1_1 ∧ Claimed_1_2 := ⟨lw_limb limb_1_1 (fun args s t => by simp [limb_1_1, Cond.after, Cond.holds, Cond.value]), lw_limb limb_1_2 (fun args s t => Cond.after_iff.mpr (by
  first | (rw [show limb_1_2 = Cond.eq .result (.int 1) from rfl, Cond.eq_ints (x := 1) (y := 1) rfl rfl]; simp; done) | (simp [limb_1_2, Cond.value, Term.eval]; done)))⟩
