/-! ===== the law, raw, act by act ===== -/
/-- the script, at i -/
def SL (G : Gp) (i : Int32) (P : Int32 → Prop) : Prop := vp_in i (gL G) ∧ P (gx G i.toNatClampNeg)
theorem vL_law_212 {G : Gp} {d : Nat} {h : AH} {fin : Nat × Nat} {Q : Option Value → AH → Prop} {sc : Nat} {a1 : Nat} {a2 : Nat} {x3 : Int32} (hv : SL G (x3 + (1 : Int32)) (fun v2 => SL G (x3 + (2 : Int32)) (fun v3 => SL G (x3 + (3 : Int32)) (fun v4 => SL G (x3 + (4 : Int32)) (fun v5 => (∃ fs : List Value, h.1 a1 = some (.inr (11, fs)) ∧ ∃ fin' : Nat × Nat, cR h fin' fin ∧ wp G d mX11_put 0 [(0, .ref a1), (1, .int v2), (2, .int v3), (3, .int v4), (4, .int v5)] [] h fin' (fun r h6 => h6.2 = fin' → (∃ v7, r = some (.int v7) ∧ SL G (x3 + (1 : Int32)) (fun v8 => SL G (x3 + (2 : Int32)) (fun v9 => SL G (x3 + (3 : Int32)) (fun v10 => SL G (x3 + (4 : Int32)) (fun v11 => (∃ fs : List Value, h6.1 a2 = some (.inr (12, fs)) ∧ ∃ fin' : Nat × Nat, cR h6 fin' fin ∧ wp G d mX12_put 0 [(0, .ref a2), (1, .int v8), (2, .int v9), (3, .int v10), (4, .int v11)] [] h6 fin' (fun r h12 => h12.2 = fin' → (∃ v13, r = some (.int v13) ∧ ((v7 = v13 → wp G (d + 1) mL_law 18 [(0, .retAddr sc), (1, .ref a1), (2, .ref a2), (3, .int (x3 + 6))] [] h12 fin Q) ∧ (¬ v7 = v13 → (h12.2 = fin ∧ Q (some (.int (0 : Int32))) h12)))))))))))))))))) : wp G (d + 1) mL_law 212 [(0, .retAddr sc), (1, .ref a1), (2, .ref a2), (3, .int x3)] [] h fin Q := by
  refine wp_aload_n (i := 1) dL_law_212 rfl rfl ?_
  refine wp_aload_nS (i := 0) dL_law_213 rfl rfl ?_
  refine wp_iload_n (i := 3) dL_law_214 rfl rfl ?_
  refine wp_iconst (v := 1) dL_law_215 (by decide) ?_
  refine wp_iadd dL_law_216 ?_
  obtain ⟨q, hv⟩ := hv
  refine wp_sld dL_law_217 q ?_
  generalize gx G ((x3 + (1 : Int32))).toNatClampNeg = v2 at hv ⊢
  refine wp_aload_nS (i := 0) dL_law_218 rfl rfl ?_
  refine wp_iload_n (i := 3) dL_law_219 rfl rfl ?_
  refine wp_iconst (v := 2) dL_law_220 (by decide) ?_
  refine wp_iadd dL_law_221 ?_
  obtain ⟨q, hv⟩ := hv
  refine wp_sld dL_law_222 q ?_
  generalize gx G ((x3 + (2 : Int32))).toNatClampNeg = v3 at hv ⊢
  refine wp_aload_nS (i := 0) dL_law_223 rfl rfl ?_
  refine wp_iload_n (i := 3) dL_law_224 rfl rfl ?_
  refine wp_iconst (v := 3) dL_law_225 (by decide) ?_
  refine wp_iadd dL_law_226 ?_
  obtain ⟨q, hv⟩ := hv
  refine wp_sld dL_law_227 q ?_
  generalize gx G ((x3 + (3 : Int32))).toNatClampNeg = v4 at hv ⊢
  refine wp_aload_nS (i := 0) dL_law_228 rfl rfl ?_
  refine wp_iload_n (i := 3) dL_law_229 rfl rfl ?_
  refine wp_iconst (v := 4) dL_law_230 (by decide) ?_
  refine wp_iadd dL_law_231 ?_
  obtain ⟨q, hv⟩ := hv
  refine wp_sld dL_law_232 q ?_
  generalize gx G ((x3 + (4 : Int32))).toNatClampNeg = v5 at hv ⊢
  obtain ⟨fs, c, hv⟩ := hv
  obtain ⟨fin', hr, hv⟩ := hv
  refine wp_callV (vs := [.int v2, .int v3, .int v4, .int v5]) (st := []) (fin' := fin') dL_law_233 c rfl k13_13_11 rfl (Nat.le_of_ble_eq_true rfl) (Nat.le_of_ble_eq_true rfl) hr (wp_mono hv ?_)
  intro r h6 hv e1
  replace hv := hv e1
  obtain ⟨v7, rfl, hv⟩ := hv
  change wp _ _ _ _ _ [.int v7] _ _ _
  refine wp_aload_n (i := 2) dL_law_236 rfl rfl ?_
  refine wp_aload_nS (i := 0) dL_law_237 rfl rfl ?_
  refine wp_iload_n (i := 3) dL_law_238 rfl rfl ?_
  refine wp_iconst (v := 1) dL_law_239 (by decide) ?_
  refine wp_iadd dL_law_240 ?_
  obtain ⟨q, hv⟩ := hv
  refine wp_sld dL_law_241 q ?_
  generalize gx G ((x3 + (1 : Int32))).toNatClampNeg = v8 at hv ⊢
  refine wp_aload_nS (i := 0) dL_law_242 rfl rfl ?_
  refine wp_iload_n (i := 3) dL_law_243 rfl rfl ?_
  refine wp_iconst (v := 2) dL_law_244 (by decide) ?_
  refine wp_iadd dL_law_245 ?_
  obtain ⟨q, hv⟩ := hv
  refine wp_sld dL_law_246 q ?_
  generalize gx G ((x3 + (2 : Int32))).toNatClampNeg = v9 at hv ⊢
  refine wp_aload_nS (i := 0) dL_law_247 rfl rfl ?_
  refine wp_iload_n (i := 3) dL_law_248 rfl rfl ?_
  refine wp_iconst (v := 3) dL_law_249 (by decide) ?_
  refine wp_iadd dL_law_250 ?_
  obtain ⟨q, hv⟩ := hv
  refine wp_sld dL_law_251 q ?_
  generalize gx G ((x3 + (3 : Int32))).toNatClampNeg = v10 at hv ⊢
  refine wp_aload_nS (i := 0) dL_law_252 rfl rfl ?_
  refine wp_iload_n (i := 3) dL_law_253 rfl rfl ?_
  refine wp_iconst (v := 4) dL_law_254 (by decide) ?_
  refine wp_iadd dL_law_255 ?_
  obtain ⟨q, hv⟩ := hv
  refine wp_sld dL_law_256 q ?_
  generalize gx G ((x3 + (4 : Int32))).toNatClampNeg = v11 at hv ⊢
  obtain ⟨fs, c, hv⟩ := hv
  obtain ⟨fin', hr, hv⟩ := hv
  refine wp_callV (vs := [.int v8, .int v9, .int v10, .int v11]) (st := [.int v7]) (fin' := fin') dL_law_257 c rfl k13_17_12 rfl (Nat.le_of_ble_eq_true rfl) (Nat.le_of_ble_eq_true rfl) hr (wp_mono hv ?_)
  intro r h12 hv e1
  replace hv := hv e1
  obtain ⟨v13, rfl, hv⟩ := hv
  change wp _ _ _ _ _ [.int v13, .int v7] _ _ _
  refine wp_icmp_eq 1606 dL_law_260 (by decide) (fun q => ?_) (fun q => ?_)
  · replace hv := hv.1 q
    refine wx_iinc (v := 6) (ls' := [(0, .retAddr sc), (1, .ref a1), (2, .ref a2), (3, .int (x3 + 6))]) dL_law_1606 rfl (by decide) (by decide) rfl ?_
    refine wp_goto 18 dL_law_1609 (by decide) ?_
    exact hv
  · replace hv := hv.2 q
    refine wp_iconst (v := 0) dL_law_263 (by decide) ?_
    obtain ⟨e, hv⟩ := hv
    exact wp_ireturn dL_law_264 rfl (by decide) e hv
theorem vL_law_265 {G : Gp} {d : Nat} {h : AH} {fin : Nat × Nat} {Q : Option Value → AH → Prop} {sc : Nat} {a1 : Nat} {a2 : Nat} {x3 : Int32} (hv : SL G (x3 + (1 : Int32)) (fun v14 => (∃ fs : List Value, h.1 a1 = some (.inr (11, fs)) ∧ ∃ fin' : Nat × Nat, cR h fin' fin ∧ wp G d mX11_take 0 [(0, .ref a1), (1, .int v14)] [] h fin' (fun r h15 => h15.2 = fin' → (∃ v16, r = some (.int v16) ∧ SL G (x3 + (1 : Int32)) (fun v17 => (∃ fs : List Value, h15.1 a2 = some (.inr (12, fs)) ∧ ∃ fin' : Nat × Nat, cR h15 fin' fin ∧ wp G d mX12_take 0 [(0, .ref a2), (1, .int v17)] [] h15 fin' (fun r h18 => h18.2 = fin' → (∃ v19, r = some (.int v19) ∧ ((v16 = v19 → wp G (d + 1) mL_law 18 [(0, .retAddr sc), (1, .ref a1), (2, .ref a2), (3, .int (x3 + 6))] [] h18 fin Q) ∧ (¬ v16 = v19 → (h18.2 = fin ∧ Q (some (.int (0 : Int32))) h18)))))))))))) : wp G (d + 1) mL_law 265 [(0, .retAddr sc), (1, .ref a1), (2, .ref a2), (3, .int x3)] [] h fin Q := by
  refine wp_aload_n (i := 1) dL_law_265 rfl rfl ?_
  refine wp_aload_nS (i := 0) dL_law_266 rfl rfl ?_
  refine wp_iload_n (i := 3) dL_law_267 rfl rfl ?_
  refine wp_iconst (v := 1) dL_law_268 (by decide) ?_
  refine wp_iadd dL_law_269 ?_
  obtain ⟨q, hv⟩ := hv
  refine wp_sld dL_law_270 q ?_
  generalize gx G ((x3 + (1 : Int32))).toNatClampNeg = v14 at hv ⊢
  obtain ⟨fs, c, hv⟩ := hv
  obtain ⟨fin', hr, hv⟩ := hv
  refine wp_callV (vs := [.int v14]) (st := []) (fin' := fin') dL_law_271 c rfl k13_18_11 rfl (Nat.le_of_ble_eq_true rfl) (Nat.le_of_ble_eq_true rfl) hr (wp_mono hv ?_)
  intro r h15 hv e1
  replace hv := hv e1
  obtain ⟨v16, rfl, hv⟩ := hv
  change wp _ _ _ _ _ [.int v16] _ _ _
  refine wp_aload_n (i := 2) dL_law_274 rfl rfl ?_
  refine wp_aload_nS (i := 0) dL_law_275 rfl rfl ?_
  refine wp_iload_n (i := 3) dL_law_276 rfl rfl ?_
  refine wp_iconst (v := 1) dL_law_277 (by decide) ?_
  refine wp_iadd dL_law_278 ?_
  obtain ⟨q, hv⟩ := hv
  refine wp_sld dL_law_279 q ?_
  generalize gx G ((x3 + (1 : Int32))).toNatClampNeg = v17 at hv ⊢
  obtain ⟨fs, c, hv⟩ := hv
  obtain ⟨fin', hr, hv⟩ := hv
  refine wp_callV (vs := [.int v17]) (st := [.int v16]) (fin' := fin') dL_law_280 c rfl k13_22_12 rfl (Nat.le_of_ble_eq_true rfl) (Nat.le_of_ble_eq_true rfl) hr (wp_mono hv ?_)
  intro r h18 hv e1
  replace hv := hv e1
  obtain ⟨v19, rfl, hv⟩ := hv
  change wp _ _ _ _ _ [.int v19, .int v16] _ _ _
  refine wp_icmp_eq 1606 dL_law_283 (by decide) (fun q => ?_) (fun q => ?_)
  · replace hv := hv.1 q
    refine wx_iinc (v := 6) (ls' := [(0, .retAddr sc), (1, .ref a1), (2, .ref a2), (3, .int (x3 + 6))]) dL_law_1606 rfl (by decide) (by decide) rfl ?_
    refine wp_goto 18 dL_law_1609 (by decide) ?_
    exact hv
  · replace hv := hv.2 q
    refine wp_iconst (v := 0) dL_law_286 (by decide) ?_
    obtain ⟨e, hv⟩ := hv
    exact wp_ireturn dL_law_287 rfl (by decide) e hv
theorem vL_law_288 {G : Gp} {d : Nat} {h : AH} {fin : Nat × Nat} {Q : Option Value → AH → Prop} {sc : Nat} {a1 : Nat} {a2 : Nat} {x3 : Int32} (hv : SL G (x3 + (1 : Int32)) (fun v20 => SL G (x3 + (2 : Int32)) (fun v21 => (∃ fs : List Value, h.1 a1 = some (.inr (11, fs)) ∧ ∃ fin' : Nat × Nat, cR h fin' fin ∧ wp G d mX11_of 0 [(0, .ref a1), (1, .int v20), (2, .int v21)] [] h fin' (fun r h22 => h22.2 = fin' → (∃ v23, r = some (.int v23) ∧ SL G (x3 + (1 : Int32)) (fun v24 => SL G (x3 + (2 : Int32)) (fun v25 => (∃ fs : List Value, h22.1 a2 = some (.inr (12, fs)) ∧ ∃ fin' : Nat × Nat, cR h22 fin' fin ∧ wp G d mX12_of 0 [(0, .ref a2), (1, .int v24), (2, .int v25)] [] h22 fin' (fun r h26 => h26.2 = fin' → (∃ v27, r = some (.int v27) ∧ ((v23 = v27 → wp G (d + 1) mL_law 18 [(0, .retAddr sc), (1, .ref a1), (2, .ref a2), (3, .int (x3 + 6))] [] h26 fin Q) ∧ (¬ v23 = v27 → (h26.2 = fin ∧ Q (some (.int (0 : Int32))) h26)))))))))))))) : wp G (d + 1) mL_law 288 [(0, .retAddr sc), (1, .ref a1), (2, .ref a2), (3, .int x3)] [] h fin Q := by
  refine wp_aload_n (i := 1) dL_law_288 rfl rfl ?_
  refine wp_aload_nS (i := 0) dL_law_289 rfl rfl ?_
  refine wp_iload_n (i := 3) dL_law_290 rfl rfl ?_
  refine wp_iconst (v := 1) dL_law_291 (by decide) ?_
  refine wp_iadd dL_law_292 ?_
  obtain ⟨q, hv⟩ := hv
  refine wp_sld dL_law_293 q ?_
  generalize gx G ((x3 + (1 : Int32))).toNatClampNeg = v20 at hv ⊢
  refine wp_aload_nS (i := 0) dL_law_294 rfl rfl ?_
  refine wp_iload_n (i := 3) dL_law_295 rfl rfl ?_
  refine wp_iconst (v := 2) dL_law_296 (by decide) ?_
  refine wp_iadd dL_law_297 ?_
  obtain ⟨q, hv⟩ := hv
  refine wp_sld dL_law_298 q ?_
  generalize gx G ((x3 + (2 : Int32))).toNatClampNeg = v21 at hv ⊢
  obtain ⟨fs, c, hv⟩ := hv
  obtain ⟨fin', hr, hv⟩ := hv
  refine wp_callV (vs := [.int v20, .int v21]) (st := []) (fin' := fin') dL_law_299 c rfl k13_23_11 rfl (Nat.le_of_ble_eq_true rfl) (Nat.le_of_ble_eq_true rfl) hr (wp_mono hv ?_)
  intro r h22 hv e1
  replace hv := hv e1
  obtain ⟨v23, rfl, hv⟩ := hv
  change wp _ _ _ _ _ [.int v23] _ _ _
  refine wp_aload_n (i := 2) dL_law_302 rfl rfl ?_
  refine wp_aload_nS (i := 0) dL_law_303 rfl rfl ?_
  refine wp_iload_n (i := 3) dL_law_304 rfl rfl ?_
  refine wp_iconst (v := 1) dL_law_305 (by decide) ?_
  refine wp_iadd dL_law_306 ?_
  obtain ⟨q, hv⟩ := hv
  refine wp_sld dL_law_307 q ?_
  generalize gx G ((x3 + (1 : Int32))).toNatClampNeg = v24 at hv ⊢
  refine wp_aload_nS (i := 0) dL_law_308 rfl rfl ?_
  refine wp_iload_n (i := 3) dL_law_309 rfl rfl ?_
  refine wp_iconst (v := 2) dL_law_310 (by decide) ?_
  refine wp_iadd dL_law_311 ?_
  obtain ⟨q, hv⟩ := hv
  refine wp_sld dL_law_312 q ?_
  generalize gx G ((x3 + (2 : Int32))).toNatClampNeg = v25 at hv ⊢
  obtain ⟨fs, c, hv⟩ := hv
  obtain ⟨fin', hr, hv⟩ := hv
  refine wp_callV (vs := [.int v24, .int v25]) (st := [.int v23]) (fin' := fin') dL_law_313 c rfl k13_27_12 rfl (Nat.le_of_ble_eq_true rfl) (Nat.le_of_ble_eq_true rfl) hr (wp_mono hv ?_)
  intro r h26 hv e1
  replace hv := hv e1
  obtain ⟨v27, rfl, hv⟩ := hv
  change wp _ _ _ _ _ [.int v27, .int v23] _ _ _
  refine wp_icmp_eq 1606 dL_law_316 (by decide) (fun q => ?_) (fun q => ?_)
  · replace hv := hv.1 q
    refine wx_iinc (v := 6) (ls' := [(0, .retAddr sc), (1, .ref a1), (2, .ref a2), (3, .int (x3 + 6))]) dL_law_1606 rfl (by decide) (by decide) rfl ?_
    refine wp_goto 18 dL_law_1609 (by decide) ?_
    exact hv
  · replace hv := hv.2 q
    refine wp_iconst (v := 0) dL_law_319 (by decide) ?_
    obtain ⟨e, hv⟩ := hv
    exact wp_ireturn dL_law_320 rfl (by decide) e hv
theorem vL_law_321 {G : Gp} {d : Nat} {h : AH} {fin : Nat × Nat} {Q : Option Value → AH → Prop} {sc : Nat} {a1 : Nat} {a2 : Nat} {x3 : Int32} (hv : SL G (x3 + (1 : Int32)) (fun v28 => SL G (x3 + (2 : Int32)) (fun v29 => (∃ fs : List Value, h.1 a1 = some (.inr (11, fs)) ∧ ∃ fin' : Nat × Nat, cR h fin' fin ∧ wp G d mX11_unlike 0 [(0, .ref a1), (1, .int v28), (2, .int v29)] [] h fin' (fun r h30 => h30.2 = fin' → (∃ v31, r = some (.int v31) ∧ SL G (x3 + (1 : Int32)) (fun v32 => SL G (x3 + (2 : Int32)) (fun v33 => (∃ fs : List Value, h30.1 a2 = some (.inr (12, fs)) ∧ ∃ fin' : Nat × Nat, cR h30 fin' fin ∧ wp G d mX12_unlike 0 [(0, .ref a2), (1, .int v32), (2, .int v33)] [] h30 fin' (fun r h34 => h34.2 = fin' → (∃ v35, r = some (.int v35) ∧ ((v31 = v35 → wp G (d + 1) mL_law 18 [(0, .retAddr sc), (1, .ref a1), (2, .ref a2), (3, .int (x3 + 6))] [] h34 fin Q) ∧ (¬ v31 = v35 → (h34.2 = fin ∧ Q (some (.int (0 : Int32))) h34)))))))))))))) : wp G (d + 1) mL_law 321 [(0, .retAddr sc), (1, .ref a1), (2, .ref a2), (3, .int x3)] [] h fin Q := by
  refine wp_aload_n (i := 1) dL_law_321 rfl rfl ?_
  refine wp_aload_nS (i := 0) dL_law_322 rfl rfl ?_
  refine wp_iload_n (i := 3) dL_law_323 rfl rfl ?_
  refine wp_iconst (v := 1) dL_law_324 (by decide) ?_
  refine wp_iadd dL_law_325 ?_
  obtain ⟨q, hv⟩ := hv
  refine wp_sld dL_law_326 q ?_
  generalize gx G ((x3 + (1 : Int32))).toNatClampNeg = v28 at hv ⊢
  refine wp_aload_nS (i := 0) dL_law_327 rfl rfl ?_
  refine wp_iload_n (i := 3) dL_law_328 rfl rfl ?_
  refine wp_iconst (v := 2) dL_law_329 (by decide) ?_
  refine wp_iadd dL_law_330 ?_
  obtain ⟨q, hv⟩ := hv
  refine wp_sld dL_law_331 q ?_
  generalize gx G ((x3 + (2 : Int32))).toNatClampNeg = v29 at hv ⊢
  obtain ⟨fs, c, hv⟩ := hv
  obtain ⟨fin', hr, hv⟩ := hv
  refine wp_callV (vs := [.int v28, .int v29]) (st := []) (fin' := fin') dL_law_332 c rfl k13_28_11 rfl (Nat.le_of_ble_eq_true rfl) (Nat.le_of_ble_eq_true rfl) hr (wp_mono hv ?_)
  intro r h30 hv e1
  replace hv := hv e1
  obtain ⟨v31, rfl, hv⟩ := hv
  change wp _ _ _ _ _ [.int v31] _ _ _
  refine wp_aload_n (i := 2) dL_law_335 rfl rfl ?_
  refine wp_aload_nS (i := 0) dL_law_336 rfl rfl ?_
  refine wp_iload_n (i := 3) dL_law_337 rfl rfl ?_
  refine wp_iconst (v := 1) dL_law_338 (by decide) ?_
  refine wp_iadd dL_law_339 ?_
  obtain ⟨q, hv⟩ := hv
  refine wp_sld dL_law_340 q ?_
  generalize gx G ((x3 + (1 : Int32))).toNatClampNeg = v32 at hv ⊢
  refine wp_aload_nS (i := 0) dL_law_341 rfl rfl ?_
  refine wp_iload_n (i := 3) dL_law_342 rfl rfl ?_
  refine wp_iconst (v := 2) dL_law_343 (by decide) ?_
  refine wp_iadd dL_law_344 ?_
  obtain ⟨q, hv⟩ := hv
  refine wp_sld dL_law_345 q ?_
  generalize gx G ((x3 + (2 : Int32))).toNatClampNeg = v33 at hv ⊢
  obtain ⟨fs, c, hv⟩ := hv
  obtain ⟨fin', hr, hv⟩ := hv
  refine wp_callV (vs := [.int v32, .int v33]) (st := [.int v31]) (fin' := fin') dL_law_346 c rfl k13_31_12 rfl (Nat.le_of_ble_eq_true rfl) (Nat.le_of_ble_eq_true rfl) hr (wp_mono hv ?_)
  intro r h34 hv e1
  replace hv := hv e1
  obtain ⟨v35, rfl, hv⟩ := hv
  change wp _ _ _ _ _ [.int v35, .int v31] _ _ _
  refine wp_icmp_eq 1606 dL_law_349 (by decide) (fun q => ?_) (fun q => ?_)
  · replace hv := hv.1 q
    refine wx_iinc (v := 6) (ls' := [(0, .retAddr sc), (1, .ref a1), (2, .ref a2), (3, .int (x3 + 6))]) dL_law_1606 rfl (by decide) (by decide) rfl ?_
    refine wp_goto 18 dL_law_1609 (by decide) ?_
    exact hv
  · replace hv := hv.2 q
    refine wp_iconst (v := 0) dL_law_352 (by decide) ?_
    obtain ⟨e, hv⟩ := hv
    exact wp_ireturn dL_law_353 rfl (by decide) e hv
theorem vL_law_354 {G : Gp} {d : Nat} {h : AH} {fin : Nat × Nat} {Q : Option Value → AH → Prop} {sc : Nat} {a1 : Nat} {a2 : Nat} {x3 : Int32} (hv : SL G (x3 + (1 : Int32)) (fun v36 => SL G (x3 + (2 : Int32)) (fun v37 => (∃ fs : List Value, h.1 a1 = some (.inr (11, fs)) ∧ ∃ fin' : Nat × Nat, cR h fin' fin ∧ wp G d mX11_most 0 [(0, .ref a1), (1, .int v36), (2, .int v37)] [] h fin' (fun r h38 => h38.2 = fin' → (∃ v39, r = some (.int v39) ∧ SL G (x3 + (1 : Int32)) (fun v40 => SL G (x3 + (2 : Int32)) (fun v41 => (∃ fs : List Value, h38.1 a2 = some (.inr (12, fs)) ∧ ∃ fin' : Nat × Nat, cR h38 fin' fin ∧ wp G d mX12_most 0 [(0, .ref a2), (1, .int v40), (2, .int v41)] [] h38 fin' (fun r h42 => h42.2 = fin' → (∃ v43, r = some (.int v43) ∧ ((v39 = v43 → wp G (d + 1) mL_law 18 [(0, .retAddr sc), (1, .ref a1), (2, .ref a2), (3, .int (x3 + 6))] [] h42 fin Q) ∧ (¬ v39 = v43 → (h42.2 = fin ∧ Q (some (.int (0 : Int32))) h42)))))))))))))) : wp G (d + 1) mL_law 354 [(0, .retAddr sc), (1, .ref a1), (2, .ref a2), (3, .int x3)] [] h fin Q := by
  refine wp_aload_n (i := 1) dL_law_354 rfl rfl ?_
  refine wp_aload_nS (i := 0) dL_law_355 rfl rfl ?_
  refine wp_iload_n (i := 3) dL_law_356 rfl rfl ?_
  refine wp_iconst (v := 1) dL_law_357 (by decide) ?_
  refine wp_iadd dL_law_358 ?_
  obtain ⟨q, hv⟩ := hv
  refine wp_sld dL_law_359 q ?_
  generalize gx G ((x3 + (1 : Int32))).toNatClampNeg = v36 at hv ⊢
  refine wp_aload_nS (i := 0) dL_law_360 rfl rfl ?_
  refine wp_iload_n (i := 3) dL_law_361 rfl rfl ?_
  refine wp_iconst (v := 2) dL_law_362 (by decide) ?_
  refine wp_iadd dL_law_363 ?_
  obtain ⟨q, hv⟩ := hv
  refine wp_sld dL_law_364 q ?_
  generalize gx G ((x3 + (2 : Int32))).toNatClampNeg = v37 at hv ⊢
  obtain ⟨fs, c, hv⟩ := hv
  obtain ⟨fin', hr, hv⟩ := hv
  refine wp_callV (vs := [.int v36, .int v37]) (st := []) (fin' := fin') dL_law_365 c rfl k13_32_11 rfl (Nat.le_of_ble_eq_true rfl) (Nat.le_of_ble_eq_true rfl) hr (wp_mono hv ?_)
  intro r h38 hv e1
  replace hv := hv e1
  obtain ⟨v39, rfl, hv⟩ := hv
  change wp _ _ _ _ _ [.int v39] _ _ _
  refine wp_aload_n (i := 2) dL_law_368 rfl rfl ?_
  refine wp_aload_nS (i := 0) dL_law_369 rfl rfl ?_
  refine wp_iload_n (i := 3) dL_law_370 rfl rfl ?_
  refine wp_iconst (v := 1) dL_law_371 (by decide) ?_
  refine wp_iadd dL_law_372 ?_
  obtain ⟨q, hv⟩ := hv
  refine wp_sld dL_law_373 q ?_
  generalize gx G ((x3 + (1 : Int32))).toNatClampNeg = v40 at hv ⊢
  refine wp_aload_nS (i := 0) dL_law_374 rfl rfl ?_
  refine wp_iload_n (i := 3) dL_law_375 rfl rfl ?_
  refine wp_iconst (v := 2) dL_law_376 (by decide) ?_
  refine wp_iadd dL_law_377 ?_
  obtain ⟨q, hv⟩ := hv
  refine wp_sld dL_law_378 q ?_
  generalize gx G ((x3 + (2 : Int32))).toNatClampNeg = v41 at hv ⊢
  obtain ⟨fs, c, hv⟩ := hv
  obtain ⟨fin', hr, hv⟩ := hv
  refine wp_callV (vs := [.int v40, .int v41]) (st := [.int v39]) (fin' := fin') dL_law_379 c rfl k13_35_12 rfl (Nat.le_of_ble_eq_true rfl) (Nat.le_of_ble_eq_true rfl) hr (wp_mono hv ?_)
  intro r h42 hv e1
  replace hv := hv e1
  obtain ⟨v43, rfl, hv⟩ := hv
  change wp _ _ _ _ _ [.int v43, .int v39] _ _ _
  refine wp_icmp_eq 1606 dL_law_382 (by decide) (fun q => ?_) (fun q => ?_)
  · replace hv := hv.1 q
    refine wx_iinc (v := 6) (ls' := [(0, .retAddr sc), (1, .ref a1), (2, .ref a2), (3, .int (x3 + 6))]) dL_law_1606 rfl (by decide) (by decide) rfl ?_
    refine wp_goto 18 dL_law_1609 (by decide) ?_
    exact hv
  · replace hv := hv.2 q
    refine wp_iconst (v := 0) dL_law_385 (by decide) ?_
    obtain ⟨e, hv⟩ := hv
    exact wp_ireturn dL_law_386 rfl (by decide) e hv
theorem vL_law_387 {G : Gp} {d : Nat} {h : AH} {fin : Nat × Nat} {Q : Option Value → AH → Prop} {sc : Nat} {a1 : Nat} {a2 : Nat} {x3 : Int32} (hv : SL G (x3 + (1 : Int32)) (fun v44 => SL G (x3 + (2 : Int32)) (fun v45 => (∃ fs : List Value, h.1 a1 = some (.inr (11, fs)) ∧ ∃ fin' : Nat × Nat, cR h fin' fin ∧ wp G d mX11_feed 0 [(0, .ref a1), (1, .int v44), (2, .int v45)] [] h fin' (fun r h46 => h46.2 = fin' → (∃ v47, r = some (.int v47) ∧ SL G (x3 + (1 : Int32)) (fun v48 => SL G (x3 + (2 : Int32)) (fun v49 => (∃ fs : List Value, h46.1 a2 = some (.inr (12, fs)) ∧ ∃ fin' : Nat × Nat, cR h46 fin' fin ∧ wp G d mX12_feed 0 [(0, .ref a2), (1, .int v48), (2, .int v49)] [] h46 fin' (fun r h50 => h50.2 = fin' → (∃ v51, r = some (.int v51) ∧ ((v47 = v51 → wp G (d + 1) mL_law 18 [(0, .retAddr sc), (1, .ref a1), (2, .ref a2), (3, .int (x3 + 6))] [] h50 fin Q) ∧ (¬ v47 = v51 → (h50.2 = fin ∧ Q (some (.int (0 : Int32))) h50)))))))))))))) : wp G (d + 1) mL_law 387 [(0, .retAddr sc), (1, .ref a1), (2, .ref a2), (3, .int x3)] [] h fin Q := by
  refine wp_aload_n (i := 1) dL_law_387 rfl rfl ?_
  refine wp_aload_nS (i := 0) dL_law_388 rfl rfl ?_
  refine wp_iload_n (i := 3) dL_law_389 rfl rfl ?_
  refine wp_iconst (v := 1) dL_law_390 (by decide) ?_
  refine wp_iadd dL_law_391 ?_
  obtain ⟨q, hv⟩ := hv
  refine wp_sld dL_law_392 q ?_
  generalize gx G ((x3 + (1 : Int32))).toNatClampNeg = v44 at hv ⊢
  refine wp_aload_nS (i := 0) dL_law_393 rfl rfl ?_
  refine wp_iload_n (i := 3) dL_law_394 rfl rfl ?_
  refine wp_iconst (v := 2) dL_law_395 (by decide) ?_
  refine wp_iadd dL_law_396 ?_
  obtain ⟨q, hv⟩ := hv
  refine wp_sld dL_law_397 q ?_
  generalize gx G ((x3 + (2 : Int32))).toNatClampNeg = v45 at hv ⊢
  obtain ⟨fs, c, hv⟩ := hv
  obtain ⟨fin', hr, hv⟩ := hv
  refine wp_callV (vs := [.int v44, .int v45]) (st := []) (fin' := fin') dL_law_398 c rfl k13_36_11 rfl (Nat.le_of_ble_eq_true rfl) (Nat.le_of_ble_eq_true rfl) hr (wp_mono hv ?_)
  intro r h46 hv e1
  replace hv := hv e1
  obtain ⟨v47, rfl, hv⟩ := hv
  change wp _ _ _ _ _ [.int v47] _ _ _
  refine wp_aload_n (i := 2) dL_law_401 rfl rfl ?_
  refine wp_aload_nS (i := 0) dL_law_402 rfl rfl ?_
  refine wp_iload_n (i := 3) dL_law_403 rfl rfl ?_
  refine wp_iconst (v := 1) dL_law_404 (by decide) ?_
  refine wp_iadd dL_law_405 ?_
  obtain ⟨q, hv⟩ := hv
  refine wp_sld dL_law_406 q ?_
  generalize gx G ((x3 + (1 : Int32))).toNatClampNeg = v48 at hv ⊢
  refine wp_aload_nS (i := 0) dL_law_407 rfl rfl ?_
  refine wp_iload_n (i := 3) dL_law_408 rfl rfl ?_
  refine wp_iconst (v := 2) dL_law_409 (by decide) ?_
  refine wp_iadd dL_law_410 ?_
  obtain ⟨q, hv⟩ := hv
  refine wp_sld dL_law_411 q ?_
  generalize gx G ((x3 + (2 : Int32))).toNatClampNeg = v49 at hv ⊢
  obtain ⟨fs, c, hv⟩ := hv
  obtain ⟨fin', hr, hv⟩ := hv
  refine wp_callV (vs := [.int v48, .int v49]) (st := [.int v47]) (fin' := fin') dL_law_412 c rfl k13_39_12 rfl (Nat.le_of_ble_eq_true rfl) (Nat.le_of_ble_eq_true rfl) hr (wp_mono hv ?_)
  intro r h50 hv e1
  replace hv := hv e1
  obtain ⟨v51, rfl, hv⟩ := hv
  change wp _ _ _ _ _ [.int v51, .int v47] _ _ _
  refine wp_icmp_eq 1606 dL_law_415 (by decide) (fun q => ?_) (fun q => ?_)
  · replace hv := hv.1 q
    refine wx_iinc (v := 6) (ls' := [(0, .retAddr sc), (1, .ref a1), (2, .ref a2), (3, .int (x3 + 6))]) dL_law_1606 rfl (by decide) (by decide) rfl ?_
    refine wp_goto 18 dL_law_1609 (by decide) ?_
    exact hv
  · replace hv := hv.2 q
    refine wp_iconst (v := 0) dL_law_418 (by decide) ?_
    obtain ⟨e, hv⟩ := hv
    exact wp_ireturn dL_law_419 rfl (by decide) e hv
theorem vL_law_420 {G : Gp} {d : Nat} {h : AH} {fin : Nat × Nat} {Q : Option Value → AH → Prop} {sc : Nat} {a1 : Nat} {a2 : Nat} {x3 : Int32} (hv : (∃ fs : List Value, h.1 a1 = some (.inr (11, fs)) ∧ ∃ fin' : Nat × Nat, cR h fin' fin ∧ wp G d mX11_ask 0 [(0, .ref a1)] [] h fin' (fun r h52 => h52.2 = fin' → (∃ v53, r = some (.int v53) ∧ (∃ fs : List Value, h52.1 a2 = some (.inr (12, fs)) ∧ ∃ fin' : Nat × Nat, cR h52 fin' fin ∧ wp G d mX12_ask 0 [(0, .ref a2)] [] h52 fin' (fun r h54 => h54.2 = fin' → (∃ v55, r = some (.int v55) ∧ ((v53 = v55 → wp G (d + 1) mL_law 18 [(0, .retAddr sc), (1, .ref a1), (2, .ref a2), (3, .int (x3 + 6))] [] h54 fin Q) ∧ (¬ v53 = v55 → (h54.2 = fin ∧ Q (some (.int (0 : Int32))) h54)))))))))) : wp G (d + 1) mL_law 420 [(0, .retAddr sc), (1, .ref a1), (2, .ref a2), (3, .int x3)] [] h fin Q := by
  refine wp_aload_n (i := 1) dL_law_420 rfl rfl ?_
  obtain ⟨fs, c, hv⟩ := hv
  obtain ⟨fin', hr, hv⟩ := hv
  refine wp_callV (vs := []) (st := []) (fin' := fin') dL_law_421 c rfl k13_40_11 rfl (Nat.le_of_ble_eq_true rfl) (Nat.le_of_ble_eq_true rfl) hr (wp_mono hv ?_)
  intro r h52 hv e1
  replace hv := hv e1
  obtain ⟨v53, rfl, hv⟩ := hv
  change wp _ _ _ _ _ [.int v53] _ _ _
  refine wp_aload_n (i := 2) dL_law_424 rfl rfl ?_
  obtain ⟨fs, c, hv⟩ := hv
  obtain ⟨fin', hr, hv⟩ := hv
  refine wp_callV (vs := []) (st := [.int v53]) (fin' := fin') dL_law_425 c rfl k13_44_12 rfl (Nat.le_of_ble_eq_true rfl) (Nat.le_of_ble_eq_true rfl) hr (wp_mono hv ?_)
  intro r h54 hv e1
  replace hv := hv e1
  obtain ⟨v55, rfl, hv⟩ := hv
  change wp _ _ _ _ _ [.int v55, .int v53] _ _ _
  refine wp_icmp_eq 1606 dL_law_428 (by decide) (fun q => ?_) (fun q => ?_)
  · replace hv := hv.1 q
    refine wx_iinc (v := 6) (ls' := [(0, .retAddr sc), (1, .ref a1), (2, .ref a2), (3, .int (x3 + 6))]) dL_law_1606 rfl (by decide) (by decide) rfl ?_
    refine wp_goto 18 dL_law_1609 (by decide) ?_
    exact hv
  · replace hv := hv.2 q
    refine wp_iconst (v := 0) dL_law_431 (by decide) ?_
    obtain ⟨e, hv⟩ := hv
    exact wp_ireturn dL_law_432 rfl (by decide) e hv
theorem vL_law_433 {G : Gp} {d : Nat} {h : AH} {fin : Nat × Nat} {Q : Option Value → AH → Prop} {sc : Nat} {a1 : Nat} {a2 : Nat} {x3 : Int32} (hv : SL G (x3 + (1 : Int32)) (fun v56 => SL G (x3 + (2 : Int32)) (fun v57 => (∃ fs : List Value, h.1 a1 = some (.inr (11, fs)) ∧ ∃ fin' : Nat × Nat, cR h fin' fin ∧ wp G d mX11_often 0 [(0, .ref a1), (1, .int v56), (2, .int v57)] [] h fin' (fun r h58 => h58.2 = fin' → (∃ v59, r = some (.int v59) ∧ SL G (x3 + (1 : Int32)) (fun v60 => SL G (x3 + (2 : Int32)) (fun v61 => (∃ fs : List Value, h58.1 a2 = some (.inr (12, fs)) ∧ ∃ fin' : Nat × Nat, cR h58 fin' fin ∧ wp G d mX12_often 0 [(0, .ref a2), (1, .int v60), (2, .int v61)] [] h58 fin' (fun r h62 => h62.2 = fin' → (∃ v63, r = some (.int v63) ∧ ((v59 = v63 → wp G (d + 1) mL_law 18 [(0, .retAddr sc), (1, .ref a1), (2, .ref a2), (3, .int (x3 + 6))] [] h62 fin Q) ∧ (¬ v59 = v63 → (h62.2 = fin ∧ Q (some (.int (0 : Int32))) h62)))))))))))))) : wp G (d + 1) mL_law 433 [(0, .retAddr sc), (1, .ref a1), (2, .ref a2), (3, .int x3)] [] h fin Q := by
  refine wp_aload_n (i := 1) dL_law_433 rfl rfl ?_
  refine wp_aload_nS (i := 0) dL_law_434 rfl rfl ?_
  refine wp_iload_n (i := 3) dL_law_435 rfl rfl ?_
  refine wp_iconst (v := 1) dL_law_436 (by decide) ?_
  refine wp_iadd dL_law_437 ?_
  obtain ⟨q, hv⟩ := hv
  refine wp_sld dL_law_438 q ?_
  generalize gx G ((x3 + (1 : Int32))).toNatClampNeg = v56 at hv ⊢
  refine wp_aload_nS (i := 0) dL_law_439 rfl rfl ?_
  refine wp_iload_n (i := 3) dL_law_440 rfl rfl ?_
  refine wp_iconst (v := 2) dL_law_441 (by decide) ?_
  refine wp_iadd dL_law_442 ?_
  obtain ⟨q, hv⟩ := hv
  refine wp_sld dL_law_443 q ?_
  generalize gx G ((x3 + (2 : Int32))).toNatClampNeg = v57 at hv ⊢
  obtain ⟨fs, c, hv⟩ := hv
  obtain ⟨fin', hr, hv⟩ := hv
  refine wp_callV (vs := [.int v56, .int v57]) (st := []) (fin' := fin') dL_law_444 c rfl k13_45_11 rfl (Nat.le_of_ble_eq_true rfl) (Nat.le_of_ble_eq_true rfl) hr (wp_mono hv ?_)
  intro r h58 hv e1
  replace hv := hv e1
  obtain ⟨v59, rfl, hv⟩ := hv
  change wp _ _ _ _ _ [.int v59] _ _ _
  refine wp_aload_n (i := 2) dL_law_447 rfl rfl ?_
  refine wp_aload_nS (i := 0) dL_law_448 rfl rfl ?_
  refine wp_iload_n (i := 3) dL_law_449 rfl rfl ?_
  refine wp_iconst (v := 1) dL_law_450 (by decide) ?_
  refine wp_iadd dL_law_451 ?_
  obtain ⟨q, hv⟩ := hv
  refine wp_sld dL_law_452 q ?_
  generalize gx G ((x3 + (1 : Int32))).toNatClampNeg = v60 at hv ⊢
  refine wp_aload_nS (i := 0) dL_law_453 rfl rfl ?_
  refine wp_iload_n (i := 3) dL_law_454 rfl rfl ?_
  refine wp_iconst (v := 2) dL_law_455 (by decide) ?_
  refine wp_iadd dL_law_456 ?_
  obtain ⟨q, hv⟩ := hv
  refine wp_sld dL_law_457 q ?_
  generalize gx G ((x3 + (2 : Int32))).toNatClampNeg = v61 at hv ⊢
  obtain ⟨fs, c, hv⟩ := hv
  obtain ⟨fin', hr, hv⟩ := hv
  refine wp_callV (vs := [.int v60, .int v61]) (st := [.int v59]) (fin' := fin') dL_law_458 c rfl k13_48_12 rfl (Nat.le_of_ble_eq_true rfl) (Nat.le_of_ble_eq_true rfl) hr (wp_mono hv ?_)
  intro r h62 hv e1
  replace hv := hv e1
  obtain ⟨v63, rfl, hv⟩ := hv
  change wp _ _ _ _ _ [.int v63, .int v59] _ _ _
  refine wp_icmp_eq 1606 dL_law_461 (by decide) (fun q => ?_) (fun q => ?_)
  · replace hv := hv.1 q
    refine wx_iinc (v := 6) (ls' := [(0, .retAddr sc), (1, .ref a1), (2, .ref a2), (3, .int (x3 + 6))]) dL_law_1606 rfl (by decide) (by decide) rfl ?_
    refine wp_goto 18 dL_law_1609 (by decide) ?_
    exact hv
  · replace hv := hv.2 q
    refine wp_iconst (v := 0) dL_law_464 (by decide) ?_
    obtain ⟨e, hv⟩ := hv
    exact wp_ireturn dL_law_465 rfl (by decide) e hv
theorem vL_law_466 {G : Gp} {d : Nat} {h : AH} {fin : Nat × Nat} {Q : Option Value → AH → Prop} {sc : Nat} {a1 : Nat} {a2 : Nat} {x3 : Int32} (hv : SL G (x3 + (1 : Int32)) (fun v64 => SL G (x3 + (2 : Int32)) (fun v65 => SL G (x3 + (3 : Int32)) (fun v66 => (∃ fs : List Value, h.1 a1 = some (.inr (11, fs)) ∧ ∃ fin' : Nat × Nat, cR h fin' fin ∧ wp G d mX11_answer 0 [(0, .ref a1), (1, .int v64), (2, .int v65), (3, .int v66)] [] h fin' (fun r h67 => h67.2 = fin' → (∃ v68, r = some (.int v68) ∧ SL G (x3 + (1 : Int32)) (fun v69 => SL G (x3 + (2 : Int32)) (fun v70 => SL G (x3 + (3 : Int32)) (fun v71 => (∃ fs : List Value, h67.1 a2 = some (.inr (12, fs)) ∧ ∃ fin' : Nat × Nat, cR h67 fin' fin ∧ wp G d mX12_answer 0 [(0, .ref a2), (1, .int v69), (2, .int v70), (3, .int v71)] [] h67 fin' (fun r h72 => h72.2 = fin' → (∃ v73, r = some (.int v73) ∧ ((v68 = v73 → wp G (d + 1) mL_law 18 [(0, .retAddr sc), (1, .ref a1), (2, .ref a2), (3, .int (x3 + 6))] [] h72 fin Q) ∧ (¬ v68 = v73 → (h72.2 = fin ∧ Q (some (.int (0 : Int32))) h72)))))))))))))))) : wp G (d + 1) mL_law 466 [(0, .retAddr sc), (1, .ref a1), (2, .ref a2), (3, .int x3)] [] h fin Q := by
  refine wp_aload_n (i := 1) dL_law_466 rfl rfl ?_
  refine wp_aload_nS (i := 0) dL_law_467 rfl rfl ?_
  refine wp_iload_n (i := 3) dL_law_468 rfl rfl ?_
  refine wp_iconst (v := 1) dL_law_469 (by decide) ?_
  refine wp_iadd dL_law_470 ?_
  obtain ⟨q, hv⟩ := hv
  refine wp_sld dL_law_471 q ?_
  generalize gx G ((x3 + (1 : Int32))).toNatClampNeg = v64 at hv ⊢
  refine wp_aload_nS (i := 0) dL_law_472 rfl rfl ?_
  refine wp_iload_n (i := 3) dL_law_473 rfl rfl ?_
  refine wp_iconst (v := 2) dL_law_474 (by decide) ?_
  refine wp_iadd dL_law_475 ?_
  obtain ⟨q, hv⟩ := hv
  refine wp_sld dL_law_476 q ?_
  generalize gx G ((x3 + (2 : Int32))).toNatClampNeg = v65 at hv ⊢
  refine wp_aload_nS (i := 0) dL_law_477 rfl rfl ?_
  refine wp_iload_n (i := 3) dL_law_478 rfl rfl ?_
  refine wp_iconst (v := 3) dL_law_479 (by decide) ?_
  refine wp_iadd dL_law_480 ?_
  obtain ⟨q, hv⟩ := hv
  refine wp_sld dL_law_481 q ?_
  generalize gx G ((x3 + (3 : Int32))).toNatClampNeg = v66 at hv ⊢
  obtain ⟨fs, c, hv⟩ := hv
  obtain ⟨fin', hr, hv⟩ := hv
  refine wp_callV (vs := [.int v64, .int v65, .int v66]) (st := []) (fin' := fin') dL_law_482 c rfl k13_49_11 rfl (Nat.le_of_ble_eq_true rfl) (Nat.le_of_ble_eq_true rfl) hr (wp_mono hv ?_)
  intro r h67 hv e1
  replace hv := hv e1
  obtain ⟨v68, rfl, hv⟩ := hv
  change wp _ _ _ _ _ [.int v68] _ _ _
  refine wp_aload_n (i := 2) dL_law_485 rfl rfl ?_
  refine wp_aload_nS (i := 0) dL_law_486 rfl rfl ?_
  refine wp_iload_n (i := 3) dL_law_487 rfl rfl ?_
  refine wp_iconst (v := 1) dL_law_488 (by decide) ?_
  refine wp_iadd dL_law_489 ?_
  obtain ⟨q, hv⟩ := hv
  refine wp_sld dL_law_490 q ?_
  generalize gx G ((x3 + (1 : Int32))).toNatClampNeg = v69 at hv ⊢
  refine wp_aload_nS (i := 0) dL_law_491 rfl rfl ?_
  refine wp_iload_n (i := 3) dL_law_492 rfl rfl ?_
  refine wp_iconst (v := 2) dL_law_493 (by decide) ?_
  refine wp_iadd dL_law_494 ?_
  obtain ⟨q, hv⟩ := hv
  refine wp_sld dL_law_495 q ?_
  generalize gx G ((x3 + (2 : Int32))).toNatClampNeg = v70 at hv ⊢
  refine wp_aload_nS (i := 0) dL_law_496 rfl rfl ?_
  refine wp_iload_n (i := 3) dL_law_497 rfl rfl ?_
  refine wp_iconst (v := 3) dL_law_498 (by decide) ?_
  refine wp_iadd dL_law_499 ?_
  obtain ⟨q, hv⟩ := hv
  refine wp_sld dL_law_500 q ?_
  generalize gx G ((x3 + (3 : Int32))).toNatClampNeg = v71 at hv ⊢
  obtain ⟨fs, c, hv⟩ := hv
  obtain ⟨fin', hr, hv⟩ := hv
  refine wp_callV (vs := [.int v69, .int v70, .int v71]) (st := [.int v68]) (fin' := fin') dL_law_501 c rfl k13_53_12 rfl (Nat.le_of_ble_eq_true rfl) (Nat.le_of_ble_eq_true rfl) hr (wp_mono hv ?_)
  intro r h72 hv e1
  replace hv := hv e1
  obtain ⟨v73, rfl, hv⟩ := hv
  change wp _ _ _ _ _ [.int v73, .int v68] _ _ _
  refine wp_icmp_eq 1606 dL_law_504 (by decide) (fun q => ?_) (fun q => ?_)
  · replace hv := hv.1 q
    refine wx_iinc (v := 6) (ls' := [(0, .retAddr sc), (1, .ref a1), (2, .ref a2), (3, .int (x3 + 6))]) dL_law_1606 rfl (by decide) (by decide) rfl ?_
    refine wp_goto 18 dL_law_1609 (by decide) ?_
    exact hv
  · replace hv := hv.2 q
    refine wp_iconst (v := 0) dL_law_507 (by decide) ?_
    obtain ⟨e, hv⟩ := hv
    exact wp_ireturn dL_law_508 rfl (by decide) e hv
theorem vL_law_509 {G : Gp} {d : Nat} {h : AH} {fin : Nat × Nat} {Q : Option Value → AH → Prop} {sc : Nat} {a1 : Nat} {a2 : Nat} {x3 : Int32} (hv : SL G (x3 + (1 : Int32)) (fun v74 => SL G (x3 + (2 : Int32)) (fun v75 => (∃ fs : List Value, h.1 a1 = some (.inr (11, fs)) ∧ ∃ fin' : Nat × Nat, cR h fin' fin ∧ wp G d mX11_stone 0 [(0, .ref a1), (1, .int v74), (2, .int v75)] [] h fin' (fun r h76 => h76.2 = fin' → (∃ v77, r = some (.int v77) ∧ SL G (x3 + (1 : Int32)) (fun v78 => SL G (x3 + (2 : Int32)) (fun v79 => (∃ fs : List Value, h76.1 a2 = some (.inr (12, fs)) ∧ ∃ fin' : Nat × Nat, cR h76 fin' fin ∧ wp G d mX12_stone 0 [(0, .ref a2), (1, .int v78), (2, .int v79)] [] h76 fin' (fun r h80 => h80.2 = fin' → (∃ v81, r = some (.int v81) ∧ ((v77 = v81 → wp G (d + 1) mL_law 18 [(0, .retAddr sc), (1, .ref a1), (2, .ref a2), (3, .int (x3 + 6))] [] h80 fin Q) ∧ (¬ v77 = v81 → (h80.2 = fin ∧ Q (some (.int (0 : Int32))) h80)))))))))))))) : wp G (d + 1) mL_law 509 [(0, .retAddr sc), (1, .ref a1), (2, .ref a2), (3, .int x3)] [] h fin Q := by
  refine wp_aload_n (i := 1) dL_law_509 rfl rfl ?_
  refine wp_aload_nS (i := 0) dL_law_510 rfl rfl ?_
  refine wp_iload_n (i := 3) dL_law_511 rfl rfl ?_
  refine wp_iconst (v := 1) dL_law_512 (by decide) ?_
  refine wp_iadd dL_law_513 ?_
  obtain ⟨q, hv⟩ := hv
  refine wp_sld dL_law_514 q ?_
  generalize gx G ((x3 + (1 : Int32))).toNatClampNeg = v74 at hv ⊢
  refine wp_aload_nS (i := 0) dL_law_515 rfl rfl ?_
  refine wp_iload_n (i := 3) dL_law_516 rfl rfl ?_
  refine wp_iconst (v := 2) dL_law_517 (by decide) ?_
  refine wp_iadd dL_law_518 ?_
  obtain ⟨q, hv⟩ := hv
  refine wp_sld dL_law_519 q ?_
  generalize gx G ((x3 + (2 : Int32))).toNatClampNeg = v75 at hv ⊢
  obtain ⟨fs, c, hv⟩ := hv
  obtain ⟨fin', hr, hv⟩ := hv
  refine wp_callV (vs := [.int v74, .int v75]) (st := []) (fin' := fin') dL_law_520 c rfl k13_54_11 rfl (Nat.le_of_ble_eq_true rfl) (Nat.le_of_ble_eq_true rfl) hr (wp_mono hv ?_)
  intro r h76 hv e1
  replace hv := hv e1
  obtain ⟨v77, rfl, hv⟩ := hv
  change wp _ _ _ _ _ [.int v77] _ _ _
  refine wp_aload_n (i := 2) dL_law_523 rfl rfl ?_
  refine wp_aload_nS (i := 0) dL_law_524 rfl rfl ?_
  refine wp_iload_n (i := 3) dL_law_525 rfl rfl ?_
  refine wp_iconst (v := 1) dL_law_526 (by decide) ?_
  refine wp_iadd dL_law_527 ?_
  obtain ⟨q, hv⟩ := hv
  refine wp_sld dL_law_528 q ?_
  generalize gx G ((x3 + (1 : Int32))).toNatClampNeg = v78 at hv ⊢
  refine wp_aload_nS (i := 0) dL_law_529 rfl rfl ?_
  refine wp_iload_n (i := 3) dL_law_530 rfl rfl ?_
  refine wp_iconst (v := 2) dL_law_531 (by decide) ?_
  refine wp_iadd dL_law_532 ?_
  obtain ⟨q, hv⟩ := hv
  refine wp_sld dL_law_533 q ?_
  generalize gx G ((x3 + (2 : Int32))).toNatClampNeg = v79 at hv ⊢
  obtain ⟨fs, c, hv⟩ := hv
  obtain ⟨fin', hr, hv⟩ := hv
  refine wp_callV (vs := [.int v78, .int v79]) (st := [.int v77]) (fin' := fin') dL_law_534 c rfl k13_57_12 rfl (Nat.le_of_ble_eq_true rfl) (Nat.le_of_ble_eq_true rfl) hr (wp_mono hv ?_)
  intro r h80 hv e1
  replace hv := hv e1
  obtain ⟨v81, rfl, hv⟩ := hv
  change wp _ _ _ _ _ [.int v81, .int v77] _ _ _
  refine wp_icmp_eq 1606 dL_law_537 (by decide) (fun q => ?_) (fun q => ?_)
  · replace hv := hv.1 q
    refine wx_iinc (v := 6) (ls' := [(0, .retAddr sc), (1, .ref a1), (2, .ref a2), (3, .int (x3 + 6))]) dL_law_1606 rfl (by decide) (by decide) rfl ?_
    refine wp_goto 18 dL_law_1609 (by decide) ?_
    exact hv
  · replace hv := hv.2 q
    refine wp_iconst (v := 0) dL_law_540 (by decide) ?_
    obtain ⟨e, hv⟩ := hv
    exact wp_ireturn dL_law_541 rfl (by decide) e hv
theorem vL_law_542 {G : Gp} {d : Nat} {h : AH} {fin : Nat × Nat} {Q : Option Value → AH → Prop} {sc : Nat} {a1 : Nat} {a2 : Nat} {x3 : Int32} (hv : SL G (x3 + (1 : Int32)) (fun v82 => SL G (x3 + (2 : Int32)) (fun v83 => (∃ fs : List Value, h.1 a1 = some (.inr (11, fs)) ∧ ∃ fin' : Nat × Nat, cR h fin' fin ∧ wp G d mX11_ofStone 0 [(0, .ref a1), (1, .int v82), (2, .int v83)] [] h fin' (fun r h84 => h84.2 = fin' → (∃ v85, r = some (.int v85) ∧ SL G (x3 + (1 : Int32)) (fun v86 => SL G (x3 + (2 : Int32)) (fun v87 => (∃ fs : List Value, h84.1 a2 = some (.inr (12, fs)) ∧ ∃ fin' : Nat × Nat, cR h84 fin' fin ∧ wp G d mX12_ofStone 0 [(0, .ref a2), (1, .int v86), (2, .int v87)] [] h84 fin' (fun r h88 => h88.2 = fin' → (∃ v89, r = some (.int v89) ∧ ((v85 = v89 → wp G (d + 1) mL_law 18 [(0, .retAddr sc), (1, .ref a1), (2, .ref a2), (3, .int (x3 + 6))] [] h88 fin Q) ∧ (¬ v85 = v89 → (h88.2 = fin ∧ Q (some (.int (0 : Int32))) h88)))))))))))))) : wp G (d + 1) mL_law 542 [(0, .retAddr sc), (1, .ref a1), (2, .ref a2), (3, .int x3)] [] h fin Q := by
  refine wp_aload_n (i := 1) dL_law_542 rfl rfl ?_
  refine wp_aload_nS (i := 0) dL_law_543 rfl rfl ?_
  refine wp_iload_n (i := 3) dL_law_544 rfl rfl ?_
  refine wp_iconst (v := 1) dL_law_545 (by decide) ?_
  refine wp_iadd dL_law_546 ?_
  obtain ⟨q, hv⟩ := hv
  refine wp_sld dL_law_547 q ?_
  generalize gx G ((x3 + (1 : Int32))).toNatClampNeg = v82 at hv ⊢
  refine wp_aload_nS (i := 0) dL_law_548 rfl rfl ?_
  refine wp_iload_n (i := 3) dL_law_549 rfl rfl ?_
  refine wp_iconst (v := 2) dL_law_550 (by decide) ?_
  refine wp_iadd dL_law_551 ?_
  obtain ⟨q, hv⟩ := hv
  refine wp_sld dL_law_552 q ?_
  generalize gx G ((x3 + (2 : Int32))).toNatClampNeg = v83 at hv ⊢
  obtain ⟨fs, c, hv⟩ := hv
  obtain ⟨fin', hr, hv⟩ := hv
  refine wp_callV (vs := [.int v82, .int v83]) (st := []) (fin' := fin') dL_law_553 c rfl k13_58_11 rfl (Nat.le_of_ble_eq_true rfl) (Nat.le_of_ble_eq_true rfl) hr (wp_mono hv ?_)
  intro r h84 hv e1
  replace hv := hv e1
  obtain ⟨v85, rfl, hv⟩ := hv
  change wp _ _ _ _ _ [.int v85] _ _ _
  refine wp_aload_n (i := 2) dL_law_556 rfl rfl ?_
  refine wp_aload_nS (i := 0) dL_law_557 rfl rfl ?_
  refine wp_iload_n (i := 3) dL_law_558 rfl rfl ?_
  refine wp_iconst (v := 1) dL_law_559 (by decide) ?_
  refine wp_iadd dL_law_560 ?_
  obtain ⟨q, hv⟩ := hv
  refine wp_sld dL_law_561 q ?_
  generalize gx G ((x3 + (1 : Int32))).toNatClampNeg = v86 at hv ⊢
  refine wp_aload_nS (i := 0) dL_law_562 rfl rfl ?_
  refine wp_iload_n (i := 3) dL_law_563 rfl rfl ?_
  refine wp_iconst (v := 2) dL_law_564 (by decide) ?_
  refine wp_iadd dL_law_565 ?_
  obtain ⟨q, hv⟩ := hv
  refine wp_sld dL_law_566 q ?_
  generalize gx G ((x3 + (2 : Int32))).toNatClampNeg = v87 at hv ⊢
  obtain ⟨fs, c, hv⟩ := hv
  obtain ⟨fin', hr, hv⟩ := hv
  refine wp_callV (vs := [.int v86, .int v87]) (st := [.int v85]) (fin' := fin') dL_law_567 c rfl k13_61_12 rfl (Nat.le_of_ble_eq_true rfl) (Nat.le_of_ble_eq_true rfl) hr (wp_mono hv ?_)
  intro r h88 hv e1
  replace hv := hv e1
  obtain ⟨v89, rfl, hv⟩ := hv
  change wp _ _ _ _ _ [.int v89, .int v85] _ _ _
  refine wp_icmp_eq 1606 dL_law_570 (by decide) (fun q => ?_) (fun q => ?_)
  · replace hv := hv.1 q
    refine wx_iinc (v := 6) (ls' := [(0, .retAddr sc), (1, .ref a1), (2, .ref a2), (3, .int (x3 + 6))]) dL_law_1606 rfl (by decide) (by decide) rfl ?_
    refine wp_goto 18 dL_law_1609 (by decide) ?_
    exact hv
  · replace hv := hv.2 q
    refine wp_iconst (v := 0) dL_law_573 (by decide) ?_
    obtain ⟨e, hv⟩ := hv
    exact wp_ireturn dL_law_574 rfl (by decide) e hv
theorem vL_law_575 {G : Gp} {d : Nat} {h : AH} {fin : Nat × Nat} {Q : Option Value → AH → Prop} {sc : Nat} {a1 : Nat} {a2 : Nat} {x3 : Int32} (hv : SL G (x3 + (1 : Int32)) (fun v90 => SL G (x3 + (2 : Int32)) (fun v91 => (∃ fs : List Value, h.1 a1 = some (.inr (11, fs)) ∧ ∃ fin' : Nat × Nat, cR h fin' fin ∧ wp G d mX11_nameAt 0 [(0, .ref a1), (1, .int v90), (2, .int v91)] [] h fin' (fun r h92 => h92.2 = fin' → (∃ v93, r = some (.int v93) ∧ SL G (x3 + (1 : Int32)) (fun v94 => SL G (x3 + (2 : Int32)) (fun v95 => (∃ fs : List Value, h92.1 a2 = some (.inr (12, fs)) ∧ ∃ fin' : Nat × Nat, cR h92 fin' fin ∧ wp G d mX12_nameAt 0 [(0, .ref a2), (1, .int v94), (2, .int v95)] [] h92 fin' (fun r h96 => h96.2 = fin' → (∃ v97, r = some (.int v97) ∧ ((v93 = v97 → wp G (d + 1) mL_law 18 [(0, .retAddr sc), (1, .ref a1), (2, .ref a2), (3, .int (x3 + 6))] [] h96 fin Q) ∧ (¬ v93 = v97 → (h96.2 = fin ∧ Q (some (.int (0 : Int32))) h96)))))))))))))) : wp G (d + 1) mL_law 575 [(0, .retAddr sc), (1, .ref a1), (2, .ref a2), (3, .int x3)] [] h fin Q := by
  refine wp_aload_n (i := 1) dL_law_575 rfl rfl ?_
  refine wp_aload_nS (i := 0) dL_law_576 rfl rfl ?_
  refine wp_iload_n (i := 3) dL_law_577 rfl rfl ?_
  refine wp_iconst (v := 1) dL_law_578 (by decide) ?_
  refine wp_iadd dL_law_579 ?_
  obtain ⟨q, hv⟩ := hv
  refine wp_sld dL_law_580 q ?_
  generalize gx G ((x3 + (1 : Int32))).toNatClampNeg = v90 at hv ⊢
  refine wp_aload_nS (i := 0) dL_law_581 rfl rfl ?_
  refine wp_iload_n (i := 3) dL_law_582 rfl rfl ?_
  refine wp_iconst (v := 2) dL_law_583 (by decide) ?_
  refine wp_iadd dL_law_584 ?_
  obtain ⟨q, hv⟩ := hv
  refine wp_sld dL_law_585 q ?_
  generalize gx G ((x3 + (2 : Int32))).toNatClampNeg = v91 at hv ⊢
  obtain ⟨fs, c, hv⟩ := hv
  obtain ⟨fin', hr, hv⟩ := hv
  refine wp_callV (vs := [.int v90, .int v91]) (st := []) (fin' := fin') dL_law_586 c rfl k13_62_11 rfl (Nat.le_of_ble_eq_true rfl) (Nat.le_of_ble_eq_true rfl) hr (wp_mono hv ?_)
  intro r h92 hv e1
  replace hv := hv e1
  obtain ⟨v93, rfl, hv⟩ := hv
  change wp _ _ _ _ _ [.int v93] _ _ _
  refine wp_aload_n (i := 2) dL_law_589 rfl rfl ?_
  refine wp_aload_nS (i := 0) dL_law_590 rfl rfl ?_
  refine wp_iload_n (i := 3) dL_law_591 rfl rfl ?_
  refine wp_iconst (v := 1) dL_law_592 (by decide) ?_
  refine wp_iadd dL_law_593 ?_
  obtain ⟨q, hv⟩ := hv
  refine wp_sld dL_law_594 q ?_
  generalize gx G ((x3 + (1 : Int32))).toNatClampNeg = v94 at hv ⊢
  refine wp_aload_nS (i := 0) dL_law_595 rfl rfl ?_
  refine wp_iload_n (i := 3) dL_law_596 rfl rfl ?_
  refine wp_iconst (v := 2) dL_law_597 (by decide) ?_
  refine wp_iadd dL_law_598 ?_
  obtain ⟨q, hv⟩ := hv
  refine wp_sld dL_law_599 q ?_
  generalize gx G ((x3 + (2 : Int32))).toNatClampNeg = v95 at hv ⊢
  obtain ⟨fs, c, hv⟩ := hv
  obtain ⟨fin', hr, hv⟩ := hv
  refine wp_callV (vs := [.int v94, .int v95]) (st := [.int v93]) (fin' := fin') dL_law_600 c rfl k13_65_12 rfl (Nat.le_of_ble_eq_true rfl) (Nat.le_of_ble_eq_true rfl) hr (wp_mono hv ?_)
  intro r h96 hv e1
  replace hv := hv e1
  obtain ⟨v97, rfl, hv⟩ := hv
  change wp _ _ _ _ _ [.int v97, .int v93] _ _ _
  refine wp_icmp_eq 1606 dL_law_603 (by decide) (fun q => ?_) (fun q => ?_)
  · replace hv := hv.1 q
    refine wx_iinc (v := 6) (ls' := [(0, .retAddr sc), (1, .ref a1), (2, .ref a2), (3, .int (x3 + 6))]) dL_law_1606 rfl (by decide) (by decide) rfl ?_
    refine wp_goto 18 dL_law_1609 (by decide) ?_
    exact hv
  · replace hv := hv.2 q
    refine wp_iconst (v := 0) dL_law_606 (by decide) ?_
    obtain ⟨e, hv⟩ := hv
    exact wp_ireturn dL_law_607 rfl (by decide) e hv
theorem vL_law_608 {G : Gp} {d : Nat} {h : AH} {fin : Nat × Nat} {Q : Option Value → AH → Prop} {sc : Nat} {a1 : Nat} {a2 : Nat} {x3 : Int32} (hv : SL G (x3 + (1 : Int32)) (fun v98 => SL G (x3 + (2 : Int32)) (fun v99 => SL G (x3 + (3 : Int32)) (fun v100 => SL G (x3 + (4 : Int32)) (fun v101 => (∃ fs : List Value, h.1 a1 = some (.inr (11, fs)) ∧ ∃ fin' : Nat × Nat, cR h fin' fin ∧ wp G d mX11_through 0 [(0, .ref a1), (1, .int v98), (2, .int v99), (3, .int v100), (4, .int v101)] [] h fin' (fun r h102 => h102.2 = fin' → (∃ v103, r = some (.int v103) ∧ SL G (x3 + (1 : Int32)) (fun v104 => SL G (x3 + (2 : Int32)) (fun v105 => SL G (x3 + (3 : Int32)) (fun v106 => SL G (x3 + (4 : Int32)) (fun v107 => (∃ fs : List Value, h102.1 a2 = some (.inr (12, fs)) ∧ ∃ fin' : Nat × Nat, cR h102 fin' fin ∧ wp G d mX12_through 0 [(0, .ref a2), (1, .int v104), (2, .int v105), (3, .int v106), (4, .int v107)] [] h102 fin' (fun r h108 => h108.2 = fin' → (∃ v109, r = some (.int v109) ∧ ((v103 = v109 → wp G (d + 1) mL_law 18 [(0, .retAddr sc), (1, .ref a1), (2, .ref a2), (3, .int (x3 + 6))] [] h108 fin Q) ∧ (¬ v103 = v109 → (h108.2 = fin ∧ Q (some (.int (0 : Int32))) h108)))))))))))))))))) : wp G (d + 1) mL_law 608 [(0, .retAddr sc), (1, .ref a1), (2, .ref a2), (3, .int x3)] [] h fin Q := by
  refine wp_aload_n (i := 1) dL_law_608 rfl rfl ?_
  refine wp_aload_nS (i := 0) dL_law_609 rfl rfl ?_
  refine wp_iload_n (i := 3) dL_law_610 rfl rfl ?_
  refine wp_iconst (v := 1) dL_law_611 (by decide) ?_
  refine wp_iadd dL_law_612 ?_
  obtain ⟨q, hv⟩ := hv
  refine wp_sld dL_law_613 q ?_
  generalize gx G ((x3 + (1 : Int32))).toNatClampNeg = v98 at hv ⊢
  refine wp_aload_nS (i := 0) dL_law_614 rfl rfl ?_
  refine wp_iload_n (i := 3) dL_law_615 rfl rfl ?_
  refine wp_iconst (v := 2) dL_law_616 (by decide) ?_
  refine wp_iadd dL_law_617 ?_
  obtain ⟨q, hv⟩ := hv
  refine wp_sld dL_law_618 q ?_
  generalize gx G ((x3 + (2 : Int32))).toNatClampNeg = v99 at hv ⊢
  refine wp_aload_nS (i := 0) dL_law_619 rfl rfl ?_
  refine wp_iload_n (i := 3) dL_law_620 rfl rfl ?_
  refine wp_iconst (v := 3) dL_law_621 (by decide) ?_
  refine wp_iadd dL_law_622 ?_
  obtain ⟨q, hv⟩ := hv
  refine wp_sld dL_law_623 q ?_
  generalize gx G ((x3 + (3 : Int32))).toNatClampNeg = v100 at hv ⊢
  refine wp_aload_nS (i := 0) dL_law_624 rfl rfl ?_
  refine wp_iload_n (i := 3) dL_law_625 rfl rfl ?_
  refine wp_iconst (v := 4) dL_law_626 (by decide) ?_
  refine wp_iadd dL_law_627 ?_
  obtain ⟨q, hv⟩ := hv
  refine wp_sld dL_law_628 q ?_
  generalize gx G ((x3 + (4 : Int32))).toNatClampNeg = v101 at hv ⊢
  obtain ⟨fs, c, hv⟩ := hv
  obtain ⟨fin', hr, hv⟩ := hv
  refine wp_callV (vs := [.int v98, .int v99, .int v100, .int v101]) (st := []) (fin' := fin') dL_law_629 c rfl k13_66_11 rfl (Nat.le_of_ble_eq_true rfl) (Nat.le_of_ble_eq_true rfl) hr (wp_mono hv ?_)
  intro r h102 hv e1
  replace hv := hv e1
  obtain ⟨v103, rfl, hv⟩ := hv
  change wp _ _ _ _ _ [.int v103] _ _ _
  refine wp_aload_n (i := 2) dL_law_632 rfl rfl ?_
  refine wp_aload_nS (i := 0) dL_law_633 rfl rfl ?_
  refine wp_iload_n (i := 3) dL_law_634 rfl rfl ?_
  refine wp_iconst (v := 1) dL_law_635 (by decide) ?_
  refine wp_iadd dL_law_636 ?_
  obtain ⟨q, hv⟩ := hv
  refine wp_sld dL_law_637 q ?_
  generalize gx G ((x3 + (1 : Int32))).toNatClampNeg = v104 at hv ⊢
  refine wp_aload_nS (i := 0) dL_law_638 rfl rfl ?_
  refine wp_iload_n (i := 3) dL_law_639 rfl rfl ?_
  refine wp_iconst (v := 2) dL_law_640 (by decide) ?_
  refine wp_iadd dL_law_641 ?_
  obtain ⟨q, hv⟩ := hv
  refine wp_sld dL_law_642 q ?_
  generalize gx G ((x3 + (2 : Int32))).toNatClampNeg = v105 at hv ⊢
  refine wp_aload_nS (i := 0) dL_law_643 rfl rfl ?_
  refine wp_iload_n (i := 3) dL_law_644 rfl rfl ?_
  refine wp_iconst (v := 3) dL_law_645 (by decide) ?_
  refine wp_iadd dL_law_646 ?_
  obtain ⟨q, hv⟩ := hv
  refine wp_sld dL_law_647 q ?_
  generalize gx G ((x3 + (3 : Int32))).toNatClampNeg = v106 at hv ⊢
  refine wp_aload_nS (i := 0) dL_law_648 rfl rfl ?_
  refine wp_iload_n (i := 3) dL_law_649 rfl rfl ?_
  refine wp_iconst (v := 4) dL_law_650 (by decide) ?_
  refine wp_iadd dL_law_651 ?_
  obtain ⟨q, hv⟩ := hv
  refine wp_sld dL_law_652 q ?_
  generalize gx G ((x3 + (4 : Int32))).toNatClampNeg = v107 at hv ⊢
  obtain ⟨fs, c, hv⟩ := hv
  obtain ⟨fin', hr, hv⟩ := hv
  refine wp_callV (vs := [.int v104, .int v105, .int v106, .int v107]) (st := [.int v103]) (fin' := fin') dL_law_653 c rfl k13_69_12 rfl (Nat.le_of_ble_eq_true rfl) (Nat.le_of_ble_eq_true rfl) hr (wp_mono hv ?_)
  intro r h108 hv e1
  replace hv := hv e1
  obtain ⟨v109, rfl, hv⟩ := hv
  change wp _ _ _ _ _ [.int v109, .int v103] _ _ _
  refine wp_icmp_eq 1606 dL_law_656 (by decide) (fun q => ?_) (fun q => ?_)
  · replace hv := hv.1 q
    refine wx_iinc (v := 6) (ls' := [(0, .retAddr sc), (1, .ref a1), (2, .ref a2), (3, .int (x3 + 6))]) dL_law_1606 rfl (by decide) (by decide) rfl ?_
    refine wp_goto 18 dL_law_1609 (by decide) ?_
    exact hv
  · replace hv := hv.2 q
    refine wp_iconst (v := 0) dL_law_659 (by decide) ?_
    obtain ⟨e, hv⟩ := hv
    exact wp_ireturn dL_law_660 rfl (by decide) e hv
theorem vL_law_661 {G : Gp} {d : Nat} {h : AH} {fin : Nat × Nat} {Q : Option Value → AH → Prop} {sc : Nat} {a1 : Nat} {a2 : Nat} {x3 : Int32} (hv : (∃ fs : List Value, h.1 a1 = some (.inr (11, fs)) ∧ ∃ fin' : Nat × Nat, cR h fin' fin ∧ wp G d mX11_looks 0 [(0, .ref a1)] [] h fin' (fun r h110 => h110.2 = fin' → (∃ v111, r = some (.int v111) ∧ (∃ fs : List Value, h110.1 a2 = some (.inr (12, fs)) ∧ ∃ fin' : Nat × Nat, cR h110 fin' fin ∧ wp G d mX12_looks 0 [(0, .ref a2)] [] h110 fin' (fun r h112 => h112.2 = fin' → (∃ v113, r = some (.int v113) ∧ ((v111 = v113 → wp G (d + 1) mL_law 18 [(0, .retAddr sc), (1, .ref a1), (2, .ref a2), (3, .int (x3 + 6))] [] h112 fin Q) ∧ (¬ v111 = v113 → (h112.2 = fin ∧ Q (some (.int (0 : Int32))) h112)))))))))) : wp G (d + 1) mL_law 661 [(0, .retAddr sc), (1, .ref a1), (2, .ref a2), (3, .int x3)] [] h fin Q := by
  refine wp_aload_n (i := 1) dL_law_661 rfl rfl ?_
  obtain ⟨fs, c, hv⟩ := hv
  obtain ⟨fin', hr, hv⟩ := hv
  refine wp_callV (vs := []) (st := []) (fin' := fin') dL_law_662 c rfl k13_70_11 rfl (Nat.le_of_ble_eq_true rfl) (Nat.le_of_ble_eq_true rfl) hr (wp_mono hv ?_)
  intro r h110 hv e1
  replace hv := hv e1
  obtain ⟨v111, rfl, hv⟩ := hv
  change wp _ _ _ _ _ [.int v111] _ _ _
  refine wp_aload_n (i := 2) dL_law_665 rfl rfl ?_
  obtain ⟨fs, c, hv⟩ := hv
  obtain ⟨fin', hr, hv⟩ := hv
  refine wp_callV (vs := []) (st := [.int v111]) (fin' := fin') dL_law_666 c rfl k13_73_12 rfl (Nat.le_of_ble_eq_true rfl) (Nat.le_of_ble_eq_true rfl) hr (wp_mono hv ?_)
  intro r h112 hv e1
  replace hv := hv e1
  obtain ⟨v113, rfl, hv⟩ := hv
  change wp _ _ _ _ _ [.int v113, .int v111] _ _ _
  refine wp_icmp_eq 1606 dL_law_669 (by decide) (fun q => ?_) (fun q => ?_)
  · replace hv := hv.1 q
    refine wx_iinc (v := 6) (ls' := [(0, .retAddr sc), (1, .ref a1), (2, .ref a2), (3, .int (x3 + 6))]) dL_law_1606 rfl (by decide) (by decide) rfl ?_
    refine wp_goto 18 dL_law_1609 (by decide) ?_
    exact hv
  · replace hv := hv.2 q
    refine wp_iconst (v := 0) dL_law_672 (by decide) ?_
    obtain ⟨e, hv⟩ := hv
    exact wp_ireturn dL_law_673 rfl (by decide) e hv
theorem vL_law_674 {G : Gp} {d : Nat} {h : AH} {fin : Nat × Nat} {Q : Option Value → AH → Prop} {sc : Nat} {a1 : Nat} {a2 : Nat} {x3 : Int32} (hv : SL G (x3 + (1 : Int32)) (fun v114 => SL G (x3 + (2 : Int32)) (fun v115 => SL G (x3 + (3 : Int32)) (fun v116 => (∃ fs : List Value, h.1 a1 = some (.inr (11, fs)) ∧ ∃ fin' : Nat × Nat, cR h fin' fin ∧ wp G d mX11_firstUnlike 0 [(0, .ref a1), (1, .int v114), (2, .int v115), (3, .int v116)] [] h fin' (fun r h117 => h117.2 = fin' → (∃ v118, r = some (.int v118) ∧ SL G (x3 + (1 : Int32)) (fun v119 => SL G (x3 + (2 : Int32)) (fun v120 => SL G (x3 + (3 : Int32)) (fun v121 => (∃ fs : List Value, h117.1 a2 = some (.inr (12, fs)) ∧ ∃ fin' : Nat × Nat, cR h117 fin' fin ∧ wp G d mX12_firstUnlike 0 [(0, .ref a2), (1, .int v119), (2, .int v120), (3, .int v121)] [] h117 fin' (fun r h122 => h122.2 = fin' → (∃ v123, r = some (.int v123) ∧ ((v118 = v123 → wp G (d + 1) mL_law 18 [(0, .retAddr sc), (1, .ref a1), (2, .ref a2), (3, .int (x3 + 6))] [] h122 fin Q) ∧ (¬ v118 = v123 → (h122.2 = fin ∧ Q (some (.int (0 : Int32))) h122)))))))))))))))) : wp G (d + 1) mL_law 674 [(0, .retAddr sc), (1, .ref a1), (2, .ref a2), (3, .int x3)] [] h fin Q := by
  refine wp_aload_n (i := 1) dL_law_674 rfl rfl ?_
  refine wp_aload_nS (i := 0) dL_law_675 rfl rfl ?_
  refine wp_iload_n (i := 3) dL_law_676 rfl rfl ?_
  refine wp_iconst (v := 1) dL_law_677 (by decide) ?_
  refine wp_iadd dL_law_678 ?_
  obtain ⟨q, hv⟩ := hv
  refine wp_sld dL_law_679 q ?_
  generalize gx G ((x3 + (1 : Int32))).toNatClampNeg = v114 at hv ⊢
  refine wp_aload_nS (i := 0) dL_law_680 rfl rfl ?_
  refine wp_iload_n (i := 3) dL_law_681 rfl rfl ?_
  refine wp_iconst (v := 2) dL_law_682 (by decide) ?_
  refine wp_iadd dL_law_683 ?_
  obtain ⟨q, hv⟩ := hv
  refine wp_sld dL_law_684 q ?_
  generalize gx G ((x3 + (2 : Int32))).toNatClampNeg = v115 at hv ⊢
  refine wp_aload_nS (i := 0) dL_law_685 rfl rfl ?_
  refine wp_iload_n (i := 3) dL_law_686 rfl rfl ?_
  refine wp_iconst (v := 3) dL_law_687 (by decide) ?_
  refine wp_iadd dL_law_688 ?_
  obtain ⟨q, hv⟩ := hv
  refine wp_sld dL_law_689 q ?_
  generalize gx G ((x3 + (3 : Int32))).toNatClampNeg = v116 at hv ⊢
  obtain ⟨fs, c, hv⟩ := hv
  obtain ⟨fin', hr, hv⟩ := hv
  refine wp_callV (vs := [.int v114, .int v115, .int v116]) (st := []) (fin' := fin') dL_law_690 c rfl k13_74_11 rfl (Nat.le_of_ble_eq_true rfl) (Nat.le_of_ble_eq_true rfl) hr (wp_mono hv ?_)
  intro r h117 hv e1
  replace hv := hv e1
  obtain ⟨v118, rfl, hv⟩ := hv
  change wp _ _ _ _ _ [.int v118] _ _ _
  refine wp_aload_n (i := 2) dL_law_693 rfl rfl ?_
  refine wp_aload_nS (i := 0) dL_law_694 rfl rfl ?_
  refine wp_iload_n (i := 3) dL_law_695 rfl rfl ?_
  refine wp_iconst (v := 1) dL_law_696 (by decide) ?_
  refine wp_iadd dL_law_697 ?_
  obtain ⟨q, hv⟩ := hv
  refine wp_sld dL_law_698 q ?_
  generalize gx G ((x3 + (1 : Int32))).toNatClampNeg = v119 at hv ⊢
  refine wp_aload_nS (i := 0) dL_law_699 rfl rfl ?_
  refine wp_iload_n (i := 3) dL_law_700 rfl rfl ?_
  refine wp_iconst (v := 2) dL_law_701 (by decide) ?_
  refine wp_iadd dL_law_702 ?_
  obtain ⟨q, hv⟩ := hv
  refine wp_sld dL_law_703 q ?_
  generalize gx G ((x3 + (2 : Int32))).toNatClampNeg = v120 at hv ⊢
  refine wp_aload_nS (i := 0) dL_law_704 rfl rfl ?_
  refine wp_iload_n (i := 3) dL_law_705 rfl rfl ?_
  refine wp_iconst (v := 3) dL_law_706 (by decide) ?_
  refine wp_iadd dL_law_707 ?_
  obtain ⟨q, hv⟩ := hv
  refine wp_sld dL_law_708 q ?_
  generalize gx G ((x3 + (3 : Int32))).toNatClampNeg = v121 at hv ⊢
  obtain ⟨fs, c, hv⟩ := hv
  obtain ⟨fin', hr, hv⟩ := hv
  refine wp_callV (vs := [.int v119, .int v120, .int v121]) (st := [.int v118]) (fin' := fin') dL_law_709 c rfl k13_77_12 rfl (Nat.le_of_ble_eq_true rfl) (Nat.le_of_ble_eq_true rfl) hr (wp_mono hv ?_)
  intro r h122 hv e1
  replace hv := hv e1
  obtain ⟨v123, rfl, hv⟩ := hv
  change wp _ _ _ _ _ [.int v123, .int v118] _ _ _
  refine wp_icmp_eq 1606 dL_law_712 (by decide) (fun q => ?_) (fun q => ?_)
  · replace hv := hv.1 q
    refine wx_iinc (v := 6) (ls' := [(0, .retAddr sc), (1, .ref a1), (2, .ref a2), (3, .int (x3 + 6))]) dL_law_1606 rfl (by decide) (by decide) rfl ?_
    refine wp_goto 18 dL_law_1609 (by decide) ?_
    exact hv
  · replace hv := hv.2 q
    refine wp_iconst (v := 0) dL_law_715 (by decide) ?_
    obtain ⟨e, hv⟩ := hv
    exact wp_ireturn dL_law_716 rfl (by decide) e hv
theorem vL_law_717 {G : Gp} {d : Nat} {h : AH} {fin : Nat × Nat} {Q : Option Value → AH → Prop} {sc : Nat} {a1 : Nat} {a2 : Nat} {x3 : Int32} (hv : SL G (x3 + (1 : Int32)) (fun v124 => SL G (x3 + (2 : Int32)) (fun v125 => SL G (x3 + (3 : Int32)) (fun v126 => (∃ fs : List Value, h.1 a1 = some (.inr (11, fs)) ∧ ∃ fin' : Nat × Nat, cR h fin' fin ∧ wp G d mX11_price 0 [(0, .ref a1), (1, .int v124), (2, .int v125), (3, .int v126)] [] h fin' (fun r h127 => h127.2 = fin' → (∃ v128, r = some (.int v128) ∧ SL G (x3 + (1 : Int32)) (fun v129 => SL G (x3 + (2 : Int32)) (fun v130 => SL G (x3 + (3 : Int32)) (fun v131 => (∃ fs : List Value, h127.1 a2 = some (.inr (12, fs)) ∧ ∃ fin' : Nat × Nat, cR h127 fin' fin ∧ wp G d mX12_price 0 [(0, .ref a2), (1, .int v129), (2, .int v130), (3, .int v131)] [] h127 fin' (fun r h132 => h132.2 = fin' → (∃ v133, r = some (.int v133) ∧ ((v128 = v133 → wp G (d + 1) mL_law 18 [(0, .retAddr sc), (1, .ref a1), (2, .ref a2), (3, .int (x3 + 6))] [] h132 fin Q) ∧ (¬ v128 = v133 → (h132.2 = fin ∧ Q (some (.int (0 : Int32))) h132)))))))))))))))) : wp G (d + 1) mL_law 717 [(0, .retAddr sc), (1, .ref a1), (2, .ref a2), (3, .int x3)] [] h fin Q := by
  refine wp_aload_n (i := 1) dL_law_717 rfl rfl ?_
  refine wp_aload_nS (i := 0) dL_law_718 rfl rfl ?_
  refine wp_iload_n (i := 3) dL_law_719 rfl rfl ?_
  refine wp_iconst (v := 1) dL_law_720 (by decide) ?_
  refine wp_iadd dL_law_721 ?_
  obtain ⟨q, hv⟩ := hv
  refine wp_sld dL_law_722 q ?_
  generalize gx G ((x3 + (1 : Int32))).toNatClampNeg = v124 at hv ⊢
  refine wp_aload_nS (i := 0) dL_law_723 rfl rfl ?_
  refine wp_iload_n (i := 3) dL_law_724 rfl rfl ?_
  refine wp_iconst (v := 2) dL_law_725 (by decide) ?_
  refine wp_iadd dL_law_726 ?_
  obtain ⟨q, hv⟩ := hv
  refine wp_sld dL_law_727 q ?_
  generalize gx G ((x3 + (2 : Int32))).toNatClampNeg = v125 at hv ⊢
  refine wp_aload_nS (i := 0) dL_law_728 rfl rfl ?_
  refine wp_iload_n (i := 3) dL_law_729 rfl rfl ?_
  refine wp_iconst (v := 3) dL_law_730 (by decide) ?_
  refine wp_iadd dL_law_731 ?_
  obtain ⟨q, hv⟩ := hv
  refine wp_sld dL_law_732 q ?_
  generalize gx G ((x3 + (3 : Int32))).toNatClampNeg = v126 at hv ⊢
  obtain ⟨fs, c, hv⟩ := hv
  obtain ⟨fin', hr, hv⟩ := hv
  refine wp_callV (vs := [.int v124, .int v125, .int v126]) (st := []) (fin' := fin') dL_law_733 c rfl k13_78_11 rfl (Nat.le_of_ble_eq_true rfl) (Nat.le_of_ble_eq_true rfl) hr (wp_mono hv ?_)
  intro r h127 hv e1
  replace hv := hv e1
  obtain ⟨v128, rfl, hv⟩ := hv
  change wp _ _ _ _ _ [.int v128] _ _ _
  refine wp_aload_n (i := 2) dL_law_736 rfl rfl ?_
  refine wp_aload_nS (i := 0) dL_law_737 rfl rfl ?_
  refine wp_iload_n (i := 3) dL_law_738 rfl rfl ?_
  refine wp_iconst (v := 1) dL_law_739 (by decide) ?_
  refine wp_iadd dL_law_740 ?_
  obtain ⟨q, hv⟩ := hv
  refine wp_sld dL_law_741 q ?_
  generalize gx G ((x3 + (1 : Int32))).toNatClampNeg = v129 at hv ⊢
  refine wp_aload_nS (i := 0) dL_law_742 rfl rfl ?_
  refine wp_iload_n (i := 3) dL_law_743 rfl rfl ?_
  refine wp_iconst (v := 2) dL_law_744 (by decide) ?_
  refine wp_iadd dL_law_745 ?_
  obtain ⟨q, hv⟩ := hv
  refine wp_sld dL_law_746 q ?_
  generalize gx G ((x3 + (2 : Int32))).toNatClampNeg = v130 at hv ⊢
  refine wp_aload_nS (i := 0) dL_law_747 rfl rfl ?_
  refine wp_iload_n (i := 3) dL_law_748 rfl rfl ?_
  refine wp_iconst (v := 3) dL_law_749 (by decide) ?_
  refine wp_iadd dL_law_750 ?_
  obtain ⟨q, hv⟩ := hv
  refine wp_sld dL_law_751 q ?_
  generalize gx G ((x3 + (3 : Int32))).toNatClampNeg = v131 at hv ⊢
  obtain ⟨fs, c, hv⟩ := hv
  obtain ⟨fin', hr, hv⟩ := hv
  refine wp_callV (vs := [.int v129, .int v130, .int v131]) (st := [.int v128]) (fin' := fin') dL_law_752 c rfl k13_81_12 rfl (Nat.le_of_ble_eq_true rfl) (Nat.le_of_ble_eq_true rfl) hr (wp_mono hv ?_)
  intro r h132 hv e1
  replace hv := hv e1
  obtain ⟨v133, rfl, hv⟩ := hv
  change wp _ _ _ _ _ [.int v133, .int v128] _ _ _
  refine wp_icmp_eq 1606 dL_law_755 (by decide) (fun q => ?_) (fun q => ?_)
  · replace hv := hv.1 q
    refine wx_iinc (v := 6) (ls' := [(0, .retAddr sc), (1, .ref a1), (2, .ref a2), (3, .int (x3 + 6))]) dL_law_1606 rfl (by decide) (by decide) rfl ?_
    refine wp_goto 18 dL_law_1609 (by decide) ?_
    exact hv
  · replace hv := hv.2 q
    refine wp_iconst (v := 0) dL_law_758 (by decide) ?_
    obtain ⟨e, hv⟩ := hv
    exact wp_ireturn dL_law_759 rfl (by decide) e hv
theorem vL_law_760 {G : Gp} {d : Nat} {h : AH} {fin : Nat × Nat} {Q : Option Value → AH → Prop} {sc : Nat} {a1 : Nat} {a2 : Nat} {x3 : Int32} (hv : SL G (x3 + (1 : Int32)) (fun v134 => SL G (x3 + (2 : Int32)) (fun v135 => (∃ fs : List Value, h.1 a1 = some (.inr (11, fs)) ∧ ∃ fin' : Nat × Nat, cR h fin' fin ∧ wp G d mX11_putPrice 0 [(0, .ref a1), (1, .int v134), (2, .int v135)] [] h fin' (fun r h136 => h136.2 = fin' → (∃ v137, r = some (.int v137) ∧ SL G (x3 + (1 : Int32)) (fun v138 => SL G (x3 + (2 : Int32)) (fun v139 => (∃ fs : List Value, h136.1 a2 = some (.inr (12, fs)) ∧ ∃ fin' : Nat × Nat, cR h136 fin' fin ∧ wp G d mX12_putPrice 0 [(0, .ref a2), (1, .int v138), (2, .int v139)] [] h136 fin' (fun r h140 => h140.2 = fin' → (∃ v141, r = some (.int v141) ∧ ((v137 = v141 → wp G (d + 1) mL_law 18 [(0, .retAddr sc), (1, .ref a1), (2, .ref a2), (3, .int (x3 + 6))] [] h140 fin Q) ∧ (¬ v137 = v141 → (h140.2 = fin ∧ Q (some (.int (0 : Int32))) h140)))))))))))))) : wp G (d + 1) mL_law 760 [(0, .retAddr sc), (1, .ref a1), (2, .ref a2), (3, .int x3)] [] h fin Q := by
  refine wp_aload_n (i := 1) dL_law_760 rfl rfl ?_
  refine wp_aload_nS (i := 0) dL_law_761 rfl rfl ?_
  refine wp_iload_n (i := 3) dL_law_762 rfl rfl ?_
  refine wp_iconst (v := 1) dL_law_763 (by decide) ?_
  refine wp_iadd dL_law_764 ?_
  obtain ⟨q, hv⟩ := hv
  refine wp_sld dL_law_765 q ?_
  generalize gx G ((x3 + (1 : Int32))).toNatClampNeg = v134 at hv ⊢
  refine wp_aload_nS (i := 0) dL_law_766 rfl rfl ?_
  refine wp_iload_n (i := 3) dL_law_767 rfl rfl ?_
  refine wp_iconst (v := 2) dL_law_768 (by decide) ?_
  refine wp_iadd dL_law_769 ?_
  obtain ⟨q, hv⟩ := hv
  refine wp_sld dL_law_770 q ?_
  generalize gx G ((x3 + (2 : Int32))).toNatClampNeg = v135 at hv ⊢
  obtain ⟨fs, c, hv⟩ := hv
  obtain ⟨fin', hr, hv⟩ := hv
  refine wp_callV (vs := [.int v134, .int v135]) (st := []) (fin' := fin') dL_law_771 c rfl k13_82_11 rfl (Nat.le_of_ble_eq_true rfl) (Nat.le_of_ble_eq_true rfl) hr (wp_mono hv ?_)
  intro r h136 hv e1
  replace hv := hv e1
  obtain ⟨v137, rfl, hv⟩ := hv
  change wp _ _ _ _ _ [.int v137] _ _ _
  refine wp_aload_n (i := 2) dL_law_774 rfl rfl ?_
  refine wp_aload_nS (i := 0) dL_law_775 rfl rfl ?_
  refine wp_iload_n (i := 3) dL_law_776 rfl rfl ?_
  refine wp_iconst (v := 1) dL_law_777 (by decide) ?_
  refine wp_iadd dL_law_778 ?_
  obtain ⟨q, hv⟩ := hv
  refine wp_sld dL_law_779 q ?_
  generalize gx G ((x3 + (1 : Int32))).toNatClampNeg = v138 at hv ⊢
  refine wp_aload_nS (i := 0) dL_law_780 rfl rfl ?_
  refine wp_iload_n (i := 3) dL_law_781 rfl rfl ?_
  refine wp_iconst (v := 2) dL_law_782 (by decide) ?_
  refine wp_iadd dL_law_783 ?_
  obtain ⟨q, hv⟩ := hv
  refine wp_sld dL_law_784 q ?_
  generalize gx G ((x3 + (2 : Int32))).toNatClampNeg = v139 at hv ⊢
  obtain ⟨fs, c, hv⟩ := hv
  obtain ⟨fin', hr, hv⟩ := hv
  refine wp_callV (vs := [.int v138, .int v139]) (st := [.int v137]) (fin' := fin') dL_law_785 c rfl k13_85_12 rfl (Nat.le_of_ble_eq_true rfl) (Nat.le_of_ble_eq_true rfl) hr (wp_mono hv ?_)
  intro r h140 hv e1
  replace hv := hv e1
  obtain ⟨v141, rfl, hv⟩ := hv
  change wp _ _ _ _ _ [.int v141, .int v137] _ _ _
  refine wp_icmp_eq 1606 dL_law_788 (by decide) (fun q => ?_) (fun q => ?_)
  · replace hv := hv.1 q
    refine wx_iinc (v := 6) (ls' := [(0, .retAddr sc), (1, .ref a1), (2, .ref a2), (3, .int (x3 + 6))]) dL_law_1606 rfl (by decide) (by decide) rfl ?_
    refine wp_goto 18 dL_law_1609 (by decide) ?_
    exact hv
  · replace hv := hv.2 q
    refine wp_iconst (v := 0) dL_law_791 (by decide) ?_
    obtain ⟨e, hv⟩ := hv
    exact wp_ireturn dL_law_792 rfl (by decide) e hv
theorem vL_law_793 {G : Gp} {d : Nat} {h : AH} {fin : Nat × Nat} {Q : Option Value → AH → Prop} {sc : Nat} {a1 : Nat} {a2 : Nat} {x3 : Int32} (hv : SL G (x3 + (1 : Int32)) (fun v142 => SL G (x3 + (2 : Int32)) (fun v143 => SL G (x3 + (3 : Int32)) (fun v144 => (∃ fs : List Value, h.1 a1 = some (.inr (11, fs)) ∧ ∃ fin' : Nat × Nat, cR h fin' fin ∧ wp G d mX11_plan 0 [(0, .ref a1), (1, .int v142), (2, .int v143), (3, .int v144)] [] h fin' (fun r h145 => h145.2 = fin' → (∃ v146, r = some (.int v146) ∧ SL G (x3 + (1 : Int32)) (fun v147 => SL G (x3 + (2 : Int32)) (fun v148 => SL G (x3 + (3 : Int32)) (fun v149 => (∃ fs : List Value, h145.1 a2 = some (.inr (12, fs)) ∧ ∃ fin' : Nat × Nat, cR h145 fin' fin ∧ wp G d mX12_plan 0 [(0, .ref a2), (1, .int v147), (2, .int v148), (3, .int v149)] [] h145 fin' (fun r h150 => h150.2 = fin' → (∃ v151, r = some (.int v151) ∧ ((v146 = v151 → wp G (d + 1) mL_law 18 [(0, .retAddr sc), (1, .ref a1), (2, .ref a2), (3, .int (x3 + 6))] [] h150 fin Q) ∧ (¬ v146 = v151 → (h150.2 = fin ∧ Q (some (.int (0 : Int32))) h150)))))))))))))))) : wp G (d + 1) mL_law 793 [(0, .retAddr sc), (1, .ref a1), (2, .ref a2), (3, .int x3)] [] h fin Q := by
  refine wp_aload_n (i := 1) dL_law_793 rfl rfl ?_
  refine wp_aload_nS (i := 0) dL_law_794 rfl rfl ?_
  refine wp_iload_n (i := 3) dL_law_795 rfl rfl ?_
  refine wp_iconst (v := 1) dL_law_796 (by decide) ?_
  refine wp_iadd dL_law_797 ?_
  obtain ⟨q, hv⟩ := hv
  refine wp_sld dL_law_798 q ?_
  generalize gx G ((x3 + (1 : Int32))).toNatClampNeg = v142 at hv ⊢
  refine wp_aload_nS (i := 0) dL_law_799 rfl rfl ?_
  refine wp_iload_n (i := 3) dL_law_800 rfl rfl ?_
  refine wp_iconst (v := 2) dL_law_801 (by decide) ?_
  refine wp_iadd dL_law_802 ?_
  obtain ⟨q, hv⟩ := hv
  refine wp_sld dL_law_803 q ?_
  generalize gx G ((x3 + (2 : Int32))).toNatClampNeg = v143 at hv ⊢
  refine wp_aload_nS (i := 0) dL_law_804 rfl rfl ?_
  refine wp_iload_n (i := 3) dL_law_805 rfl rfl ?_
  refine wp_iconst (v := 3) dL_law_806 (by decide) ?_
  refine wp_iadd dL_law_807 ?_
  obtain ⟨q, hv⟩ := hv
  refine wp_sld dL_law_808 q ?_
  generalize gx G ((x3 + (3 : Int32))).toNatClampNeg = v144 at hv ⊢
  obtain ⟨fs, c, hv⟩ := hv
  obtain ⟨fin', hr, hv⟩ := hv
  refine wp_callV (vs := [.int v142, .int v143, .int v144]) (st := []) (fin' := fin') dL_law_809 c rfl k13_86_11 rfl (Nat.le_of_ble_eq_true rfl) (Nat.le_of_ble_eq_true rfl) hr (wp_mono hv ?_)
  intro r h145 hv e1
  replace hv := hv e1
  obtain ⟨v146, rfl, hv⟩ := hv
  change wp _ _ _ _ _ [.int v146] _ _ _
  refine wp_aload_n (i := 2) dL_law_812 rfl rfl ?_
  refine wp_aload_nS (i := 0) dL_law_813 rfl rfl ?_
  refine wp_iload_n (i := 3) dL_law_814 rfl rfl ?_
  refine wp_iconst (v := 1) dL_law_815 (by decide) ?_
  refine wp_iadd dL_law_816 ?_
  obtain ⟨q, hv⟩ := hv
  refine wp_sld dL_law_817 q ?_
  generalize gx G ((x3 + (1 : Int32))).toNatClampNeg = v147 at hv ⊢
  refine wp_aload_nS (i := 0) dL_law_818 rfl rfl ?_
  refine wp_iload_n (i := 3) dL_law_819 rfl rfl ?_
  refine wp_iconst (v := 2) dL_law_820 (by decide) ?_
  refine wp_iadd dL_law_821 ?_
  obtain ⟨q, hv⟩ := hv
  refine wp_sld dL_law_822 q ?_
  generalize gx G ((x3 + (2 : Int32))).toNatClampNeg = v148 at hv ⊢
  refine wp_aload_nS (i := 0) dL_law_823 rfl rfl ?_
  refine wp_iload_n (i := 3) dL_law_824 rfl rfl ?_
  refine wp_iconst (v := 3) dL_law_825 (by decide) ?_
  refine wp_iadd dL_law_826 ?_
  obtain ⟨q, hv⟩ := hv
  refine wp_sld dL_law_827 q ?_
  generalize gx G ((x3 + (3 : Int32))).toNatClampNeg = v149 at hv ⊢
  obtain ⟨fs, c, hv⟩ := hv
  obtain ⟨fin', hr, hv⟩ := hv
  refine wp_callV (vs := [.int v147, .int v148, .int v149]) (st := [.int v146]) (fin' := fin') dL_law_828 c rfl k13_89_12 rfl (Nat.le_of_ble_eq_true rfl) (Nat.le_of_ble_eq_true rfl) hr (wp_mono hv ?_)
  intro r h150 hv e1
  replace hv := hv e1
  obtain ⟨v151, rfl, hv⟩ := hv
  change wp _ _ _ _ _ [.int v151, .int v146] _ _ _
  refine wp_icmp_eq 1606 dL_law_831 (by decide) (fun q => ?_) (fun q => ?_)
  · replace hv := hv.1 q
    refine wx_iinc (v := 6) (ls' := [(0, .retAddr sc), (1, .ref a1), (2, .ref a2), (3, .int (x3 + 6))]) dL_law_1606 rfl (by decide) (by decide) rfl ?_
    refine wp_goto 18 dL_law_1609 (by decide) ?_
    exact hv
  · replace hv := hv.2 q
    refine wp_iconst (v := 0) dL_law_834 (by decide) ?_
    obtain ⟨e, hv⟩ := hv
    exact wp_ireturn dL_law_835 rfl (by decide) e hv
theorem vL_law_836 {G : Gp} {d : Nat} {h : AH} {fin : Nat × Nat} {Q : Option Value → AH → Prop} {sc : Nat} {a1 : Nat} {a2 : Nat} {x3 : Int32} (hv : SL G (x3 + (1 : Int32)) (fun v152 => SL G (x3 + (2 : Int32)) (fun v153 => SL G (x3 + (3 : Int32)) (fun v154 => (∃ fs : List Value, h.1 a1 = some (.inr (11, fs)) ∧ ∃ fin' : Nat × Nat, cR h fin' fin ∧ wp G d mX11_leastPlan 0 [(0, .ref a1), (1, .int v152), (2, .int v153), (3, .int v154)] [] h fin' (fun r h155 => h155.2 = fin' → (∃ v156, r = some (.int v156) ∧ SL G (x3 + (1 : Int32)) (fun v157 => SL G (x3 + (2 : Int32)) (fun v158 => SL G (x3 + (3 : Int32)) (fun v159 => (∃ fs : List Value, h155.1 a2 = some (.inr (12, fs)) ∧ ∃ fin' : Nat × Nat, cR h155 fin' fin ∧ wp G d mX12_leastPlan 0 [(0, .ref a2), (1, .int v157), (2, .int v158), (3, .int v159)] [] h155 fin' (fun r h160 => h160.2 = fin' → (∃ v161, r = some (.int v161) ∧ ((v156 = v161 → wp G (d + 1) mL_law 18 [(0, .retAddr sc), (1, .ref a1), (2, .ref a2), (3, .int (x3 + 6))] [] h160 fin Q) ∧ (¬ v156 = v161 → (h160.2 = fin ∧ Q (some (.int (0 : Int32))) h160)))))))))))))))) : wp G (d + 1) mL_law 836 [(0, .retAddr sc), (1, .ref a1), (2, .ref a2), (3, .int x3)] [] h fin Q := by
  refine wp_aload_n (i := 1) dL_law_836 rfl rfl ?_
  refine wp_aload_nS (i := 0) dL_law_837 rfl rfl ?_
  refine wp_iload_n (i := 3) dL_law_838 rfl rfl ?_
  refine wp_iconst (v := 1) dL_law_839 (by decide) ?_
  refine wp_iadd dL_law_840 ?_
  obtain ⟨q, hv⟩ := hv
  refine wp_sld dL_law_841 q ?_
  generalize gx G ((x3 + (1 : Int32))).toNatClampNeg = v152 at hv ⊢
  refine wp_aload_nS (i := 0) dL_law_842 rfl rfl ?_
  refine wp_iload_n (i := 3) dL_law_843 rfl rfl ?_
  refine wp_iconst (v := 2) dL_law_844 (by decide) ?_
  refine wp_iadd dL_law_845 ?_
  obtain ⟨q, hv⟩ := hv
  refine wp_sld dL_law_846 q ?_
  generalize gx G ((x3 + (2 : Int32))).toNatClampNeg = v153 at hv ⊢
  refine wp_aload_nS (i := 0) dL_law_847 rfl rfl ?_
  refine wp_iload_n (i := 3) dL_law_848 rfl rfl ?_
  refine wp_iconst (v := 3) dL_law_849 (by decide) ?_
  refine wp_iadd dL_law_850 ?_
  obtain ⟨q, hv⟩ := hv
  refine wp_sld dL_law_851 q ?_
  generalize gx G ((x3 + (3 : Int32))).toNatClampNeg = v154 at hv ⊢
  obtain ⟨fs, c, hv⟩ := hv
  obtain ⟨fin', hr, hv⟩ := hv
  refine wp_callV (vs := [.int v152, .int v153, .int v154]) (st := []) (fin' := fin') dL_law_852 c rfl k13_90_11 rfl (Nat.le_of_ble_eq_true rfl) (Nat.le_of_ble_eq_true rfl) hr (wp_mono hv ?_)
  intro r h155 hv e1
  replace hv := hv e1
  obtain ⟨v156, rfl, hv⟩ := hv
  change wp _ _ _ _ _ [.int v156] _ _ _
  refine wp_aload_n (i := 2) dL_law_855 rfl rfl ?_
  refine wp_aload_nS (i := 0) dL_law_856 rfl rfl ?_
  refine wp_iload_n (i := 3) dL_law_857 rfl rfl ?_
  refine wp_iconst (v := 1) dL_law_858 (by decide) ?_
  refine wp_iadd dL_law_859 ?_
  obtain ⟨q, hv⟩ := hv
  refine wp_sld dL_law_860 q ?_
  generalize gx G ((x3 + (1 : Int32))).toNatClampNeg = v157 at hv ⊢
  refine wp_aload_nS (i := 0) dL_law_861 rfl rfl ?_
  refine wp_iload_n (i := 3) dL_law_862 rfl rfl ?_
  refine wp_iconst (v := 2) dL_law_863 (by decide) ?_
  refine wp_iadd dL_law_864 ?_
  obtain ⟨q, hv⟩ := hv
  refine wp_sld dL_law_865 q ?_
  generalize gx G ((x3 + (2 : Int32))).toNatClampNeg = v158 at hv ⊢
  refine wp_aload_nS (i := 0) dL_law_866 rfl rfl ?_
  refine wp_iload_n (i := 3) dL_law_867 rfl rfl ?_
  refine wp_iconst (v := 3) dL_law_868 (by decide) ?_
  refine wp_iadd dL_law_869 ?_
  obtain ⟨q, hv⟩ := hv
  refine wp_sld dL_law_870 q ?_
  generalize gx G ((x3 + (3 : Int32))).toNatClampNeg = v159 at hv ⊢
  obtain ⟨fs, c, hv⟩ := hv
  obtain ⟨fin', hr, hv⟩ := hv
  refine wp_callV (vs := [.int v157, .int v158, .int v159]) (st := [.int v156]) (fin' := fin') dL_law_871 c rfl k13_93_12 rfl (Nat.le_of_ble_eq_true rfl) (Nat.le_of_ble_eq_true rfl) hr (wp_mono hv ?_)
  intro r h160 hv e1
  replace hv := hv e1
  obtain ⟨v161, rfl, hv⟩ := hv
  change wp _ _ _ _ _ [.int v161, .int v156] _ _ _
  refine wp_icmp_eq 1606 dL_law_874 (by decide) (fun q => ?_) (fun q => ?_)
  · replace hv := hv.1 q
    refine wx_iinc (v := 6) (ls' := [(0, .retAddr sc), (1, .ref a1), (2, .ref a2), (3, .int (x3 + 6))]) dL_law_1606 rfl (by decide) (by decide) rfl ?_
    refine wp_goto 18 dL_law_1609 (by decide) ?_
    exact hv
  · replace hv := hv.2 q
    refine wp_iconst (v := 0) dL_law_877 (by decide) ?_
    obtain ⟨e, hv⟩ := hv
    exact wp_ireturn dL_law_878 rfl (by decide) e hv
theorem vL_law_879 {G : Gp} {d : Nat} {h : AH} {fin : Nat × Nat} {Q : Option Value → AH → Prop} {sc : Nat} {a1 : Nat} {a2 : Nat} {x3 : Int32} (hv : SL G (x3 + (1 : Int32)) (fun v162 => SL G (x3 + (2 : Int32)) (fun v163 => SL G (x3 + (3 : Int32)) (fun v164 => (∃ fs : List Value, h.1 a1 = some (.inr (11, fs)) ∧ ∃ fin' : Nat × Nat, cR h fin' fin ∧ wp G d mX11_goesThrough 0 [(0, .ref a1), (1, .int v162), (2, .int v163), (3, .int v164)] [] h fin' (fun r h165 => h165.2 = fin' → (∃ v166, r = some (.int v166) ∧ SL G (x3 + (1 : Int32)) (fun v167 => SL G (x3 + (2 : Int32)) (fun v168 => SL G (x3 + (3 : Int32)) (fun v169 => (∃ fs : List Value, h165.1 a2 = some (.inr (12, fs)) ∧ ∃ fin' : Nat × Nat, cR h165 fin' fin ∧ wp G d mX12_goesThrough 0 [(0, .ref a2), (1, .int v167), (2, .int v168), (3, .int v169)] [] h165 fin' (fun r h170 => h170.2 = fin' → (∃ v171, r = some (.int v171) ∧ ((v166 = v171 → wp G (d + 1) mL_law 18 [(0, .retAddr sc), (1, .ref a1), (2, .ref a2), (3, .int (x3 + 6))] [] h170 fin Q) ∧ (¬ v166 = v171 → (h170.2 = fin ∧ Q (some (.int (0 : Int32))) h170)))))))))))))))) : wp G (d + 1) mL_law 879 [(0, .retAddr sc), (1, .ref a1), (2, .ref a2), (3, .int x3)] [] h fin Q := by
  refine wp_aload_n (i := 1) dL_law_879 rfl rfl ?_
  refine wp_aload_nS (i := 0) dL_law_880 rfl rfl ?_
  refine wp_iload_n (i := 3) dL_law_881 rfl rfl ?_
  refine wp_iconst (v := 1) dL_law_882 (by decide) ?_
  refine wp_iadd dL_law_883 ?_
  obtain ⟨q, hv⟩ := hv
  refine wp_sld dL_law_884 q ?_
  generalize gx G ((x3 + (1 : Int32))).toNatClampNeg = v162 at hv ⊢
  refine wp_aload_nS (i := 0) dL_law_885 rfl rfl ?_
  refine wp_iload_n (i := 3) dL_law_886 rfl rfl ?_
  refine wp_iconst (v := 2) dL_law_887 (by decide) ?_
  refine wp_iadd dL_law_888 ?_
  obtain ⟨q, hv⟩ := hv
  refine wp_sld dL_law_889 q ?_
  generalize gx G ((x3 + (2 : Int32))).toNatClampNeg = v163 at hv ⊢
  refine wp_aload_nS (i := 0) dL_law_890 rfl rfl ?_
  refine wp_iload_n (i := 3) dL_law_891 rfl rfl ?_
  refine wp_iconst (v := 3) dL_law_892 (by decide) ?_
  refine wp_iadd dL_law_893 ?_
  obtain ⟨q, hv⟩ := hv
  refine wp_sld dL_law_894 q ?_
  generalize gx G ((x3 + (3 : Int32))).toNatClampNeg = v164 at hv ⊢
  obtain ⟨fs, c, hv⟩ := hv
  obtain ⟨fin', hr, hv⟩ := hv
  refine wp_callV (vs := [.int v162, .int v163, .int v164]) (st := []) (fin' := fin') dL_law_895 c rfl k13_94_11 rfl (Nat.le_of_ble_eq_true rfl) (Nat.le_of_ble_eq_true rfl) hr (wp_mono hv ?_)
  intro r h165 hv e1
  replace hv := hv e1
  obtain ⟨v166, rfl, hv⟩ := hv
  change wp _ _ _ _ _ [.int v166] _ _ _
  refine wp_aload_n (i := 2) dL_law_898 rfl rfl ?_
  refine wp_aload_nS (i := 0) dL_law_899 rfl rfl ?_
  refine wp_iload_n (i := 3) dL_law_900 rfl rfl ?_
  refine wp_iconst (v := 1) dL_law_901 (by decide) ?_
  refine wp_iadd dL_law_902 ?_
  obtain ⟨q, hv⟩ := hv
  refine wp_sld dL_law_903 q ?_
  generalize gx G ((x3 + (1 : Int32))).toNatClampNeg = v167 at hv ⊢
  refine wp_aload_nS (i := 0) dL_law_904 rfl rfl ?_
  refine wp_iload_n (i := 3) dL_law_905 rfl rfl ?_
  refine wp_iconst (v := 2) dL_law_906 (by decide) ?_
  refine wp_iadd dL_law_907 ?_
  obtain ⟨q, hv⟩ := hv
  refine wp_sld dL_law_908 q ?_
  generalize gx G ((x3 + (2 : Int32))).toNatClampNeg = v168 at hv ⊢
  refine wp_aload_nS (i := 0) dL_law_909 rfl rfl ?_
  refine wp_iload_n (i := 3) dL_law_910 rfl rfl ?_
  refine wp_iconst (v := 3) dL_law_911 (by decide) ?_
  refine wp_iadd dL_law_912 ?_
  obtain ⟨q, hv⟩ := hv
  refine wp_sld dL_law_913 q ?_
  generalize gx G ((x3 + (3 : Int32))).toNatClampNeg = v169 at hv ⊢
  obtain ⟨fs, c, hv⟩ := hv
  obtain ⟨fin', hr, hv⟩ := hv
  refine wp_callV (vs := [.int v167, .int v168, .int v169]) (st := [.int v166]) (fin' := fin') dL_law_914 c rfl k13_97_12 rfl (Nat.le_of_ble_eq_true rfl) (Nat.le_of_ble_eq_true rfl) hr (wp_mono hv ?_)
  intro r h170 hv e1
  replace hv := hv e1
  obtain ⟨v171, rfl, hv⟩ := hv
  change wp _ _ _ _ _ [.int v171, .int v166] _ _ _
  refine wp_icmp_eq 1606 dL_law_917 (by decide) (fun q => ?_) (fun q => ?_)
  · replace hv := hv.1 q
    refine wx_iinc (v := 6) (ls' := [(0, .retAddr sc), (1, .ref a1), (2, .ref a2), (3, .int (x3 + 6))]) dL_law_1606 rfl (by decide) (by decide) rfl ?_
    refine wp_goto 18 dL_law_1609 (by decide) ?_
    exact hv
  · replace hv := hv.2 q
    refine wp_iconst (v := 0) dL_law_920 (by decide) ?_
    obtain ⟨e, hv⟩ := hv
    exact wp_ireturn dL_law_921 rfl (by decide) e hv
theorem vL_law_922 {G : Gp} {d : Nat} {h : AH} {fin : Nat × Nat} {Q : Option Value → AH → Prop} {sc : Nat} {a1 : Nat} {a2 : Nat} {x3 : Int32} (hv : SL G (x3 + (1 : Int32)) (fun v172 => SL G (x3 + (2 : Int32)) (fun v173 => (∃ fs : List Value, h.1 a1 = some (.inr (11, fs)) ∧ ∃ fin' : Nat × Nat, cR h fin' fin ∧ wp G d mX11_drift 0 [(0, .ref a1), (1, .int v172), (2, .int v173)] [] h fin' (fun r h174 => h174.2 = fin' → (∃ v175, r = some (.int v175) ∧ SL G (x3 + (1 : Int32)) (fun v176 => SL G (x3 + (2 : Int32)) (fun v177 => (∃ fs : List Value, h174.1 a2 = some (.inr (12, fs)) ∧ ∃ fin' : Nat × Nat, cR h174 fin' fin ∧ wp G d mX12_drift 0 [(0, .ref a2), (1, .int v176), (2, .int v177)] [] h174 fin' (fun r h178 => h178.2 = fin' → (∃ v179, r = some (.int v179) ∧ ((v175 = v179 → wp G (d + 1) mL_law 18 [(0, .retAddr sc), (1, .ref a1), (2, .ref a2), (3, .int (x3 + 6))] [] h178 fin Q) ∧ (¬ v175 = v179 → (h178.2 = fin ∧ Q (some (.int (0 : Int32))) h178)))))))))))))) : wp G (d + 1) mL_law 922 [(0, .retAddr sc), (1, .ref a1), (2, .ref a2), (3, .int x3)] [] h fin Q := by
  refine wp_aload_n (i := 1) dL_law_922 rfl rfl ?_
  refine wp_aload_nS (i := 0) dL_law_923 rfl rfl ?_
  refine wp_iload_n (i := 3) dL_law_924 rfl rfl ?_
  refine wp_iconst (v := 1) dL_law_925 (by decide) ?_
  refine wp_iadd dL_law_926 ?_
  obtain ⟨q, hv⟩ := hv
  refine wp_sld dL_law_927 q ?_
  generalize gx G ((x3 + (1 : Int32))).toNatClampNeg = v172 at hv ⊢
  refine wp_aload_nS (i := 0) dL_law_928 rfl rfl ?_
  refine wp_iload_n (i := 3) dL_law_929 rfl rfl ?_
  refine wp_iconst (v := 2) dL_law_930 (by decide) ?_
  refine wp_iadd dL_law_931 ?_
  obtain ⟨q, hv⟩ := hv
  refine wp_sld dL_law_932 q ?_
  generalize gx G ((x3 + (2 : Int32))).toNatClampNeg = v173 at hv ⊢
  obtain ⟨fs, c, hv⟩ := hv
  obtain ⟨fin', hr, hv⟩ := hv
  refine wp_callV (vs := [.int v172, .int v173]) (st := []) (fin' := fin') dL_law_933 c rfl k13_98_11 rfl (Nat.le_of_ble_eq_true rfl) (Nat.le_of_ble_eq_true rfl) hr (wp_mono hv ?_)
  intro r h174 hv e1
  replace hv := hv e1
  obtain ⟨v175, rfl, hv⟩ := hv
  change wp _ _ _ _ _ [.int v175] _ _ _
  refine wp_aload_n (i := 2) dL_law_936 rfl rfl ?_
  refine wp_aload_nS (i := 0) dL_law_937 rfl rfl ?_
  refine wp_iload_n (i := 3) dL_law_938 rfl rfl ?_
  refine wp_iconst (v := 1) dL_law_939 (by decide) ?_
  refine wp_iadd dL_law_940 ?_
  obtain ⟨q, hv⟩ := hv
  refine wp_sld dL_law_941 q ?_
  generalize gx G ((x3 + (1 : Int32))).toNatClampNeg = v176 at hv ⊢
  refine wp_aload_nS (i := 0) dL_law_942 rfl rfl ?_
  refine wp_iload_n (i := 3) dL_law_943 rfl rfl ?_
  refine wp_iconst (v := 2) dL_law_944 (by decide) ?_
  refine wp_iadd dL_law_945 ?_
  obtain ⟨q, hv⟩ := hv
  refine wp_sld dL_law_946 q ?_
  generalize gx G ((x3 + (2 : Int32))).toNatClampNeg = v177 at hv ⊢
  obtain ⟨fs, c, hv⟩ := hv
  obtain ⟨fin', hr, hv⟩ := hv
  refine wp_callV (vs := [.int v176, .int v177]) (st := [.int v175]) (fin' := fin') dL_law_947 c rfl k13_101_12 rfl (Nat.le_of_ble_eq_true rfl) (Nat.le_of_ble_eq_true rfl) hr (wp_mono hv ?_)
  intro r h178 hv e1
  replace hv := hv e1
  obtain ⟨v179, rfl, hv⟩ := hv
  change wp _ _ _ _ _ [.int v179, .int v175] _ _ _
  refine wp_icmp_eq 1606 dL_law_950 (by decide) (fun q => ?_) (fun q => ?_)
  · replace hv := hv.1 q
    refine wx_iinc (v := 6) (ls' := [(0, .retAddr sc), (1, .ref a1), (2, .ref a2), (3, .int (x3 + 6))]) dL_law_1606 rfl (by decide) (by decide) rfl ?_
    refine wp_goto 18 dL_law_1609 (by decide) ?_
    exact hv
  · replace hv := hv.2 q
    refine wp_iconst (v := 0) dL_law_953 (by decide) ?_
    obtain ⟨e, hv⟩ := hv
    exact wp_ireturn dL_law_954 rfl (by decide) e hv
theorem vL_law_955 {G : Gp} {d : Nat} {h : AH} {fin : Nat × Nat} {Q : Option Value → AH → Prop} {sc : Nat} {a1 : Nat} {a2 : Nat} {x3 : Int32} (hv : SL G (x3 + (1 : Int32)) (fun v180 => SL G (x3 + (2 : Int32)) (fun v181 => (∃ fs : List Value, h.1 a1 = some (.inr (11, fs)) ∧ ∃ fin' : Nat × Nat, cR h fin' fin ∧ wp G d mX11_drifted 0 [(0, .ref a1), (1, .int v180), (2, .int v181)] [] h fin' (fun r h182 => h182.2 = fin' → (∃ v183, r = some (.int v183) ∧ SL G (x3 + (1 : Int32)) (fun v184 => SL G (x3 + (2 : Int32)) (fun v185 => (∃ fs : List Value, h182.1 a2 = some (.inr (12, fs)) ∧ ∃ fin' : Nat × Nat, cR h182 fin' fin ∧ wp G d mX12_drifted 0 [(0, .ref a2), (1, .int v184), (2, .int v185)] [] h182 fin' (fun r h186 => h186.2 = fin' → (∃ v187, r = some (.int v187) ∧ ((v183 = v187 → wp G (d + 1) mL_law 18 [(0, .retAddr sc), (1, .ref a1), (2, .ref a2), (3, .int (x3 + 6))] [] h186 fin Q) ∧ (¬ v183 = v187 → (h186.2 = fin ∧ Q (some (.int (0 : Int32))) h186)))))))))))))) : wp G (d + 1) mL_law 955 [(0, .retAddr sc), (1, .ref a1), (2, .ref a2), (3, .int x3)] [] h fin Q := by
  refine wp_aload_n (i := 1) dL_law_955 rfl rfl ?_
  refine wp_aload_nS (i := 0) dL_law_956 rfl rfl ?_
  refine wp_iload_n (i := 3) dL_law_957 rfl rfl ?_
  refine wp_iconst (v := 1) dL_law_958 (by decide) ?_
  refine wp_iadd dL_law_959 ?_
  obtain ⟨q, hv⟩ := hv
  refine wp_sld dL_law_960 q ?_
  generalize gx G ((x3 + (1 : Int32))).toNatClampNeg = v180 at hv ⊢
  refine wp_aload_nS (i := 0) dL_law_961 rfl rfl ?_
  refine wp_iload_n (i := 3) dL_law_962 rfl rfl ?_
  refine wp_iconst (v := 2) dL_law_963 (by decide) ?_
  refine wp_iadd dL_law_964 ?_
  obtain ⟨q, hv⟩ := hv
  refine wp_sld dL_law_965 q ?_
  generalize gx G ((x3 + (2 : Int32))).toNatClampNeg = v181 at hv ⊢
  obtain ⟨fs, c, hv⟩ := hv
  obtain ⟨fin', hr, hv⟩ := hv
  refine wp_callV (vs := [.int v180, .int v181]) (st := []) (fin' := fin') dL_law_966 c rfl k13_102_11 rfl (Nat.le_of_ble_eq_true rfl) (Nat.le_of_ble_eq_true rfl) hr (wp_mono hv ?_)
  intro r h182 hv e1
  replace hv := hv e1
  obtain ⟨v183, rfl, hv⟩ := hv
  change wp _ _ _ _ _ [.int v183] _ _ _
  refine wp_aload_n (i := 2) dL_law_969 rfl rfl ?_
  refine wp_aload_nS (i := 0) dL_law_970 rfl rfl ?_
  refine wp_iload_n (i := 3) dL_law_971 rfl rfl ?_
  refine wp_iconst (v := 1) dL_law_972 (by decide) ?_
  refine wp_iadd dL_law_973 ?_
  obtain ⟨q, hv⟩ := hv
  refine wp_sld dL_law_974 q ?_
  generalize gx G ((x3 + (1 : Int32))).toNatClampNeg = v184 at hv ⊢
  refine wp_aload_nS (i := 0) dL_law_975 rfl rfl ?_
  refine wp_iload_n (i := 3) dL_law_976 rfl rfl ?_
  refine wp_iconst (v := 2) dL_law_977 (by decide) ?_
  refine wp_iadd dL_law_978 ?_
  obtain ⟨q, hv⟩ := hv
  refine wp_sld dL_law_979 q ?_
  generalize gx G ((x3 + (2 : Int32))).toNatClampNeg = v185 at hv ⊢
  obtain ⟨fs, c, hv⟩ := hv
  obtain ⟨fin', hr, hv⟩ := hv
  refine wp_callV (vs := [.int v184, .int v185]) (st := [.int v183]) (fin' := fin') dL_law_980 c rfl k13_105_12 rfl (Nat.le_of_ble_eq_true rfl) (Nat.le_of_ble_eq_true rfl) hr (wp_mono hv ?_)
  intro r h186 hv e1
  replace hv := hv e1
  obtain ⟨v187, rfl, hv⟩ := hv
  change wp _ _ _ _ _ [.int v187, .int v183] _ _ _
  refine wp_icmp_eq 1606 dL_law_983 (by decide) (fun q => ?_) (fun q => ?_)
  · replace hv := hv.1 q
    refine wx_iinc (v := 6) (ls' := [(0, .retAddr sc), (1, .ref a1), (2, .ref a2), (3, .int (x3 + 6))]) dL_law_1606 rfl (by decide) (by decide) rfl ?_
    refine wp_goto 18 dL_law_1609 (by decide) ?_
    exact hv
  · replace hv := hv.2 q
    refine wp_iconst (v := 0) dL_law_986 (by decide) ?_
    obtain ⟨e, hv⟩ := hv
    exact wp_ireturn dL_law_987 rfl (by decide) e hv
theorem vL_law_988 {G : Gp} {d : Nat} {h : AH} {fin : Nat × Nat} {Q : Option Value → AH → Prop} {sc : Nat} {a1 : Nat} {a2 : Nat} {x3 : Int32} (hv : (∃ fs : List Value, h.1 a1 = some (.inr (11, fs)) ∧ ∃ fin' : Nat × Nat, cR h fin' fin ∧ wp G d mX11_undrift 0 [(0, .ref a1)] [] h fin' (fun r h188 => h188.2 = fin' → (∃ v189, r = some (.int v189) ∧ (∃ fs : List Value, h188.1 a2 = some (.inr (12, fs)) ∧ ∃ fin' : Nat × Nat, cR h188 fin' fin ∧ wp G d mX12_undrift 0 [(0, .ref a2)] [] h188 fin' (fun r h190 => h190.2 = fin' → (∃ v191, r = some (.int v191) ∧ ((v189 = v191 → wp G (d + 1) mL_law 18 [(0, .retAddr sc), (1, .ref a1), (2, .ref a2), (3, .int (x3 + 6))] [] h190 fin Q) ∧ (¬ v189 = v191 → (h190.2 = fin ∧ Q (some (.int (0 : Int32))) h190)))))))))) : wp G (d + 1) mL_law 988 [(0, .retAddr sc), (1, .ref a1), (2, .ref a2), (3, .int x3)] [] h fin Q := by
  refine wp_aload_n (i := 1) dL_law_988 rfl rfl ?_
  obtain ⟨fs, c, hv⟩ := hv
  obtain ⟨fin', hr, hv⟩ := hv
  refine wp_callV (vs := []) (st := []) (fin' := fin') dL_law_989 c rfl k13_106_11 rfl (Nat.le_of_ble_eq_true rfl) (Nat.le_of_ble_eq_true rfl) hr (wp_mono hv ?_)
  intro r h188 hv e1
  replace hv := hv e1
  obtain ⟨v189, rfl, hv⟩ := hv
  change wp _ _ _ _ _ [.int v189] _ _ _
  refine wp_aload_n (i := 2) dL_law_992 rfl rfl ?_
  obtain ⟨fs, c, hv⟩ := hv
  obtain ⟨fin', hr, hv⟩ := hv
  refine wp_callV (vs := []) (st := [.int v189]) (fin' := fin') dL_law_993 c rfl k13_109_12 rfl (Nat.le_of_ble_eq_true rfl) (Nat.le_of_ble_eq_true rfl) hr (wp_mono hv ?_)
  intro r h190 hv e1
  replace hv := hv e1
  obtain ⟨v191, rfl, hv⟩ := hv
  change wp _ _ _ _ _ [.int v191, .int v189] _ _ _
  refine wp_icmp_eq 1606 dL_law_996 (by decide) (fun q => ?_) (fun q => ?_)
  · replace hv := hv.1 q
    refine wx_iinc (v := 6) (ls' := [(0, .retAddr sc), (1, .ref a1), (2, .ref a2), (3, .int (x3 + 6))]) dL_law_1606 rfl (by decide) (by decide) rfl ?_
    refine wp_goto 18 dL_law_1609 (by decide) ?_
    exact hv
  · replace hv := hv.2 q
    refine wp_iconst (v := 0) dL_law_999 (by decide) ?_
    obtain ⟨e, hv⟩ := hv
    exact wp_ireturn dL_law_1000 rfl (by decide) e hv
theorem vL_law_1001 {G : Gp} {d : Nat} {h : AH} {fin : Nat × Nat} {Q : Option Value → AH → Prop} {sc : Nat} {a1 : Nat} {a2 : Nat} {x3 : Int32} (hv : SL G (x3 + (1 : Int32)) (fun v192 => (∃ fs : List Value, h.1 a1 = some (.inr (11, fs)) ∧ ∃ fin' : Nat × Nat, cR h fin' fin ∧ wp G d mX11_cell 0 [(0, .ref a1), (1, .int v192)] [] h fin' (fun r h193 => h193.2 = fin' → (∃ v194, r = some (.int v194) ∧ SL G (x3 + (1 : Int32)) (fun v195 => (∃ fs : List Value, h193.1 a2 = some (.inr (12, fs)) ∧ ∃ fin' : Nat × Nat, cR h193 fin' fin ∧ wp G d mX12_cell 0 [(0, .ref a2), (1, .int v195)] [] h193 fin' (fun r h196 => h196.2 = fin' → (∃ v197, r = some (.int v197) ∧ ((v194 = v197 → wp G (d + 1) mL_law 18 [(0, .retAddr sc), (1, .ref a1), (2, .ref a2), (3, .int (x3 + 6))] [] h196 fin Q) ∧ (¬ v194 = v197 → (h196.2 = fin ∧ Q (some (.int (0 : Int32))) h196)))))))))))) : wp G (d + 1) mL_law 1001 [(0, .retAddr sc), (1, .ref a1), (2, .ref a2), (3, .int x3)] [] h fin Q := by
  refine wp_aload_n (i := 1) dL_law_1001 rfl rfl ?_
  refine wp_aload_nS (i := 0) dL_law_1002 rfl rfl ?_
  refine wp_iload_n (i := 3) dL_law_1003 rfl rfl ?_
  refine wp_iconst (v := 1) dL_law_1004 (by decide) ?_
  refine wp_iadd dL_law_1005 ?_
  obtain ⟨q, hv⟩ := hv
  refine wp_sld dL_law_1006 q ?_
  generalize gx G ((x3 + (1 : Int32))).toNatClampNeg = v192 at hv ⊢
  obtain ⟨fs, c, hv⟩ := hv
  obtain ⟨fin', hr, hv⟩ := hv
  refine wp_callV (vs := [.int v192]) (st := []) (fin' := fin') dL_law_1007 c rfl k13_110_11 rfl (Nat.le_of_ble_eq_true rfl) (Nat.le_of_ble_eq_true rfl) hr (wp_mono hv ?_)
  intro r h193 hv e1
  replace hv := hv e1
  obtain ⟨v194, rfl, hv⟩ := hv
  change wp _ _ _ _ _ [.int v194] _ _ _
  refine wp_aload_n (i := 2) dL_law_1010 rfl rfl ?_
  refine wp_aload_nS (i := 0) dL_law_1011 rfl rfl ?_
  refine wp_iload_n (i := 3) dL_law_1012 rfl rfl ?_
  refine wp_iconst (v := 1) dL_law_1013 (by decide) ?_
  refine wp_iadd dL_law_1014 ?_
  obtain ⟨q, hv⟩ := hv
  refine wp_sld dL_law_1015 q ?_
  generalize gx G ((x3 + (1 : Int32))).toNatClampNeg = v195 at hv ⊢
  obtain ⟨fs, c, hv⟩ := hv
  obtain ⟨fin', hr, hv⟩ := hv
  refine wp_callV (vs := [.int v195]) (st := [.int v194]) (fin' := fin') dL_law_1016 c rfl k13_113_12 rfl (Nat.le_of_ble_eq_true rfl) (Nat.le_of_ble_eq_true rfl) hr (wp_mono hv ?_)
  intro r h196 hv e1
  replace hv := hv e1
  obtain ⟨v197, rfl, hv⟩ := hv
  change wp _ _ _ _ _ [.int v197, .int v194] _ _ _
  refine wp_icmp_eq 1606 dL_law_1019 (by decide) (fun q => ?_) (fun q => ?_)
  · replace hv := hv.1 q
    refine wx_iinc (v := 6) (ls' := [(0, .retAddr sc), (1, .ref a1), (2, .ref a2), (3, .int (x3 + 6))]) dL_law_1606 rfl (by decide) (by decide) rfl ?_
    refine wp_goto 18 dL_law_1609 (by decide) ?_
    exact hv
  · replace hv := hv.2 q
    refine wp_iconst (v := 0) dL_law_1022 (by decide) ?_
    obtain ⟨e, hv⟩ := hv
    exact wp_ireturn dL_law_1023 rfl (by decide) e hv
theorem vL_law_1024 {G : Gp} {d : Nat} {h : AH} {fin : Nat × Nat} {Q : Option Value → AH → Prop} {sc : Nat} {a1 : Nat} {a2 : Nat} {x3 : Int32} (hv : SL G (x3 + (1 : Int32)) (fun v198 => SL G (x3 + (2 : Int32)) (fun v199 => SL G (x3 + (3 : Int32)) (fun v200 => (∃ fs : List Value, h.1 a1 = some (.inr (11, fs)) ∧ ∃ fin' : Nat × Nat, cR h fin' fin ∧ wp G d mX11_misses 0 [(0, .ref a1), (1, .int v198), (2, .int v199), (3, .int v200)] [] h fin' (fun r h201 => h201.2 = fin' → (∃ v202, r = some (.int v202) ∧ SL G (x3 + (1 : Int32)) (fun v203 => SL G (x3 + (2 : Int32)) (fun v204 => SL G (x3 + (3 : Int32)) (fun v205 => (∃ fs : List Value, h201.1 a2 = some (.inr (12, fs)) ∧ ∃ fin' : Nat × Nat, cR h201 fin' fin ∧ wp G d mX12_misses 0 [(0, .ref a2), (1, .int v203), (2, .int v204), (3, .int v205)] [] h201 fin' (fun r h206 => h206.2 = fin' → (∃ v207, r = some (.int v207) ∧ ((v202 = v207 → wp G (d + 1) mL_law 18 [(0, .retAddr sc), (1, .ref a1), (2, .ref a2), (3, .int (x3 + 6))] [] h206 fin Q) ∧ (¬ v202 = v207 → (h206.2 = fin ∧ Q (some (.int (0 : Int32))) h206)))))))))))))))) : wp G (d + 1) mL_law 1024 [(0, .retAddr sc), (1, .ref a1), (2, .ref a2), (3, .int x3)] [] h fin Q := by
  refine wp_aload_n (i := 1) dL_law_1024 rfl rfl ?_
  refine wp_aload_nS (i := 0) dL_law_1025 rfl rfl ?_
  refine wp_iload_n (i := 3) dL_law_1026 rfl rfl ?_
  refine wp_iconst (v := 1) dL_law_1027 (by decide) ?_
  refine wp_iadd dL_law_1028 ?_
  obtain ⟨q, hv⟩ := hv
  refine wp_sld dL_law_1029 q ?_
  generalize gx G ((x3 + (1 : Int32))).toNatClampNeg = v198 at hv ⊢
  refine wp_aload_nS (i := 0) dL_law_1030 rfl rfl ?_
  refine wp_iload_n (i := 3) dL_law_1031 rfl rfl ?_
  refine wp_iconst (v := 2) dL_law_1032 (by decide) ?_
  refine wp_iadd dL_law_1033 ?_
  obtain ⟨q, hv⟩ := hv
  refine wp_sld dL_law_1034 q ?_
  generalize gx G ((x3 + (2 : Int32))).toNatClampNeg = v199 at hv ⊢
  refine wp_aload_nS (i := 0) dL_law_1035 rfl rfl ?_
  refine wp_iload_n (i := 3) dL_law_1036 rfl rfl ?_
  refine wp_iconst (v := 3) dL_law_1037 (by decide) ?_
  refine wp_iadd dL_law_1038 ?_
  obtain ⟨q, hv⟩ := hv
  refine wp_sld dL_law_1039 q ?_
  generalize gx G ((x3 + (3 : Int32))).toNatClampNeg = v200 at hv ⊢
  obtain ⟨fs, c, hv⟩ := hv
  obtain ⟨fin', hr, hv⟩ := hv
  refine wp_callV (vs := [.int v198, .int v199, .int v200]) (st := []) (fin' := fin') dL_law_1040 c rfl k13_114_11 rfl (Nat.le_of_ble_eq_true rfl) (Nat.le_of_ble_eq_true rfl) hr (wp_mono hv ?_)
  intro r h201 hv e1
  replace hv := hv e1
  obtain ⟨v202, rfl, hv⟩ := hv
  change wp _ _ _ _ _ [.int v202] _ _ _
  refine wp_aload_n (i := 2) dL_law_1043 rfl rfl ?_
  refine wp_aload_nS (i := 0) dL_law_1044 rfl rfl ?_
  refine wp_iload_n (i := 3) dL_law_1045 rfl rfl ?_
  refine wp_iconst (v := 1) dL_law_1046 (by decide) ?_
  refine wp_iadd dL_law_1047 ?_
  obtain ⟨q, hv⟩ := hv
  refine wp_sld dL_law_1048 q ?_
  generalize gx G ((x3 + (1 : Int32))).toNatClampNeg = v203 at hv ⊢
  refine wp_aload_nS (i := 0) dL_law_1049 rfl rfl ?_
  refine wp_iload_n (i := 3) dL_law_1050 rfl rfl ?_
  refine wp_iconst (v := 2) dL_law_1051 (by decide) ?_
  refine wp_iadd dL_law_1052 ?_
  obtain ⟨q, hv⟩ := hv
  refine wp_sld dL_law_1053 q ?_
  generalize gx G ((x3 + (2 : Int32))).toNatClampNeg = v204 at hv ⊢
  refine wp_aload_nS (i := 0) dL_law_1054 rfl rfl ?_
  refine wp_iload_n (i := 3) dL_law_1055 rfl rfl ?_
  refine wp_iconst (v := 3) dL_law_1056 (by decide) ?_
  refine wp_iadd dL_law_1057 ?_
  obtain ⟨q, hv⟩ := hv
  refine wp_sld dL_law_1058 q ?_
  generalize gx G ((x3 + (3 : Int32))).toNatClampNeg = v205 at hv ⊢
  obtain ⟨fs, c, hv⟩ := hv
  obtain ⟨fin', hr, hv⟩ := hv
  refine wp_callV (vs := [.int v203, .int v204, .int v205]) (st := [.int v202]) (fin' := fin') dL_law_1059 c rfl k13_117_12 rfl (Nat.le_of_ble_eq_true rfl) (Nat.le_of_ble_eq_true rfl) hr (wp_mono hv ?_)
  intro r h206 hv e1
  replace hv := hv e1
  obtain ⟨v207, rfl, hv⟩ := hv
  change wp _ _ _ _ _ [.int v207, .int v202] _ _ _
  refine wp_icmp_eq 1606 dL_law_1062 (by decide) (fun q => ?_) (fun q => ?_)
  · replace hv := hv.1 q
    refine wx_iinc (v := 6) (ls' := [(0, .retAddr sc), (1, .ref a1), (2, .ref a2), (3, .int (x3 + 6))]) dL_law_1606 rfl (by decide) (by decide) rfl ?_
    refine wp_goto 18 dL_law_1609 (by decide) ?_
    exact hv
  · replace hv := hv.2 q
    refine wp_iconst (v := 0) dL_law_1065 (by decide) ?_
    obtain ⟨e, hv⟩ := hv
    exact wp_ireturn dL_law_1066 rfl (by decide) e hv
theorem vL_law_1067 {G : Gp} {d : Nat} {h : AH} {fin : Nat × Nat} {Q : Option Value → AH → Prop} {sc : Nat} {a1 : Nat} {a2 : Nat} {x3 : Int32} (hv : (∃ fs : List Value, h.1 a1 = some (.inr (11, fs)) ∧ ∃ fin' : Nat × Nat, cR h fin' fin ∧ wp G d mX11_uncell 0 [(0, .ref a1)] [] h fin' (fun r h208 => h208.2 = fin' → (∃ v209, r = some (.int v209) ∧ (∃ fs : List Value, h208.1 a2 = some (.inr (12, fs)) ∧ ∃ fin' : Nat × Nat, cR h208 fin' fin ∧ wp G d mX12_uncell 0 [(0, .ref a2)] [] h208 fin' (fun r h210 => h210.2 = fin' → (∃ v211, r = some (.int v211) ∧ ((v209 = v211 → wp G (d + 1) mL_law 18 [(0, .retAddr sc), (1, .ref a1), (2, .ref a2), (3, .int (x3 + 6))] [] h210 fin Q) ∧ (¬ v209 = v211 → (h210.2 = fin ∧ Q (some (.int (0 : Int32))) h210)))))))))) : wp G (d + 1) mL_law 1067 [(0, .retAddr sc), (1, .ref a1), (2, .ref a2), (3, .int x3)] [] h fin Q := by
  refine wp_aload_n (i := 1) dL_law_1067 rfl rfl ?_
  obtain ⟨fs, c, hv⟩ := hv
  obtain ⟨fin', hr, hv⟩ := hv
  refine wp_callV (vs := []) (st := []) (fin' := fin') dL_law_1068 c rfl k13_118_11 rfl (Nat.le_of_ble_eq_true rfl) (Nat.le_of_ble_eq_true rfl) hr (wp_mono hv ?_)
  intro r h208 hv e1
  replace hv := hv e1
  obtain ⟨v209, rfl, hv⟩ := hv
  change wp _ _ _ _ _ [.int v209] _ _ _
  refine wp_aload_n (i := 2) dL_law_1071 rfl rfl ?_
  obtain ⟨fs, c, hv⟩ := hv
  obtain ⟨fin', hr, hv⟩ := hv
  refine wp_callV (vs := []) (st := [.int v209]) (fin' := fin') dL_law_1072 c rfl k13_121_12 rfl (Nat.le_of_ble_eq_true rfl) (Nat.le_of_ble_eq_true rfl) hr (wp_mono hv ?_)
  intro r h210 hv e1
  replace hv := hv e1
  obtain ⟨v211, rfl, hv⟩ := hv
  change wp _ _ _ _ _ [.int v211, .int v209] _ _ _
  refine wp_icmp_eq 1606 dL_law_1075 (by decide) (fun q => ?_) (fun q => ?_)
  · replace hv := hv.1 q
    refine wx_iinc (v := 6) (ls' := [(0, .retAddr sc), (1, .ref a1), (2, .ref a2), (3, .int (x3 + 6))]) dL_law_1606 rfl (by decide) (by decide) rfl ?_
    refine wp_goto 18 dL_law_1609 (by decide) ?_
    exact hv
  · replace hv := hv.2 q
    refine wp_iconst (v := 0) dL_law_1078 (by decide) ?_
    obtain ⟨e, hv⟩ := hv
    exact wp_ireturn dL_law_1079 rfl (by decide) e hv
theorem vL_law_1080 {G : Gp} {d : Nat} {h : AH} {fin : Nat × Nat} {Q : Option Value → AH → Prop} {sc : Nat} {a1 : Nat} {a2 : Nat} {x3 : Int32} (hv : SL G (x3 + (1 : Int32)) (fun v212 => SL G (x3 + (2 : Int32)) (fun v213 => (∃ fs : List Value, h.1 a1 = some (.inr (11, fs)) ∧ ∃ fin' : Nat × Nat, cR h fin' fin ∧ wp G d mX11_key 0 [(0, .ref a1), (1, .int v212), (2, .int v213)] [] h fin' (fun r h214 => h214.2 = fin' → (∃ v215, r = some (.int v215) ∧ SL G (x3 + (1 : Int32)) (fun v216 => SL G (x3 + (2 : Int32)) (fun v217 => (∃ fs : List Value, h214.1 a2 = some (.inr (12, fs)) ∧ ∃ fin' : Nat × Nat, cR h214 fin' fin ∧ wp G d mX12_key 0 [(0, .ref a2), (1, .int v216), (2, .int v217)] [] h214 fin' (fun r h218 => h218.2 = fin' → (∃ v219, r = some (.int v219) ∧ ((v215 = v219 → wp G (d + 1) mL_law 18 [(0, .retAddr sc), (1, .ref a1), (2, .ref a2), (3, .int (x3 + 6))] [] h218 fin Q) ∧ (¬ v215 = v219 → (h218.2 = fin ∧ Q (some (.int (0 : Int32))) h218)))))))))))))) : wp G (d + 1) mL_law 1080 [(0, .retAddr sc), (1, .ref a1), (2, .ref a2), (3, .int x3)] [] h fin Q := by
  refine wp_aload_n (i := 1) dL_law_1080 rfl rfl ?_
  refine wp_aload_nS (i := 0) dL_law_1081 rfl rfl ?_
  refine wp_iload_n (i := 3) dL_law_1082 rfl rfl ?_
  refine wp_iconst (v := 1) dL_law_1083 (by decide) ?_
  refine wp_iadd dL_law_1084 ?_
  obtain ⟨q, hv⟩ := hv
  refine wp_sld dL_law_1085 q ?_
  generalize gx G ((x3 + (1 : Int32))).toNatClampNeg = v212 at hv ⊢
  refine wp_aload_nS (i := 0) dL_law_1086 rfl rfl ?_
  refine wp_iload_n (i := 3) dL_law_1087 rfl rfl ?_
  refine wp_iconst (v := 2) dL_law_1088 (by decide) ?_
  refine wp_iadd dL_law_1089 ?_
  obtain ⟨q, hv⟩ := hv
  refine wp_sld dL_law_1090 q ?_
  generalize gx G ((x3 + (2 : Int32))).toNatClampNeg = v213 at hv ⊢
  obtain ⟨fs, c, hv⟩ := hv
  obtain ⟨fin', hr, hv⟩ := hv
  refine wp_callV (vs := [.int v212, .int v213]) (st := []) (fin' := fin') dL_law_1091 c rfl k13_122_11 rfl (Nat.le_of_ble_eq_true rfl) (Nat.le_of_ble_eq_true rfl) hr (wp_mono hv ?_)
  intro r h214 hv e1
  replace hv := hv e1
  obtain ⟨v215, rfl, hv⟩ := hv
  change wp _ _ _ _ _ [.int v215] _ _ _
  refine wp_aload_n (i := 2) dL_law_1094 rfl rfl ?_
  refine wp_aload_nS (i := 0) dL_law_1095 rfl rfl ?_
  refine wp_iload_n (i := 3) dL_law_1096 rfl rfl ?_
  refine wp_iconst (v := 1) dL_law_1097 (by decide) ?_
  refine wp_iadd dL_law_1098 ?_
  obtain ⟨q, hv⟩ := hv
  refine wp_sld dL_law_1099 q ?_
  generalize gx G ((x3 + (1 : Int32))).toNatClampNeg = v216 at hv ⊢
  refine wp_aload_nS (i := 0) dL_law_1100 rfl rfl ?_
  refine wp_iload_n (i := 3) dL_law_1101 rfl rfl ?_
  refine wp_iconst (v := 2) dL_law_1102 (by decide) ?_
  refine wp_iadd dL_law_1103 ?_
  obtain ⟨q, hv⟩ := hv
  refine wp_sld dL_law_1104 q ?_
  generalize gx G ((x3 + (2 : Int32))).toNatClampNeg = v217 at hv ⊢
  obtain ⟨fs, c, hv⟩ := hv
  obtain ⟨fin', hr, hv⟩ := hv
  refine wp_callV (vs := [.int v216, .int v217]) (st := [.int v215]) (fin' := fin') dL_law_1105 c rfl k13_125_12 rfl (Nat.le_of_ble_eq_true rfl) (Nat.le_of_ble_eq_true rfl) hr (wp_mono hv ?_)
  intro r h218 hv e1
  replace hv := hv e1
  obtain ⟨v219, rfl, hv⟩ := hv
  change wp _ _ _ _ _ [.int v219, .int v215] _ _ _
  refine wp_icmp_eq 1606 dL_law_1108 (by decide) (fun q => ?_) (fun q => ?_)
  · replace hv := hv.1 q
    refine wx_iinc (v := 6) (ls' := [(0, .retAddr sc), (1, .ref a1), (2, .ref a2), (3, .int (x3 + 6))]) dL_law_1606 rfl (by decide) (by decide) rfl ?_
    refine wp_goto 18 dL_law_1609 (by decide) ?_
    exact hv
  · replace hv := hv.2 q
    refine wp_iconst (v := 0) dL_law_1111 (by decide) ?_
    obtain ⟨e, hv⟩ := hv
    exact wp_ireturn dL_law_1112 rfl (by decide) e hv
theorem vL_law_1113 {G : Gp} {d : Nat} {h : AH} {fin : Nat × Nat} {Q : Option Value → AH → Prop} {sc : Nat} {a1 : Nat} {a2 : Nat} {x3 : Int32} (hv : SL G (x3 + (1 : Int32)) (fun v220 => (∃ fs : List Value, h.1 a1 = some (.inr (11, fs)) ∧ ∃ fin' : Nat × Nat, cR h fin' fin ∧ wp G d mX11_leastLooks 0 [(0, .ref a1), (1, .int v220)] [] h fin' (fun r h221 => h221.2 = fin' → (∃ v222, r = some (.int v222) ∧ SL G (x3 + (1 : Int32)) (fun v223 => (∃ fs : List Value, h221.1 a2 = some (.inr (12, fs)) ∧ ∃ fin' : Nat × Nat, cR h221 fin' fin ∧ wp G d mX12_leastLooks 0 [(0, .ref a2), (1, .int v223)] [] h221 fin' (fun r h224 => h224.2 = fin' → (∃ v225, r = some (.int v225) ∧ ((v222 = v225 → wp G (d + 1) mL_law 18 [(0, .retAddr sc), (1, .ref a1), (2, .ref a2), (3, .int (x3 + 6))] [] h224 fin Q) ∧ (¬ v222 = v225 → (h224.2 = fin ∧ Q (some (.int (0 : Int32))) h224)))))))))))) : wp G (d + 1) mL_law 1113 [(0, .retAddr sc), (1, .ref a1), (2, .ref a2), (3, .int x3)] [] h fin Q := by
  refine wp_aload_n (i := 1) dL_law_1113 rfl rfl ?_
  refine wp_aload_nS (i := 0) dL_law_1114 rfl rfl ?_
  refine wp_iload_n (i := 3) dL_law_1115 rfl rfl ?_
  refine wp_iconst (v := 1) dL_law_1116 (by decide) ?_
  refine wp_iadd dL_law_1117 ?_
  obtain ⟨q, hv⟩ := hv
  refine wp_sld dL_law_1118 q ?_
  generalize gx G ((x3 + (1 : Int32))).toNatClampNeg = v220 at hv ⊢
  obtain ⟨fs, c, hv⟩ := hv
  obtain ⟨fin', hr, hv⟩ := hv
  refine wp_callV (vs := [.int v220]) (st := []) (fin' := fin') dL_law_1119 c rfl k13_126_11 rfl (Nat.le_of_ble_eq_true rfl) (Nat.le_of_ble_eq_true rfl) hr (wp_mono hv ?_)
  intro r h221 hv e1
  replace hv := hv e1
  obtain ⟨v222, rfl, hv⟩ := hv
  change wp _ _ _ _ _ [.int v222] _ _ _
  refine wp_aload_n (i := 2) dL_law_1122 rfl rfl ?_
  refine wp_aload_nS (i := 0) dL_law_1123 rfl rfl ?_
  refine wp_iload_n (i := 3) dL_law_1124 rfl rfl ?_
  refine wp_iconst (v := 1) dL_law_1125 (by decide) ?_
  refine wp_iadd dL_law_1126 ?_
  obtain ⟨q, hv⟩ := hv
  refine wp_sld dL_law_1127 q ?_
  generalize gx G ((x3 + (1 : Int32))).toNatClampNeg = v223 at hv ⊢
  obtain ⟨fs, c, hv⟩ := hv
  obtain ⟨fin', hr, hv⟩ := hv
  refine wp_callV (vs := [.int v223]) (st := [.int v222]) (fin' := fin') dL_law_1128 c rfl k13_129_12 rfl (Nat.le_of_ble_eq_true rfl) (Nat.le_of_ble_eq_true rfl) hr (wp_mono hv ?_)
  intro r h224 hv e1
  replace hv := hv e1
  obtain ⟨v225, rfl, hv⟩ := hv
  change wp _ _ _ _ _ [.int v225, .int v222] _ _ _
  refine wp_icmp_eq 1606 dL_law_1131 (by decide) (fun q => ?_) (fun q => ?_)
  · replace hv := hv.1 q
    refine wx_iinc (v := 6) (ls' := [(0, .retAddr sc), (1, .ref a1), (2, .ref a2), (3, .int (x3 + 6))]) dL_law_1606 rfl (by decide) (by decide) rfl ?_
    refine wp_goto 18 dL_law_1609 (by decide) ?_
    exact hv
  · replace hv := hv.2 q
    refine wp_iconst (v := 0) dL_law_1134 (by decide) ?_
    obtain ⟨e, hv⟩ := hv
    exact wp_ireturn dL_law_1135 rfl (by decide) e hv
theorem vL_law_1136 {G : Gp} {d : Nat} {h : AH} {fin : Nat × Nat} {Q : Option Value → AH → Prop} {sc : Nat} {a1 : Nat} {a2 : Nat} {x3 : Int32} (hv : (∃ fs : List Value, h.1 a1 = some (.inr (11, fs)) ∧ ∃ fin' : Nat × Nat, cR h fin' fin ∧ wp G d mX11_root 0 [(0, .ref a1)] [] h fin' (fun r h226 => h226.2 = fin' → (∃ v227, r = some (.int v227) ∧ (∃ fs : List Value, h226.1 a2 = some (.inr (12, fs)) ∧ ∃ fin' : Nat × Nat, cR h226 fin' fin ∧ wp G d mX12_root 0 [(0, .ref a2)] [] h226 fin' (fun r h228 => h228.2 = fin' → (∃ v229, r = some (.int v229) ∧ ((v227 = v229 → wp G (d + 1) mL_law 18 [(0, .retAddr sc), (1, .ref a1), (2, .ref a2), (3, .int (x3 + 6))] [] h228 fin Q) ∧ (¬ v227 = v229 → (h228.2 = fin ∧ Q (some (.int (0 : Int32))) h228)))))))))) : wp G (d + 1) mL_law 1136 [(0, .retAddr sc), (1, .ref a1), (2, .ref a2), (3, .int x3)] [] h fin Q := by
  refine wp_aload_n (i := 1) dL_law_1136 rfl rfl ?_
  obtain ⟨fs, c, hv⟩ := hv
  obtain ⟨fin', hr, hv⟩ := hv
  refine wp_callV (vs := []) (st := []) (fin' := fin') dL_law_1137 c rfl k13_130_11 rfl (Nat.le_of_ble_eq_true rfl) (Nat.le_of_ble_eq_true rfl) hr (wp_mono hv ?_)
  intro r h226 hv e1
  replace hv := hv e1
  obtain ⟨v227, rfl, hv⟩ := hv
  change wp _ _ _ _ _ [.int v227] _ _ _
  refine wp_aload_n (i := 2) dL_law_1140 rfl rfl ?_
  obtain ⟨fs, c, hv⟩ := hv
  obtain ⟨fin', hr, hv⟩ := hv
  refine wp_callV (vs := []) (st := [.int v227]) (fin' := fin') dL_law_1141 c rfl k13_133_12 rfl (Nat.le_of_ble_eq_true rfl) (Nat.le_of_ble_eq_true rfl) hr (wp_mono hv ?_)
  intro r h228 hv e1
  replace hv := hv e1
  obtain ⟨v229, rfl, hv⟩ := hv
  change wp _ _ _ _ _ [.int v229, .int v227] _ _ _
  refine wp_icmp_eq 1606 dL_law_1144 (by decide) (fun q => ?_) (fun q => ?_)
  · replace hv := hv.1 q
    refine wx_iinc (v := 6) (ls' := [(0, .retAddr sc), (1, .ref a1), (2, .ref a2), (3, .int (x3 + 6))]) dL_law_1606 rfl (by decide) (by decide) rfl ?_
    refine wp_goto 18 dL_law_1609 (by decide) ?_
    exact hv
  · replace hv := hv.2 q
    refine wp_iconst (v := 0) dL_law_1147 (by decide) ?_
    obtain ⟨e, hv⟩ := hv
    exact wp_ireturn dL_law_1148 rfl (by decide) e hv
theorem vL_law_1149 {G : Gp} {d : Nat} {h : AH} {fin : Nat × Nat} {Q : Option Value → AH → Prop} {sc : Nat} {a1 : Nat} {a2 : Nat} {x3 : Int32} (hv : SL G (x3 + (1 : Int32)) (fun v230 => (∃ fs : List Value, h.1 a1 = some (.inr (11, fs)) ∧ ∃ fin' : Nat × Nat, cR h fin' fin ∧ wp G d mX11_walk 0 [(0, .ref a1), (1, .int v230)] [] h fin' (fun r h231 => h231.2 = fin' → (∃ v232, r = some (.int v232) ∧ SL G (x3 + (1 : Int32)) (fun v233 => (∃ fs : List Value, h231.1 a2 = some (.inr (12, fs)) ∧ ∃ fin' : Nat × Nat, cR h231 fin' fin ∧ wp G d mX12_walk 0 [(0, .ref a2), (1, .int v233)] [] h231 fin' (fun r h234 => h234.2 = fin' → (∃ v235, r = some (.int v235) ∧ ((v232 = v235 → wp G (d + 1) mL_law 18 [(0, .retAddr sc), (1, .ref a1), (2, .ref a2), (3, .int (x3 + 6))] [] h234 fin Q) ∧ (¬ v232 = v235 → (h234.2 = fin ∧ Q (some (.int (0 : Int32))) h234)))))))))))) : wp G (d + 1) mL_law 1149 [(0, .retAddr sc), (1, .ref a1), (2, .ref a2), (3, .int x3)] [] h fin Q := by
  refine wp_aload_n (i := 1) dL_law_1149 rfl rfl ?_
  refine wp_aload_nS (i := 0) dL_law_1150 rfl rfl ?_
  refine wp_iload_n (i := 3) dL_law_1151 rfl rfl ?_
  refine wp_iconst (v := 1) dL_law_1152 (by decide) ?_
  refine wp_iadd dL_law_1153 ?_
  obtain ⟨q, hv⟩ := hv
  refine wp_sld dL_law_1154 q ?_
  generalize gx G ((x3 + (1 : Int32))).toNatClampNeg = v230 at hv ⊢
  obtain ⟨fs, c, hv⟩ := hv
  obtain ⟨fin', hr, hv⟩ := hv
  refine wp_callV (vs := [.int v230]) (st := []) (fin' := fin') dL_law_1155 c rfl k13_134_11 rfl (Nat.le_of_ble_eq_true rfl) (Nat.le_of_ble_eq_true rfl) hr (wp_mono hv ?_)
  intro r h231 hv e1
  replace hv := hv e1
  obtain ⟨v232, rfl, hv⟩ := hv
  change wp _ _ _ _ _ [.int v232] _ _ _
  refine wp_aload_n (i := 2) dL_law_1158 rfl rfl ?_
  refine wp_aload_nS (i := 0) dL_law_1159 rfl rfl ?_
  refine wp_iload_n (i := 3) dL_law_1160 rfl rfl ?_
  refine wp_iconst (v := 1) dL_law_1161 (by decide) ?_
  refine wp_iadd dL_law_1162 ?_
  obtain ⟨q, hv⟩ := hv
  refine wp_sld dL_law_1163 q ?_
  generalize gx G ((x3 + (1 : Int32))).toNatClampNeg = v233 at hv ⊢
  obtain ⟨fs, c, hv⟩ := hv
  obtain ⟨fin', hr, hv⟩ := hv
  refine wp_callV (vs := [.int v233]) (st := [.int v232]) (fin' := fin') dL_law_1164 c rfl k13_137_12 rfl (Nat.le_of_ble_eq_true rfl) (Nat.le_of_ble_eq_true rfl) hr (wp_mono hv ?_)
  intro r h234 hv e1
  replace hv := hv e1
  obtain ⟨v235, rfl, hv⟩ := hv
  change wp _ _ _ _ _ [.int v235, .int v232] _ _ _
  refine wp_icmp_eq 1606 dL_law_1167 (by decide) (fun q => ?_) (fun q => ?_)
  · replace hv := hv.1 q
    refine wx_iinc (v := 6) (ls' := [(0, .retAddr sc), (1, .ref a1), (2, .ref a2), (3, .int (x3 + 6))]) dL_law_1606 rfl (by decide) (by decide) rfl ?_
    refine wp_goto 18 dL_law_1609 (by decide) ?_
    exact hv
  · replace hv := hv.2 q
    refine wp_iconst (v := 0) dL_law_1170 (by decide) ?_
    obtain ⟨e, hv⟩ := hv
    exact wp_ireturn dL_law_1171 rfl (by decide) e hv
theorem vL_law_1172 {G : Gp} {d : Nat} {h : AH} {fin : Nat × Nat} {Q : Option Value → AH → Prop} {sc : Nat} {a1 : Nat} {a2 : Nat} {x3 : Int32} (hv : SL G (x3 + (1 : Int32)) (fun v236 => (∃ fs : List Value, h.1 a1 = some (.inr (11, fs)) ∧ ∃ fin' : Nat × Nat, cR h fin' fin ∧ wp G d mX11_next 0 [(0, .ref a1), (1, .int v236)] [] h fin' (fun r h237 => h237.2 = fin' → (∃ v238, r = some (.int v238) ∧ SL G (x3 + (1 : Int32)) (fun v239 => (∃ fs : List Value, h237.1 a2 = some (.inr (12, fs)) ∧ ∃ fin' : Nat × Nat, cR h237 fin' fin ∧ wp G d mX12_next 0 [(0, .ref a2), (1, .int v239)] [] h237 fin' (fun r h240 => h240.2 = fin' → (∃ v241, r = some (.int v241) ∧ ((v238 = v241 → wp G (d + 1) mL_law 18 [(0, .retAddr sc), (1, .ref a1), (2, .ref a2), (3, .int (x3 + 6))] [] h240 fin Q) ∧ (¬ v238 = v241 → (h240.2 = fin ∧ Q (some (.int (0 : Int32))) h240)))))))))))) : wp G (d + 1) mL_law 1172 [(0, .retAddr sc), (1, .ref a1), (2, .ref a2), (3, .int x3)] [] h fin Q := by
  refine wp_aload_n (i := 1) dL_law_1172 rfl rfl ?_
  refine wp_aload_nS (i := 0) dL_law_1173 rfl rfl ?_
  refine wp_iload_n (i := 3) dL_law_1174 rfl rfl ?_
  refine wp_iconst (v := 1) dL_law_1175 (by decide) ?_
  refine wp_iadd dL_law_1176 ?_
  obtain ⟨q, hv⟩ := hv
  refine wp_sld dL_law_1177 q ?_
  generalize gx G ((x3 + (1 : Int32))).toNatClampNeg = v236 at hv ⊢
  obtain ⟨fs, c, hv⟩ := hv
  obtain ⟨fin', hr, hv⟩ := hv
  refine wp_callV (vs := [.int v236]) (st := []) (fin' := fin') dL_law_1178 c rfl k13_138_11 rfl (Nat.le_of_ble_eq_true rfl) (Nat.le_of_ble_eq_true rfl) hr (wp_mono hv ?_)
  intro r h237 hv e1
  replace hv := hv e1
  obtain ⟨v238, rfl, hv⟩ := hv
  change wp _ _ _ _ _ [.int v238] _ _ _
  refine wp_aload_n (i := 2) dL_law_1181 rfl rfl ?_
  refine wp_aload_nS (i := 0) dL_law_1182 rfl rfl ?_
  refine wp_iload_n (i := 3) dL_law_1183 rfl rfl ?_
  refine wp_iconst (v := 1) dL_law_1184 (by decide) ?_
  refine wp_iadd dL_law_1185 ?_
  obtain ⟨q, hv⟩ := hv
  refine wp_sld dL_law_1186 q ?_
  generalize gx G ((x3 + (1 : Int32))).toNatClampNeg = v239 at hv ⊢
  obtain ⟨fs, c, hv⟩ := hv
  obtain ⟨fin', hr, hv⟩ := hv
  refine wp_callV (vs := [.int v239]) (st := [.int v238]) (fin' := fin') dL_law_1187 c rfl k13_141_12 rfl (Nat.le_of_ble_eq_true rfl) (Nat.le_of_ble_eq_true rfl) hr (wp_mono hv ?_)
  intro r h240 hv e1
  replace hv := hv e1
  obtain ⟨v241, rfl, hv⟩ := hv
  change wp _ _ _ _ _ [.int v241, .int v238] _ _ _
  refine wp_icmp_eq 1606 dL_law_1190 (by decide) (fun q => ?_) (fun q => ?_)
  · replace hv := hv.1 q
    refine wx_iinc (v := 6) (ls' := [(0, .retAddr sc), (1, .ref a1), (2, .ref a2), (3, .int (x3 + 6))]) dL_law_1606 rfl (by decide) (by decide) rfl ?_
    refine wp_goto 18 dL_law_1609 (by decide) ?_
    exact hv
  · replace hv := hv.2 q
    refine wp_iconst (v := 0) dL_law_1193 (by decide) ?_
    obtain ⟨e, hv⟩ := hv
    exact wp_ireturn dL_law_1194 rfl (by decide) e hv
theorem vL_law_1195 {G : Gp} {d : Nat} {h : AH} {fin : Nat × Nat} {Q : Option Value → AH → Prop} {sc : Nat} {a1 : Nat} {a2 : Nat} {x3 : Int32} (hv : SL G (x3 + (1 : Int32)) (fun v242 => SL G (x3 + (2 : Int32)) (fun v243 => SL G (x3 + (3 : Int32)) (fun v244 => (∃ fs : List Value, h.1 a1 = some (.inr (11, fs)) ∧ ∃ fin' : Nat × Nat, cR h fin' fin ∧ wp G d mX11_act 0 [(0, .ref a1), (1, .int v242), (2, .int v243), (3, .int v244)] [] h fin' (fun r h245 => h245.2 = fin' → (∃ v246, r = some (.int v246) ∧ SL G (x3 + (1 : Int32)) (fun v247 => SL G (x3 + (2 : Int32)) (fun v248 => SL G (x3 + (3 : Int32)) (fun v249 => (∃ fs : List Value, h245.1 a2 = some (.inr (12, fs)) ∧ ∃ fin' : Nat × Nat, cR h245 fin' fin ∧ wp G d mX12_act 0 [(0, .ref a2), (1, .int v247), (2, .int v248), (3, .int v249)] [] h245 fin' (fun r h250 => h250.2 = fin' → (∃ v251, r = some (.int v251) ∧ ((v246 = v251 → wp G (d + 1) mL_law 18 [(0, .retAddr sc), (1, .ref a1), (2, .ref a2), (3, .int (x3 + 6))] [] h250 fin Q) ∧ (¬ v246 = v251 → (h250.2 = fin ∧ Q (some (.int (0 : Int32))) h250)))))))))))))))) : wp G (d + 1) mL_law 1195 [(0, .retAddr sc), (1, .ref a1), (2, .ref a2), (3, .int x3)] [] h fin Q := by
  refine wp_aload_n (i := 1) dL_law_1195 rfl rfl ?_
  refine wp_aload_nS (i := 0) dL_law_1196 rfl rfl ?_
  refine wp_iload_n (i := 3) dL_law_1197 rfl rfl ?_
  refine wp_iconst (v := 1) dL_law_1198 (by decide) ?_
  refine wp_iadd dL_law_1199 ?_
  obtain ⟨q, hv⟩ := hv
  refine wp_sld dL_law_1200 q ?_
  generalize gx G ((x3 + (1 : Int32))).toNatClampNeg = v242 at hv ⊢
  refine wp_aload_nS (i := 0) dL_law_1201 rfl rfl ?_
  refine wp_iload_n (i := 3) dL_law_1202 rfl rfl ?_
  refine wp_iconst (v := 2) dL_law_1203 (by decide) ?_
  refine wp_iadd dL_law_1204 ?_
  obtain ⟨q, hv⟩ := hv
  refine wp_sld dL_law_1205 q ?_
  generalize gx G ((x3 + (2 : Int32))).toNatClampNeg = v243 at hv ⊢
  refine wp_aload_nS (i := 0) dL_law_1206 rfl rfl ?_
  refine wp_iload_n (i := 3) dL_law_1207 rfl rfl ?_
  refine wp_iconst (v := 3) dL_law_1208 (by decide) ?_
  refine wp_iadd dL_law_1209 ?_
  obtain ⟨q, hv⟩ := hv
  refine wp_sld dL_law_1210 q ?_
  generalize gx G ((x3 + (3 : Int32))).toNatClampNeg = v244 at hv ⊢
  obtain ⟨fs, c, hv⟩ := hv
  obtain ⟨fin', hr, hv⟩ := hv
  refine wp_callV (vs := [.int v242, .int v243, .int v244]) (st := []) (fin' := fin') dL_law_1211 c rfl k13_142_11 rfl (Nat.le_of_ble_eq_true rfl) (Nat.le_of_ble_eq_true rfl) hr (wp_mono hv ?_)
  intro r h245 hv e1
  replace hv := hv e1
  obtain ⟨v246, rfl, hv⟩ := hv
  change wp _ _ _ _ _ [.int v246] _ _ _
  refine wp_aload_n (i := 2) dL_law_1214 rfl rfl ?_
  refine wp_aload_nS (i := 0) dL_law_1215 rfl rfl ?_
  refine wp_iload_n (i := 3) dL_law_1216 rfl rfl ?_
  refine wp_iconst (v := 1) dL_law_1217 (by decide) ?_
  refine wp_iadd dL_law_1218 ?_
  obtain ⟨q, hv⟩ := hv
  refine wp_sld dL_law_1219 q ?_
  generalize gx G ((x3 + (1 : Int32))).toNatClampNeg = v247 at hv ⊢
  refine wp_aload_nS (i := 0) dL_law_1220 rfl rfl ?_
  refine wp_iload_n (i := 3) dL_law_1221 rfl rfl ?_
  refine wp_iconst (v := 2) dL_law_1222 (by decide) ?_
  refine wp_iadd dL_law_1223 ?_
  obtain ⟨q, hv⟩ := hv
  refine wp_sld dL_law_1224 q ?_
  generalize gx G ((x3 + (2 : Int32))).toNatClampNeg = v248 at hv ⊢
  refine wp_aload_nS (i := 0) dL_law_1225 rfl rfl ?_
  refine wp_iload_n (i := 3) dL_law_1226 rfl rfl ?_
  refine wp_iconst (v := 3) dL_law_1227 (by decide) ?_
  refine wp_iadd dL_law_1228 ?_
  obtain ⟨q, hv⟩ := hv
  refine wp_sld dL_law_1229 q ?_
  generalize gx G ((x3 + (3 : Int32))).toNatClampNeg = v249 at hv ⊢
  obtain ⟨fs, c, hv⟩ := hv
  obtain ⟨fin', hr, hv⟩ := hv
  refine wp_callV (vs := [.int v247, .int v248, .int v249]) (st := [.int v246]) (fin' := fin') dL_law_1230 c rfl k13_145_12 rfl (Nat.le_of_ble_eq_true rfl) (Nat.le_of_ble_eq_true rfl) hr (wp_mono hv ?_)
  intro r h250 hv e1
  replace hv := hv e1
  obtain ⟨v251, rfl, hv⟩ := hv
  change wp _ _ _ _ _ [.int v251, .int v246] _ _ _
  refine wp_icmp_eq 1606 dL_law_1233 (by decide) (fun q => ?_) (fun q => ?_)
  · replace hv := hv.1 q
    refine wx_iinc (v := 6) (ls' := [(0, .retAddr sc), (1, .ref a1), (2, .ref a2), (3, .int (x3 + 6))]) dL_law_1606 rfl (by decide) (by decide) rfl ?_
    refine wp_goto 18 dL_law_1609 (by decide) ?_
    exact hv
  · replace hv := hv.2 q
    refine wp_iconst (v := 0) dL_law_1236 (by decide) ?_
    obtain ⟨e, hv⟩ := hv
    exact wp_ireturn dL_law_1237 rfl (by decide) e hv
theorem vL_law_1238 {G : Gp} {d : Nat} {h : AH} {fin : Nat × Nat} {Q : Option Value → AH → Prop} {sc : Nat} {a1 : Nat} {a2 : Nat} {x3 : Int32} (hv : SL G (x3 + (1 : Int32)) (fun v252 => (∃ fs : List Value, h.1 a1 = some (.inr (11, fs)) ∧ ∃ fin' : Nat × Nat, cR h fin' fin ∧ wp G d mX11_trace 0 [(0, .ref a1), (1, .int v252)] [] h fin' (fun r h253 => h253.2 = fin' → (∃ v254, r = some (.int v254) ∧ SL G (x3 + (1 : Int32)) (fun v255 => (∃ fs : List Value, h253.1 a2 = some (.inr (12, fs)) ∧ ∃ fin' : Nat × Nat, cR h253 fin' fin ∧ wp G d mX12_trace 0 [(0, .ref a2), (1, .int v255)] [] h253 fin' (fun r h256 => h256.2 = fin' → (∃ v257, r = some (.int v257) ∧ ((v254 = v257 → wp G (d + 1) mL_law 18 [(0, .retAddr sc), (1, .ref a1), (2, .ref a2), (3, .int (x3 + 6))] [] h256 fin Q) ∧ (¬ v254 = v257 → (h256.2 = fin ∧ Q (some (.int (0 : Int32))) h256)))))))))))) : wp G (d + 1) mL_law 1238 [(0, .retAddr sc), (1, .ref a1), (2, .ref a2), (3, .int x3)] [] h fin Q := by
  refine wp_aload_n (i := 1) dL_law_1238 rfl rfl ?_
  refine wp_aload_nS (i := 0) dL_law_1239 rfl rfl ?_
  refine wp_iload_n (i := 3) dL_law_1240 rfl rfl ?_
  refine wp_iconst (v := 1) dL_law_1241 (by decide) ?_
  refine wp_iadd dL_law_1242 ?_
  obtain ⟨q, hv⟩ := hv
  refine wp_sld dL_law_1243 q ?_
  generalize gx G ((x3 + (1 : Int32))).toNatClampNeg = v252 at hv ⊢
  obtain ⟨fs, c, hv⟩ := hv
  obtain ⟨fin', hr, hv⟩ := hv
  refine wp_callV (vs := [.int v252]) (st := []) (fin' := fin') dL_law_1244 c rfl k13_146_11 rfl (Nat.le_of_ble_eq_true rfl) (Nat.le_of_ble_eq_true rfl) hr (wp_mono hv ?_)
  intro r h253 hv e1
  replace hv := hv e1
  obtain ⟨v254, rfl, hv⟩ := hv
  change wp _ _ _ _ _ [.int v254] _ _ _
  refine wp_aload_n (i := 2) dL_law_1247 rfl rfl ?_
  refine wp_aload_nS (i := 0) dL_law_1248 rfl rfl ?_
  refine wp_iload_n (i := 3) dL_law_1249 rfl rfl ?_
  refine wp_iconst (v := 1) dL_law_1250 (by decide) ?_
  refine wp_iadd dL_law_1251 ?_
  obtain ⟨q, hv⟩ := hv
  refine wp_sld dL_law_1252 q ?_
  generalize gx G ((x3 + (1 : Int32))).toNatClampNeg = v255 at hv ⊢
  obtain ⟨fs, c, hv⟩ := hv
  obtain ⟨fin', hr, hv⟩ := hv
  refine wp_callV (vs := [.int v255]) (st := [.int v254]) (fin' := fin') dL_law_1253 c rfl k13_149_12 rfl (Nat.le_of_ble_eq_true rfl) (Nat.le_of_ble_eq_true rfl) hr (wp_mono hv ?_)
  intro r h256 hv e1
  replace hv := hv e1
  obtain ⟨v257, rfl, hv⟩ := hv
  change wp _ _ _ _ _ [.int v257, .int v254] _ _ _
  refine wp_icmp_eq 1606 dL_law_1256 (by decide) (fun q => ?_) (fun q => ?_)
  · replace hv := hv.1 q
    refine wx_iinc (v := 6) (ls' := [(0, .retAddr sc), (1, .ref a1), (2, .ref a2), (3, .int (x3 + 6))]) dL_law_1606 rfl (by decide) (by decide) rfl ?_
    refine wp_goto 18 dL_law_1609 (by decide) ?_
    exact hv
  · replace hv := hv.2 q
    refine wp_iconst (v := 0) dL_law_1259 (by decide) ?_
    obtain ⟨e, hv⟩ := hv
    exact wp_ireturn dL_law_1260 rfl (by decide) e hv
theorem vL_law_1261 {G : Gp} {d : Nat} {h : AH} {fin : Nat × Nat} {Q : Option Value → AH → Prop} {sc : Nat} {a1 : Nat} {a2 : Nat} {x3 : Int32} (hv : SL G (x3 + (1 : Int32)) (fun v258 => SL G (x3 + (2 : Int32)) (fun v259 => (∃ fs : List Value, h.1 a1 = some (.inr (11, fs)) ∧ ∃ fin' : Nat × Nat, cR h fin' fin ∧ wp G d mX11_keep 0 [(0, .ref a1), (1, .int v258), (2, .int v259)] [] h fin' (fun r h260 => h260.2 = fin' → (∃ v261, r = some (.int v261) ∧ SL G (x3 + (1 : Int32)) (fun v262 => SL G (x3 + (2 : Int32)) (fun v263 => (∃ fs : List Value, h260.1 a2 = some (.inr (12, fs)) ∧ ∃ fin' : Nat × Nat, cR h260 fin' fin ∧ wp G d mX12_keep 0 [(0, .ref a2), (1, .int v262), (2, .int v263)] [] h260 fin' (fun r h264 => h264.2 = fin' → (∃ v265, r = some (.int v265) ∧ ((v261 = v265 → wp G (d + 1) mL_law 18 [(0, .retAddr sc), (1, .ref a1), (2, .ref a2), (3, .int (x3 + 6))] [] h264 fin Q) ∧ (¬ v261 = v265 → (h264.2 = fin ∧ Q (some (.int (0 : Int32))) h264)))))))))))))) : wp G (d + 1) mL_law 1261 [(0, .retAddr sc), (1, .ref a1), (2, .ref a2), (3, .int x3)] [] h fin Q := by
  refine wp_aload_n (i := 1) dL_law_1261 rfl rfl ?_
  refine wp_aload_nS (i := 0) dL_law_1262 rfl rfl ?_
  refine wp_iload_n (i := 3) dL_law_1263 rfl rfl ?_
  refine wp_iconst (v := 1) dL_law_1264 (by decide) ?_
  refine wp_iadd dL_law_1265 ?_
  obtain ⟨q, hv⟩ := hv
  refine wp_sld dL_law_1266 q ?_
  generalize gx G ((x3 + (1 : Int32))).toNatClampNeg = v258 at hv ⊢
  refine wp_aload_nS (i := 0) dL_law_1267 rfl rfl ?_
  refine wp_iload_n (i := 3) dL_law_1268 rfl rfl ?_
  refine wp_iconst (v := 2) dL_law_1269 (by decide) ?_
  refine wp_iadd dL_law_1270 ?_
  obtain ⟨q, hv⟩ := hv
  refine wp_sld dL_law_1271 q ?_
  generalize gx G ((x3 + (2 : Int32))).toNatClampNeg = v259 at hv ⊢
  obtain ⟨fs, c, hv⟩ := hv
  obtain ⟨fin', hr, hv⟩ := hv
  refine wp_callV (vs := [.int v258, .int v259]) (st := []) (fin' := fin') dL_law_1272 c rfl k13_150_11 rfl (Nat.le_of_ble_eq_true rfl) (Nat.le_of_ble_eq_true rfl) hr (wp_mono hv ?_)
  intro r h260 hv e1
  replace hv := hv e1
  obtain ⟨v261, rfl, hv⟩ := hv
  change wp _ _ _ _ _ [.int v261] _ _ _
  refine wp_aload_n (i := 2) dL_law_1275 rfl rfl ?_
  refine wp_aload_nS (i := 0) dL_law_1276 rfl rfl ?_
  refine wp_iload_n (i := 3) dL_law_1277 rfl rfl ?_
  refine wp_iconst (v := 1) dL_law_1278 (by decide) ?_
  refine wp_iadd dL_law_1279 ?_
  obtain ⟨q, hv⟩ := hv
  refine wp_sld dL_law_1280 q ?_
  generalize gx G ((x3 + (1 : Int32))).toNatClampNeg = v262 at hv ⊢
  refine wp_aload_nS (i := 0) dL_law_1281 rfl rfl ?_
  refine wp_iload_n (i := 3) dL_law_1282 rfl rfl ?_
  refine wp_iconst (v := 2) dL_law_1283 (by decide) ?_
  refine wp_iadd dL_law_1284 ?_
  obtain ⟨q, hv⟩ := hv
  refine wp_sld dL_law_1285 q ?_
  generalize gx G ((x3 + (2 : Int32))).toNatClampNeg = v263 at hv ⊢
  obtain ⟨fs, c, hv⟩ := hv
  obtain ⟨fin', hr, hv⟩ := hv
  refine wp_callV (vs := [.int v262, .int v263]) (st := [.int v261]) (fin' := fin') dL_law_1286 c rfl k13_153_12 rfl (Nat.le_of_ble_eq_true rfl) (Nat.le_of_ble_eq_true rfl) hr (wp_mono hv ?_)
  intro r h264 hv e1
  replace hv := hv e1
  obtain ⟨v265, rfl, hv⟩ := hv
  change wp _ _ _ _ _ [.int v265, .int v261] _ _ _
  refine wp_icmp_eq 1606 dL_law_1289 (by decide) (fun q => ?_) (fun q => ?_)
  · replace hv := hv.1 q
    refine wx_iinc (v := 6) (ls' := [(0, .retAddr sc), (1, .ref a1), (2, .ref a2), (3, .int (x3 + 6))]) dL_law_1606 rfl (by decide) (by decide) rfl ?_
    refine wp_goto 18 dL_law_1609 (by decide) ?_
    exact hv
  · replace hv := hv.2 q
    refine wp_iconst (v := 0) dL_law_1292 (by decide) ?_
    obtain ⟨e, hv⟩ := hv
    exact wp_ireturn dL_law_1293 rfl (by decide) e hv
theorem vL_law_1294 {G : Gp} {d : Nat} {h : AH} {fin : Nat × Nat} {Q : Option Value → AH → Prop} {sc : Nat} {a1 : Nat} {a2 : Nat} {x3 : Int32} (hv : SL G (x3 + (1 : Int32)) (fun v266 => SL G (x3 + (2 : Int32)) (fun v267 => SL G (x3 + (3 : Int32)) (fun v268 => (∃ fs : List Value, h.1 a1 = some (.inr (11, fs)) ∧ ∃ fin' : Nat × Nat, cR h fin' fin ∧ wp G d mX11_row 0 [(0, .ref a1), (1, .int v266), (2, .int v267), (3, .int v268)] [] h fin' (fun r h269 => h269.2 = fin' → (∃ v270, r = some (.int v270) ∧ SL G (x3 + (1 : Int32)) (fun v271 => SL G (x3 + (2 : Int32)) (fun v272 => SL G (x3 + (3 : Int32)) (fun v273 => (∃ fs : List Value, h269.1 a2 = some (.inr (12, fs)) ∧ ∃ fin' : Nat × Nat, cR h269 fin' fin ∧ wp G d mX12_row 0 [(0, .ref a2), (1, .int v271), (2, .int v272), (3, .int v273)] [] h269 fin' (fun r h274 => h274.2 = fin' → (∃ v275, r = some (.int v275) ∧ ((v270 = v275 → wp G (d + 1) mL_law 18 [(0, .retAddr sc), (1, .ref a1), (2, .ref a2), (3, .int (x3 + 6))] [] h274 fin Q) ∧ (¬ v270 = v275 → (h274.2 = fin ∧ Q (some (.int (0 : Int32))) h274)))))))))))))))) : wp G (d + 1) mL_law 1294 [(0, .retAddr sc), (1, .ref a1), (2, .ref a2), (3, .int x3)] [] h fin Q := by
  refine wp_aload_n (i := 1) dL_law_1294 rfl rfl ?_
  refine wp_aload_nS (i := 0) dL_law_1295 rfl rfl ?_
  refine wp_iload_n (i := 3) dL_law_1296 rfl rfl ?_
  refine wp_iconst (v := 1) dL_law_1297 (by decide) ?_
  refine wp_iadd dL_law_1298 ?_
  obtain ⟨q, hv⟩ := hv
  refine wp_sld dL_law_1299 q ?_
  generalize gx G ((x3 + (1 : Int32))).toNatClampNeg = v266 at hv ⊢
  refine wp_aload_nS (i := 0) dL_law_1300 rfl rfl ?_
  refine wp_iload_n (i := 3) dL_law_1301 rfl rfl ?_
  refine wp_iconst (v := 2) dL_law_1302 (by decide) ?_
  refine wp_iadd dL_law_1303 ?_
  obtain ⟨q, hv⟩ := hv
  refine wp_sld dL_law_1304 q ?_
  generalize gx G ((x3 + (2 : Int32))).toNatClampNeg = v267 at hv ⊢
  refine wp_aload_nS (i := 0) dL_law_1305 rfl rfl ?_
  refine wp_iload_n (i := 3) dL_law_1306 rfl rfl ?_
  refine wp_iconst (v := 3) dL_law_1307 (by decide) ?_
  refine wp_iadd dL_law_1308 ?_
  obtain ⟨q, hv⟩ := hv
  refine wp_sld dL_law_1309 q ?_
  generalize gx G ((x3 + (3 : Int32))).toNatClampNeg = v268 at hv ⊢
  obtain ⟨fs, c, hv⟩ := hv
  obtain ⟨fin', hr, hv⟩ := hv
  refine wp_callV (vs := [.int v266, .int v267, .int v268]) (st := []) (fin' := fin') dL_law_1310 c rfl k13_154_11 rfl (Nat.le_of_ble_eq_true rfl) (Nat.le_of_ble_eq_true rfl) hr (wp_mono hv ?_)
  intro r h269 hv e1
  replace hv := hv e1
  obtain ⟨v270, rfl, hv⟩ := hv
  change wp _ _ _ _ _ [.int v270] _ _ _
  refine wp_aload_n (i := 2) dL_law_1313 rfl rfl ?_
  refine wp_aload_nS (i := 0) dL_law_1314 rfl rfl ?_
  refine wp_iload_n (i := 3) dL_law_1315 rfl rfl ?_
  refine wp_iconst (v := 1) dL_law_1316 (by decide) ?_
  refine wp_iadd dL_law_1317 ?_
  obtain ⟨q, hv⟩ := hv
  refine wp_sld dL_law_1318 q ?_
  generalize gx G ((x3 + (1 : Int32))).toNatClampNeg = v271 at hv ⊢
  refine wp_aload_nS (i := 0) dL_law_1319 rfl rfl ?_
  refine wp_iload_n (i := 3) dL_law_1320 rfl rfl ?_
  refine wp_iconst (v := 2) dL_law_1321 (by decide) ?_
  refine wp_iadd dL_law_1322 ?_
  obtain ⟨q, hv⟩ := hv
  refine wp_sld dL_law_1323 q ?_
  generalize gx G ((x3 + (2 : Int32))).toNatClampNeg = v272 at hv ⊢
  refine wp_aload_nS (i := 0) dL_law_1324 rfl rfl ?_
  refine wp_iload_n (i := 3) dL_law_1325 rfl rfl ?_
  refine wp_iconst (v := 3) dL_law_1326 (by decide) ?_
  refine wp_iadd dL_law_1327 ?_
  obtain ⟨q, hv⟩ := hv
  refine wp_sld dL_law_1328 q ?_
  generalize gx G ((x3 + (3 : Int32))).toNatClampNeg = v273 at hv ⊢
  obtain ⟨fs, c, hv⟩ := hv
  obtain ⟨fin', hr, hv⟩ := hv
  refine wp_callV (vs := [.int v271, .int v272, .int v273]) (st := [.int v270]) (fin' := fin') dL_law_1329 c rfl k13_157_12 rfl (Nat.le_of_ble_eq_true rfl) (Nat.le_of_ble_eq_true rfl) hr (wp_mono hv ?_)
  intro r h274 hv e1
  replace hv := hv e1
  obtain ⟨v275, rfl, hv⟩ := hv
  change wp _ _ _ _ _ [.int v275, .int v270] _ _ _
  refine wp_icmp_eq 1606 dL_law_1332 (by decide) (fun q => ?_) (fun q => ?_)
  · replace hv := hv.1 q
    refine wx_iinc (v := 6) (ls' := [(0, .retAddr sc), (1, .ref a1), (2, .ref a2), (3, .int (x3 + 6))]) dL_law_1606 rfl (by decide) (by decide) rfl ?_
    refine wp_goto 18 dL_law_1609 (by decide) ?_
    exact hv
  · replace hv := hv.2 q
    refine wp_iconst (v := 0) dL_law_1335 (by decide) ?_
    obtain ⟨e, hv⟩ := hv
    exact wp_ireturn dL_law_1336 rfl (by decide) e hv
theorem vL_law_1337 {G : Gp} {d : Nat} {h : AH} {fin : Nat × Nat} {Q : Option Value → AH → Prop} {sc : Nat} {a1 : Nat} {a2 : Nat} {x3 : Int32} (hv : SL G (x3 + (1 : Int32)) (fun v276 => SL G (x3 + (2 : Int32)) (fun v277 => SL G (x3 + (3 : Int32)) (fun v278 => SL G (x3 + (4 : Int32)) (fun v279 => (∃ fs : List Value, h.1 a1 = some (.inr (11, fs)) ∧ ∃ fin' : Nat × Nat, cR h fin' fin ∧ wp G d mX11_set 0 [(0, .ref a1), (1, .int v276), (2, .int v277), (3, .long (((v278.toInt64) <<< ((32 : Int32).toInt64 &&& 63)) ||| ((v279.toInt64) &&& (4294967295 : Int64))))] [] h fin' (fun r h280 => h280.2 = fin' → (∃ v281, r = some (.int v281) ∧ SL G (x3 + (1 : Int32)) (fun v282 => SL G (x3 + (2 : Int32)) (fun v283 => SL G (x3 + (3 : Int32)) (fun v284 => SL G (x3 + (4 : Int32)) (fun v285 => (∃ fs : List Value, h280.1 a2 = some (.inr (12, fs)) ∧ ∃ fin' : Nat × Nat, cR h280 fin' fin ∧ wp G d mX12_set 0 [(0, .ref a2), (1, .int v282), (2, .int v283), (3, .long (((v284.toInt64) <<< ((32 : Int32).toInt64 &&& 63)) ||| ((v285.toInt64) &&& (4294967295 : Int64))))] [] h280 fin' (fun r h286 => h286.2 = fin' → (∃ v287, r = some (.int v287) ∧ ((v281 = v287 → wp G (d + 1) mL_law 18 [(0, .retAddr sc), (1, .ref a1), (2, .ref a2), (3, .int (x3 + 6))] [] h286 fin Q) ∧ (¬ v281 = v287 → (h286.2 = fin ∧ Q (some (.int (0 : Int32))) h286)))))))))))))))))) : wp G (d + 1) mL_law 1337 [(0, .retAddr sc), (1, .ref a1), (2, .ref a2), (3, .int x3)] [] h fin Q := by
  refine wp_aload_n (i := 1) dL_law_1337 rfl rfl ?_
  refine wp_aload_nS (i := 0) dL_law_1338 rfl rfl ?_
  refine wp_iload_n (i := 3) dL_law_1339 rfl rfl ?_
  refine wp_iconst (v := 1) dL_law_1340 (by decide) ?_
  refine wp_iadd dL_law_1341 ?_
  obtain ⟨q, hv⟩ := hv
  refine wp_sld dL_law_1342 q ?_
  generalize gx G ((x3 + (1 : Int32))).toNatClampNeg = v276 at hv ⊢
  refine wp_aload_nS (i := 0) dL_law_1343 rfl rfl ?_
  refine wp_iload_n (i := 3) dL_law_1344 rfl rfl ?_
  refine wp_iconst (v := 2) dL_law_1345 (by decide) ?_
  refine wp_iadd dL_law_1346 ?_
  obtain ⟨q, hv⟩ := hv
  refine wp_sld dL_law_1347 q ?_
  generalize gx G ((x3 + (2 : Int32))).toNatClampNeg = v277 at hv ⊢
  refine wp_aload_nS (i := 0) dL_law_1348 rfl rfl ?_
  refine wp_iload_n (i := 3) dL_law_1349 rfl rfl ?_
  refine wp_iconst (v := 3) dL_law_1350 (by decide) ?_
  refine wp_iadd dL_law_1351 ?_
  obtain ⟨q, hv⟩ := hv
  refine wp_sld dL_law_1352 q ?_
  generalize gx G ((x3 + (3 : Int32))).toNatClampNeg = v278 at hv ⊢
  refine wp_i2l dL_law_1353 ?_
  refine wp_bipush (v := 32) dL_law_1354 (by decide) ?_
  refine wp_lshl dL_law_1356 ?_
  refine wp_aload_nS (i := 0) dL_law_1357 rfl rfl ?_
  refine wp_iload_n (i := 3) dL_law_1358 rfl rfl ?_
  refine wp_iconst (v := 4) dL_law_1359 (by decide) ?_
  refine wp_iadd dL_law_1360 ?_
  obtain ⟨q, hv⟩ := hv
  refine wp_sld dL_law_1361 q ?_
  generalize gx G ((x3 + (4 : Int32))).toNatClampNeg = v279 at hv ⊢
  refine wp_i2l dL_law_1362 ?_
  refine wp_ldc2 (v := 4294967295) dL_law_1363 q13_158 ?_
  refine wp_land dL_law_1366 ?_
  refine wp_lor dL_law_1367 ?_
  obtain ⟨fs, c, hv⟩ := hv
  obtain ⟨fin', hr, hv⟩ := hv
  refine wp_callV (vs := [.int v276, .int v277, .long (((v278.toInt64) <<< ((32 : Int32).toInt64 &&& 63)) ||| ((v279.toInt64) &&& (4294967295 : Int64)))]) (st := []) (fin' := fin') dL_law_1368 c rfl k13_160_11 rfl (Nat.le_of_ble_eq_true rfl) (Nat.le_of_ble_eq_true rfl) hr (wp_mono hv ?_)
  intro r h280 hv e1
  replace hv := hv e1
  obtain ⟨v281, rfl, hv⟩ := hv
  change wp _ _ _ _ _ [.int v281] _ _ _
  refine wp_aload_n (i := 2) dL_law_1371 rfl rfl ?_
  refine wp_aload_nS (i := 0) dL_law_1372 rfl rfl ?_
  refine wp_iload_n (i := 3) dL_law_1373 rfl rfl ?_
  refine wp_iconst (v := 1) dL_law_1374 (by decide) ?_
  refine wp_iadd dL_law_1375 ?_
  obtain ⟨q, hv⟩ := hv
  refine wp_sld dL_law_1376 q ?_
  generalize gx G ((x3 + (1 : Int32))).toNatClampNeg = v282 at hv ⊢
  refine wp_aload_nS (i := 0) dL_law_1377 rfl rfl ?_
  refine wp_iload_n (i := 3) dL_law_1378 rfl rfl ?_
  refine wp_iconst (v := 2) dL_law_1379 (by decide) ?_
  refine wp_iadd dL_law_1380 ?_
  obtain ⟨q, hv⟩ := hv
  refine wp_sld dL_law_1381 q ?_
  generalize gx G ((x3 + (2 : Int32))).toNatClampNeg = v283 at hv ⊢
  refine wp_aload_nS (i := 0) dL_law_1382 rfl rfl ?_
  refine wp_iload_n (i := 3) dL_law_1383 rfl rfl ?_
  refine wp_iconst (v := 3) dL_law_1384 (by decide) ?_
  refine wp_iadd dL_law_1385 ?_
  obtain ⟨q, hv⟩ := hv
  refine wp_sld dL_law_1386 q ?_
  generalize gx G ((x3 + (3 : Int32))).toNatClampNeg = v284 at hv ⊢
  refine wp_i2l dL_law_1387 ?_
  refine wp_bipush (v := 32) dL_law_1388 (by decide) ?_
  refine wp_lshl dL_law_1390 ?_
  refine wp_aload_nS (i := 0) dL_law_1391 rfl rfl ?_
  refine wp_iload_n (i := 3) dL_law_1392 rfl rfl ?_
  refine wp_iconst (v := 4) dL_law_1393 (by decide) ?_
  refine wp_iadd dL_law_1394 ?_
  obtain ⟨q, hv⟩ := hv
  refine wp_sld dL_law_1395 q ?_
  generalize gx G ((x3 + (4 : Int32))).toNatClampNeg = v285 at hv ⊢
  refine wp_i2l dL_law_1396 ?_
  refine wp_ldc2 (v := 4294967295) dL_law_1397 q13_158 ?_
  refine wp_land dL_law_1400 ?_
  refine wp_lor dL_law_1401 ?_
  obtain ⟨fs, c, hv⟩ := hv
  obtain ⟨fin', hr, hv⟩ := hv
  refine wp_callV (vs := [.int v282, .int v283, .long (((v284.toInt64) <<< ((32 : Int32).toInt64 &&& 63)) ||| ((v285.toInt64) &&& (4294967295 : Int64)))]) (st := [.int v281]) (fin' := fin') dL_law_1402 c rfl k13_164_12 rfl (Nat.le_of_ble_eq_true rfl) (Nat.le_of_ble_eq_true rfl) hr (wp_mono hv ?_)
  intro r h286 hv e1
  replace hv := hv e1
  obtain ⟨v287, rfl, hv⟩ := hv
  change wp _ _ _ _ _ [.int v287, .int v281] _ _ _
  refine wp_icmp_eq 1606 dL_law_1405 (by decide) (fun q => ?_) (fun q => ?_)
  · replace hv := hv.1 q
    refine wx_iinc (v := 6) (ls' := [(0, .retAddr sc), (1, .ref a1), (2, .ref a2), (3, .int (x3 + 6))]) dL_law_1606 rfl (by decide) (by decide) rfl ?_
    refine wp_goto 18 dL_law_1609 (by decide) ?_
    exact hv
  · replace hv := hv.2 q
    refine wp_iconst (v := 0) dL_law_1408 (by decide) ?_
    obtain ⟨e, hv⟩ := hv
    exact wp_ireturn dL_law_1409 rfl (by decide) e hv
theorem vL_law_1410 {G : Gp} {d : Nat} {h : AH} {fin : Nat × Nat} {Q : Option Value → AH → Prop} {sc : Nat} {a1 : Nat} {a2 : Nat} {x3 : Int32} (hv : SL G (x3 + (1 : Int32)) (fun v288 => SL G (x3 + (2 : Int32)) (fun v289 => (∃ fs : List Value, h.1 a1 = some (.inr (11, fs)) ∧ ∃ fin' : Nat × Nat, cR h fin' fin ∧ wp G d mX11_element 0 [(0, .ref a1), (1, .int v288), (2, .int v289)] [] h fin' (fun r h290 => h290.2 = fin' → (∃ w291, r = some (.long w291) ∧ SL G (x3 + (1 : Int32)) (fun v292 => SL G (x3 + (2 : Int32)) (fun v293 => (∃ fs : List Value, h290.1 a2 = some (.inr (12, fs)) ∧ ∃ fin' : Nat × Nat, cR h290 fin' fin ∧ wp G d mX12_element 0 [(0, .ref a2), (1, .int v292), (2, .int v293)] [] h290 fin' (fun r h294 => h294.2 = fin' → (∃ w295, r = some (.long w295) ∧ (((lg_cmp w291 w295) = 0 → wp G (d + 1) mL_law 18 [(0, .retAddr sc), (1, .ref a1), (2, .ref a2), (3, .int (x3 + 6))] [] h294 fin Q) ∧ (¬ (lg_cmp w291 w295) = 0 → (h294.2 = fin ∧ Q (some (.int (0 : Int32))) h294)))))))))))))) : wp G (d + 1) mL_law 1410 [(0, .retAddr sc), (1, .ref a1), (2, .ref a2), (3, .int x3)] [] h fin Q := by
  refine wp_aload_n (i := 1) dL_law_1410 rfl rfl ?_
  refine wp_aload_nS (i := 0) dL_law_1411 rfl rfl ?_
  refine wp_iload_n (i := 3) dL_law_1412 rfl rfl ?_
  refine wp_iconst (v := 1) dL_law_1413 (by decide) ?_
  refine wp_iadd dL_law_1414 ?_
  obtain ⟨q, hv⟩ := hv
  refine wp_sld dL_law_1415 q ?_
  generalize gx G ((x3 + (1 : Int32))).toNatClampNeg = v288 at hv ⊢
  refine wp_aload_nS (i := 0) dL_law_1416 rfl rfl ?_
  refine wp_iload_n (i := 3) dL_law_1417 rfl rfl ?_
  refine wp_iconst (v := 2) dL_law_1418 (by decide) ?_
  refine wp_iadd dL_law_1419 ?_
  obtain ⟨q, hv⟩ := hv
  refine wp_sld dL_law_1420 q ?_
  generalize gx G ((x3 + (2 : Int32))).toNatClampNeg = v289 at hv ⊢
  obtain ⟨fs, c, hv⟩ := hv
  obtain ⟨fin', hr, hv⟩ := hv
  refine wp_callV (vs := [.int v288, .int v289]) (st := []) (fin' := fin') dL_law_1421 c rfl k13_165_11 rfl (Nat.le_of_ble_eq_true rfl) (Nat.le_of_ble_eq_true rfl) hr (wp_mono hv ?_)
  intro r h290 hv e1
  replace hv := hv e1
  obtain ⟨w291, rfl, hv⟩ := hv
  change wp _ _ _ _ _ [.long w291] _ _ _
  refine wp_aload_n (i := 2) dL_law_1424 rfl rfl ?_
  refine wp_aload_nS (i := 0) dL_law_1425 rfl rfl ?_
  refine wp_iload_n (i := 3) dL_law_1426 rfl rfl ?_
  refine wp_iconst (v := 1) dL_law_1427 (by decide) ?_
  refine wp_iadd dL_law_1428 ?_
  obtain ⟨q, hv⟩ := hv
  refine wp_sld dL_law_1429 q ?_
  generalize gx G ((x3 + (1 : Int32))).toNatClampNeg = v292 at hv ⊢
  refine wp_aload_nS (i := 0) dL_law_1430 rfl rfl ?_
  refine wp_iload_n (i := 3) dL_law_1431 rfl rfl ?_
  refine wp_iconst (v := 2) dL_law_1432 (by decide) ?_
  refine wp_iadd dL_law_1433 ?_
  obtain ⟨q, hv⟩ := hv
  refine wp_sld dL_law_1434 q ?_
  generalize gx G ((x3 + (2 : Int32))).toNatClampNeg = v293 at hv ⊢
  obtain ⟨fs, c, hv⟩ := hv
  obtain ⟨fin', hr, hv⟩ := hv
  refine wp_callV (vs := [.int v292, .int v293]) (st := [.long w291]) (fin' := fin') dL_law_1435 c rfl k13_169_12 rfl (Nat.le_of_ble_eq_true rfl) (Nat.le_of_ble_eq_true rfl) hr (wp_mono hv ?_)
  intro r h294 hv e1
  replace hv := hv e1
  obtain ⟨w295, rfl, hv⟩ := hv
  change wp _ _ _ _ _ [.long w295, .long w291] _ _ _
  refine wp_lcmp dL_law_1438 ?_
  refine wp_if_eq 1606 dL_law_1439 (by decide) (fun q => ?_) (fun q => ?_)
  · replace hv := hv.1 q
    refine wx_iinc (v := 6) (ls' := [(0, .retAddr sc), (1, .ref a1), (2, .ref a2), (3, .int (x3 + 6))]) dL_law_1606 rfl (by decide) (by decide) rfl ?_
    refine wp_goto 18 dL_law_1609 (by decide) ?_
    exact hv
  · replace hv := hv.2 q
    refine wp_iconst (v := 0) dL_law_1442 (by decide) ?_
    obtain ⟨e, hv⟩ := hv
    exact wp_ireturn dL_law_1443 rfl (by decide) e hv
theorem vL_law_1444 {G : Gp} {d : Nat} {h : AH} {fin : Nat × Nat} {Q : Option Value → AH → Prop} {sc : Nat} {a1 : Nat} {a2 : Nat} {x3 : Int32} (hv : SL G (x3 + (1 : Int32)) (fun v296 => SL G (x3 + (2 : Int32)) (fun v297 => SL G (x3 + (3 : Int32)) (fun v298 => SL G (x3 + (4 : Int32)) (fun v299 => SL G (x3 + (5 : Int32)) (fun v300 => (∃ fs : List Value, h.1 a1 = some (.inr (11, fs)) ∧ ∃ fin' : Nat × Nat, cR h fin' fin ∧ wp G d mX11_shift 0 [(0, .ref a1), (1, .int v296), (2, .int v297), (3, .int v298), (4, .int v299), (5, .int v300)] [] h fin' (fun r h301 => h301.2 = fin' → (∃ v302, r = some (.int v302) ∧ SL G (x3 + (1 : Int32)) (fun v303 => SL G (x3 + (2 : Int32)) (fun v304 => SL G (x3 + (3 : Int32)) (fun v305 => SL G (x3 + (4 : Int32)) (fun v306 => SL G (x3 + (5 : Int32)) (fun v307 => (∃ fs : List Value, h301.1 a2 = some (.inr (12, fs)) ∧ ∃ fin' : Nat × Nat, cR h301 fin' fin ∧ wp G d mX12_shift 0 [(0, .ref a2), (1, .int v303), (2, .int v304), (3, .int v305), (4, .int v306), (5, .int v307)] [] h301 fin' (fun r h308 => h308.2 = fin' → (∃ v309, r = some (.int v309) ∧ ((v302 = v309 → wp G (d + 1) mL_law 18 [(0, .retAddr sc), (1, .ref a1), (2, .ref a2), (3, .int (x3 + 6))] [] h308 fin Q) ∧ (¬ v302 = v309 → (h308.2 = fin ∧ Q (some (.int (0 : Int32))) h308)))))))))))))))))))) : wp G (d + 1) mL_law 1444 [(0, .retAddr sc), (1, .ref a1), (2, .ref a2), (3, .int x3)] [] h fin Q := by
  refine wp_aload_n (i := 1) dL_law_1444 rfl rfl ?_
  refine wp_aload_nS (i := 0) dL_law_1445 rfl rfl ?_
  refine wp_iload_n (i := 3) dL_law_1446 rfl rfl ?_
  refine wp_iconst (v := 1) dL_law_1447 (by decide) ?_
  refine wp_iadd dL_law_1448 ?_
  obtain ⟨q, hv⟩ := hv
  refine wp_sld dL_law_1449 q ?_
  generalize gx G ((x3 + (1 : Int32))).toNatClampNeg = v296 at hv ⊢
  refine wp_aload_nS (i := 0) dL_law_1450 rfl rfl ?_
  refine wp_iload_n (i := 3) dL_law_1451 rfl rfl ?_
  refine wp_iconst (v := 2) dL_law_1452 (by decide) ?_
  refine wp_iadd dL_law_1453 ?_
  obtain ⟨q, hv⟩ := hv
  refine wp_sld dL_law_1454 q ?_
  generalize gx G ((x3 + (2 : Int32))).toNatClampNeg = v297 at hv ⊢
  refine wp_aload_nS (i := 0) dL_law_1455 rfl rfl ?_
  refine wp_iload_n (i := 3) dL_law_1456 rfl rfl ?_
  refine wp_iconst (v := 3) dL_law_1457 (by decide) ?_
  refine wp_iadd dL_law_1458 ?_
  obtain ⟨q, hv⟩ := hv
  refine wp_sld dL_law_1459 q ?_
  generalize gx G ((x3 + (3 : Int32))).toNatClampNeg = v298 at hv ⊢
  refine wp_aload_nS (i := 0) dL_law_1460 rfl rfl ?_
  refine wp_iload_n (i := 3) dL_law_1461 rfl rfl ?_
  refine wp_iconst (v := 4) dL_law_1462 (by decide) ?_
  refine wp_iadd dL_law_1463 ?_
  obtain ⟨q, hv⟩ := hv
  refine wp_sld dL_law_1464 q ?_
  generalize gx G ((x3 + (4 : Int32))).toNatClampNeg = v299 at hv ⊢
  refine wp_aload_nS (i := 0) dL_law_1465 rfl rfl ?_
  refine wp_iload_n (i := 3) dL_law_1466 rfl rfl ?_
  refine wp_iconst (v := 5) dL_law_1467 (by decide) ?_
  refine wp_iadd dL_law_1468 ?_
  obtain ⟨q, hv⟩ := hv
  refine wp_sld dL_law_1469 q ?_
  generalize gx G ((x3 + (5 : Int32))).toNatClampNeg = v300 at hv ⊢
  obtain ⟨fs, c, hv⟩ := hv
  obtain ⟨fin', hr, hv⟩ := hv
  refine wp_callV (vs := [.int v296, .int v297, .int v298, .int v299, .int v300]) (st := []) (fin' := fin') dL_law_1470 c rfl k13_170_11 rfl (Nat.le_of_ble_eq_true rfl) (Nat.le_of_ble_eq_true rfl) hr (wp_mono hv ?_)
  intro r h301 hv e1
  replace hv := hv e1
  obtain ⟨v302, rfl, hv⟩ := hv
  change wp _ _ _ _ _ [.int v302] _ _ _
  refine wp_aload_n (i := 2) dL_law_1473 rfl rfl ?_
  refine wp_aload_nS (i := 0) dL_law_1474 rfl rfl ?_
  refine wp_iload_n (i := 3) dL_law_1475 rfl rfl ?_
  refine wp_iconst (v := 1) dL_law_1476 (by decide) ?_
  refine wp_iadd dL_law_1477 ?_
  obtain ⟨q, hv⟩ := hv
  refine wp_sld dL_law_1478 q ?_
  generalize gx G ((x3 + (1 : Int32))).toNatClampNeg = v303 at hv ⊢
  refine wp_aload_nS (i := 0) dL_law_1479 rfl rfl ?_
  refine wp_iload_n (i := 3) dL_law_1480 rfl rfl ?_
  refine wp_iconst (v := 2) dL_law_1481 (by decide) ?_
  refine wp_iadd dL_law_1482 ?_
  obtain ⟨q, hv⟩ := hv
  refine wp_sld dL_law_1483 q ?_
  generalize gx G ((x3 + (2 : Int32))).toNatClampNeg = v304 at hv ⊢
  refine wp_aload_nS (i := 0) dL_law_1484 rfl rfl ?_
  refine wp_iload_n (i := 3) dL_law_1485 rfl rfl ?_
  refine wp_iconst (v := 3) dL_law_1486 (by decide) ?_
  refine wp_iadd dL_law_1487 ?_
  obtain ⟨q, hv⟩ := hv
  refine wp_sld dL_law_1488 q ?_
  generalize gx G ((x3 + (3 : Int32))).toNatClampNeg = v305 at hv ⊢
  refine wp_aload_nS (i := 0) dL_law_1489 rfl rfl ?_
  refine wp_iload_n (i := 3) dL_law_1490 rfl rfl ?_
  refine wp_iconst (v := 4) dL_law_1491 (by decide) ?_
  refine wp_iadd dL_law_1492 ?_
  obtain ⟨q, hv⟩ := hv
  refine wp_sld dL_law_1493 q ?_
  generalize gx G ((x3 + (4 : Int32))).toNatClampNeg = v306 at hv ⊢
  refine wp_aload_nS (i := 0) dL_law_1494 rfl rfl ?_
  refine wp_iload_n (i := 3) dL_law_1495 rfl rfl ?_
  refine wp_iconst (v := 5) dL_law_1496 (by decide) ?_
  refine wp_iadd dL_law_1497 ?_
  obtain ⟨q, hv⟩ := hv
  refine wp_sld dL_law_1498 q ?_
  generalize gx G ((x3 + (5 : Int32))).toNatClampNeg = v307 at hv ⊢
  obtain ⟨fs, c, hv⟩ := hv
  obtain ⟨fin', hr, hv⟩ := hv
  refine wp_callV (vs := [.int v303, .int v304, .int v305, .int v306, .int v307]) (st := [.int v302]) (fin' := fin') dL_law_1499 c rfl k13_174_12 rfl (Nat.le_of_ble_eq_true rfl) (Nat.le_of_ble_eq_true rfl) hr (wp_mono hv ?_)
  intro r h308 hv e1
  replace hv := hv e1
  obtain ⟨v309, rfl, hv⟩ := hv
  change wp _ _ _ _ _ [.int v309, .int v302] _ _ _
  refine wp_icmp_eq 1606 dL_law_1502 (by decide) (fun q => ?_) (fun q => ?_)
  · replace hv := hv.1 q
    refine wx_iinc (v := 6) (ls' := [(0, .retAddr sc), (1, .ref a1), (2, .ref a2), (3, .int (x3 + 6))]) dL_law_1606 rfl (by decide) (by decide) rfl ?_
    refine wp_goto 18 dL_law_1609 (by decide) ?_
    exact hv
  · replace hv := hv.2 q
    refine wp_iconst (v := 0) dL_law_1505 (by decide) ?_
    obtain ⟨e, hv⟩ := hv
    exact wp_ireturn dL_law_1506 rfl (by decide) e hv
theorem vL_law_1507 {G : Gp} {d : Nat} {h : AH} {fin : Nat × Nat} {Q : Option Value → AH → Prop} {sc : Nat} {a1 : Nat} {a2 : Nat} {x3 : Int32} (hv : SL G (x3 + (1 : Int32)) (fun v310 => SL G (x3 + (2 : Int32)) (fun v311 => (∃ fs : List Value, h.1 a1 = some (.inr (11, fs)) ∧ ∃ fin' : Nat × Nat, cR h fin' fin ∧ wp G d mX11_taken 0 [(0, .ref a1), (1, .int v310), (2, .int v311)] [] h fin' (fun r h312 => h312.2 = fin' → (∃ v313, r = some (.int v313) ∧ SL G (x3 + (1 : Int32)) (fun v314 => SL G (x3 + (2 : Int32)) (fun v315 => (∃ fs : List Value, h312.1 a2 = some (.inr (12, fs)) ∧ ∃ fin' : Nat × Nat, cR h312 fin' fin ∧ wp G d mX12_taken 0 [(0, .ref a2), (1, .int v314), (2, .int v315)] [] h312 fin' (fun r h316 => h316.2 = fin' → (∃ v317, r = some (.int v317) ∧ ((v313 = v317 → wp G (d + 1) mL_law 18 [(0, .retAddr sc), (1, .ref a1), (2, .ref a2), (3, .int (x3 + 6))] [] h316 fin Q) ∧ (¬ v313 = v317 → (h316.2 = fin ∧ Q (some (.int (0 : Int32))) h316)))))))))))))) : wp G (d + 1) mL_law 1507 [(0, .retAddr sc), (1, .ref a1), (2, .ref a2), (3, .int x3)] [] h fin Q := by
  refine wp_aload_n (i := 1) dL_law_1507 rfl rfl ?_
  refine wp_aload_nS (i := 0) dL_law_1508 rfl rfl ?_
  refine wp_iload_n (i := 3) dL_law_1509 rfl rfl ?_
  refine wp_iconst (v := 1) dL_law_1510 (by decide) ?_
  refine wp_iadd dL_law_1511 ?_
  obtain ⟨q, hv⟩ := hv
  refine wp_sld dL_law_1512 q ?_
  generalize gx G ((x3 + (1 : Int32))).toNatClampNeg = v310 at hv ⊢
  refine wp_aload_nS (i := 0) dL_law_1513 rfl rfl ?_
  refine wp_iload_n (i := 3) dL_law_1514 rfl rfl ?_
  refine wp_iconst (v := 2) dL_law_1515 (by decide) ?_
  refine wp_iadd dL_law_1516 ?_
  obtain ⟨q, hv⟩ := hv
  refine wp_sld dL_law_1517 q ?_
  generalize gx G ((x3 + (2 : Int32))).toNatClampNeg = v311 at hv ⊢
  obtain ⟨fs, c, hv⟩ := hv
  obtain ⟨fin', hr, hv⟩ := hv
  refine wp_callV (vs := [.int v310, .int v311]) (st := []) (fin' := fin') dL_law_1518 c rfl k13_175_11 rfl (Nat.le_of_ble_eq_true rfl) (Nat.le_of_ble_eq_true rfl) hr (wp_mono hv ?_)
  intro r h312 hv e1
  replace hv := hv e1
  obtain ⟨v313, rfl, hv⟩ := hv
  change wp _ _ _ _ _ [.int v313] _ _ _
  refine wp_aload_n (i := 2) dL_law_1521 rfl rfl ?_
  refine wp_aload_nS (i := 0) dL_law_1522 rfl rfl ?_
  refine wp_iload_n (i := 3) dL_law_1523 rfl rfl ?_
  refine wp_iconst (v := 1) dL_law_1524 (by decide) ?_
  refine wp_iadd dL_law_1525 ?_
  obtain ⟨q, hv⟩ := hv
  refine wp_sld dL_law_1526 q ?_
  generalize gx G ((x3 + (1 : Int32))).toNatClampNeg = v314 at hv ⊢
  refine wp_aload_nS (i := 0) dL_law_1527 rfl rfl ?_
  refine wp_iload_n (i := 3) dL_law_1528 rfl rfl ?_
  refine wp_iconst (v := 2) dL_law_1529 (by decide) ?_
  refine wp_iadd dL_law_1530 ?_
  obtain ⟨q, hv⟩ := hv
  refine wp_sld dL_law_1531 q ?_
  generalize gx G ((x3 + (2 : Int32))).toNatClampNeg = v315 at hv ⊢
  obtain ⟨fs, c, hv⟩ := hv
  obtain ⟨fin', hr, hv⟩ := hv
  refine wp_callV (vs := [.int v314, .int v315]) (st := [.int v313]) (fin' := fin') dL_law_1532 c rfl k13_178_12 rfl (Nat.le_of_ble_eq_true rfl) (Nat.le_of_ble_eq_true rfl) hr (wp_mono hv ?_)
  intro r h316 hv e1
  replace hv := hv e1
  obtain ⟨v317, rfl, hv⟩ := hv
  change wp _ _ _ _ _ [.int v317, .int v313] _ _ _
  refine wp_icmp_eq 1606 dL_law_1535 (by decide) (fun q => ?_) (fun q => ?_)
  · replace hv := hv.1 q
    refine wx_iinc (v := 6) (ls' := [(0, .retAddr sc), (1, .ref a1), (2, .ref a2), (3, .int (x3 + 6))]) dL_law_1606 rfl (by decide) (by decide) rfl ?_
    refine wp_goto 18 dL_law_1609 (by decide) ?_
    exact hv
  · replace hv := hv.2 q
    refine wp_iconst (v := 0) dL_law_1538 (by decide) ?_
    obtain ⟨e, hv⟩ := hv
    exact wp_ireturn dL_law_1539 rfl (by decide) e hv
theorem vL_law_1540 {G : Gp} {d : Nat} {h : AH} {fin : Nat × Nat} {Q : Option Value → AH → Prop} {sc : Nat} {a1 : Nat} {a2 : Nat} {x3 : Int32} (hv : SL G (x3 + (1 : Int32)) (fun v318 => SL G (x3 + (2 : Int32)) (fun v319 => SL G (x3 + (3 : Int32)) (fun v320 => (∃ fs : List Value, h.1 a1 = some (.inr (11, fs)) ∧ ∃ fin' : Nat × Nat, cR h fin' fin ∧ wp G d mX11_things 0 [(0, .ref a1), (1, .int v318), (2, .int v319), (3, .int v320)] [] h fin' (fun r h321 => h321.2 = fin' → (∃ v322, r = some (.int v322) ∧ SL G (x3 + (1 : Int32)) (fun v323 => SL G (x3 + (2 : Int32)) (fun v324 => SL G (x3 + (3 : Int32)) (fun v325 => (∃ fs : List Value, h321.1 a2 = some (.inr (12, fs)) ∧ ∃ fin' : Nat × Nat, cR h321 fin' fin ∧ wp G d mX12_things 0 [(0, .ref a2), (1, .int v323), (2, .int v324), (3, .int v325)] [] h321 fin' (fun r h326 => h326.2 = fin' → (∃ v327, r = some (.int v327) ∧ ((v322 = v327 → wp G (d + 1) mL_law 18 [(0, .retAddr sc), (1, .ref a1), (2, .ref a2), (3, .int (x3 + 6))] [] h326 fin Q) ∧ (¬ v322 = v327 → (h326.2 = fin ∧ Q (some (.int (0 : Int32))) h326)))))))))))))))) : wp G (d + 1) mL_law 1540 [(0, .retAddr sc), (1, .ref a1), (2, .ref a2), (3, .int x3)] [] h fin Q := by
  refine wp_aload_n (i := 1) dL_law_1540 rfl rfl ?_
  refine wp_aload_nS (i := 0) dL_law_1541 rfl rfl ?_
  refine wp_iload_n (i := 3) dL_law_1542 rfl rfl ?_
  refine wp_iconst (v := 1) dL_law_1543 (by decide) ?_
  refine wp_iadd dL_law_1544 ?_
  obtain ⟨q, hv⟩ := hv
  refine wp_sld dL_law_1545 q ?_
  generalize gx G ((x3 + (1 : Int32))).toNatClampNeg = v318 at hv ⊢
  refine wp_aload_nS (i := 0) dL_law_1546 rfl rfl ?_
  refine wp_iload_n (i := 3) dL_law_1547 rfl rfl ?_
  refine wp_iconst (v := 2) dL_law_1548 (by decide) ?_
  refine wp_iadd dL_law_1549 ?_
  obtain ⟨q, hv⟩ := hv
  refine wp_sld dL_law_1550 q ?_
  generalize gx G ((x3 + (2 : Int32))).toNatClampNeg = v319 at hv ⊢
  refine wp_aload_nS (i := 0) dL_law_1551 rfl rfl ?_
  refine wp_iload_n (i := 3) dL_law_1552 rfl rfl ?_
  refine wp_iconst (v := 3) dL_law_1553 (by decide) ?_
  refine wp_iadd dL_law_1554 ?_
  obtain ⟨q, hv⟩ := hv
  refine wp_sld dL_law_1555 q ?_
  generalize gx G ((x3 + (3 : Int32))).toNatClampNeg = v320 at hv ⊢
  obtain ⟨fs, c, hv⟩ := hv
  obtain ⟨fin', hr, hv⟩ := hv
  refine wp_callV (vs := [.int v318, .int v319, .int v320]) (st := []) (fin' := fin') dL_law_1556 c rfl k13_179_11 rfl (Nat.le_of_ble_eq_true rfl) (Nat.le_of_ble_eq_true rfl) hr (wp_mono hv ?_)
  intro r h321 hv e1
  replace hv := hv e1
  obtain ⟨v322, rfl, hv⟩ := hv
  change wp _ _ _ _ _ [.int v322] _ _ _
  refine wp_aload_n (i := 2) dL_law_1559 rfl rfl ?_
  refine wp_aload_nS (i := 0) dL_law_1560 rfl rfl ?_
  refine wp_iload_n (i := 3) dL_law_1561 rfl rfl ?_
  refine wp_iconst (v := 1) dL_law_1562 (by decide) ?_
  refine wp_iadd dL_law_1563 ?_
  obtain ⟨q, hv⟩ := hv
  refine wp_sld dL_law_1564 q ?_
  generalize gx G ((x3 + (1 : Int32))).toNatClampNeg = v323 at hv ⊢
  refine wp_aload_nS (i := 0) dL_law_1565 rfl rfl ?_
  refine wp_iload_n (i := 3) dL_law_1566 rfl rfl ?_
  refine wp_iconst (v := 2) dL_law_1567 (by decide) ?_
  refine wp_iadd dL_law_1568 ?_
  obtain ⟨q, hv⟩ := hv
  refine wp_sld dL_law_1569 q ?_
  generalize gx G ((x3 + (2 : Int32))).toNatClampNeg = v324 at hv ⊢
  refine wp_aload_nS (i := 0) dL_law_1570 rfl rfl ?_
  refine wp_iload_n (i := 3) dL_law_1571 rfl rfl ?_
  refine wp_iconst (v := 3) dL_law_1572 (by decide) ?_
  refine wp_iadd dL_law_1573 ?_
  obtain ⟨q, hv⟩ := hv
  refine wp_sld dL_law_1574 q ?_
  generalize gx G ((x3 + (3 : Int32))).toNatClampNeg = v325 at hv ⊢
  obtain ⟨fs, c, hv⟩ := hv
  obtain ⟨fin', hr, hv⟩ := hv
  refine wp_callV (vs := [.int v323, .int v324, .int v325]) (st := [.int v322]) (fin' := fin') dL_law_1575 c rfl k13_182_12 rfl (Nat.le_of_ble_eq_true rfl) (Nat.le_of_ble_eq_true rfl) hr (wp_mono hv ?_)
  intro r h326 hv e1
  replace hv := hv e1
  obtain ⟨v327, rfl, hv⟩ := hv
  change wp _ _ _ _ _ [.int v327, .int v322] _ _ _
  refine wp_icmp_eq 1606 dL_law_1578 (by decide) (fun q => ?_) (fun q => ?_)
  · replace hv := hv.1 q
    refine wx_iinc (v := 6) (ls' := [(0, .retAddr sc), (1, .ref a1), (2, .ref a2), (3, .int (x3 + 6))]) dL_law_1606 rfl (by decide) (by decide) rfl ?_
    refine wp_goto 18 dL_law_1609 (by decide) ?_
    exact hv
  · replace hv := hv.2 q
    refine wp_iconst (v := 0) dL_law_1581 (by decide) ?_
    obtain ⟨e, hv⟩ := hv
    exact wp_ireturn dL_law_1582 rfl (by decide) e hv
theorem vL_law_1583 {G : Gp} {d : Nat} {h : AH} {fin : Nat × Nat} {Q : Option Value → AH → Prop} {sc : Nat} {a1 : Nat} {a2 : Nat} {x3 : Int32} (hv : SL G (x3 + (1 : Int32)) (fun v328 => (∃ fs : List Value, h.1 a1 = some (.inr (11, fs)) ∧ ∃ fin' : Nat × Nat, cR h fin' fin ∧ wp G d mX11_count 0 [(0, .ref a1), (1, .int v328)] [] h fin' (fun r h329 => h329.2 = fin' → (∃ v330, r = some (.int v330) ∧ SL G (x3 + (1 : Int32)) (fun v331 => (∃ fs : List Value, h329.1 a2 = some (.inr (12, fs)) ∧ ∃ fin' : Nat × Nat, cR h329 fin' fin ∧ wp G d mX12_count 0 [(0, .ref a2), (1, .int v331)] [] h329 fin' (fun r h332 => h332.2 = fin' → (∃ v333, r = some (.int v333) ∧ ((v330 = v333 → wp G (d + 1) mL_law 18 [(0, .retAddr sc), (1, .ref a1), (2, .ref a2), (3, .int (x3 + 6))] [] h332 fin Q) ∧ (¬ v330 = v333 → (h332.2 = fin ∧ Q (some (.int (0 : Int32))) h332)))))))))))) : wp G (d + 1) mL_law 1583 [(0, .retAddr sc), (1, .ref a1), (2, .ref a2), (3, .int x3)] [] h fin Q := by
  refine wp_aload_n (i := 1) dL_law_1583 rfl rfl ?_
  refine wp_aload_nS (i := 0) dL_law_1584 rfl rfl ?_
  refine wp_iload_n (i := 3) dL_law_1585 rfl rfl ?_
  refine wp_iconst (v := 1) dL_law_1586 (by decide) ?_
  refine wp_iadd dL_law_1587 ?_
  obtain ⟨q, hv⟩ := hv
  refine wp_sld dL_law_1588 q ?_
  generalize gx G ((x3 + (1 : Int32))).toNatClampNeg = v328 at hv ⊢
  obtain ⟨fs, c, hv⟩ := hv
  obtain ⟨fin', hr, hv⟩ := hv
  refine wp_callV (vs := [.int v328]) (st := []) (fin' := fin') dL_law_1589 c rfl k13_183_11 rfl (Nat.le_of_ble_eq_true rfl) (Nat.le_of_ble_eq_true rfl) hr (wp_mono hv ?_)
  intro r h329 hv e1
  replace hv := hv e1
  obtain ⟨v330, rfl, hv⟩ := hv
  change wp _ _ _ _ _ [.int v330] _ _ _
  refine wp_aload_n (i := 2) dL_law_1592 rfl rfl ?_
  refine wp_aload_nS (i := 0) dL_law_1593 rfl rfl ?_
  refine wp_iload_n (i := 3) dL_law_1594 rfl rfl ?_
  refine wp_iconst (v := 1) dL_law_1595 (by decide) ?_
  refine wp_iadd dL_law_1596 ?_
  obtain ⟨q, hv⟩ := hv
  refine wp_sld dL_law_1597 q ?_
  generalize gx G ((x3 + (1 : Int32))).toNatClampNeg = v331 at hv ⊢
  obtain ⟨fs, c, hv⟩ := hv
  obtain ⟨fin', hr, hv⟩ := hv
  refine wp_callV (vs := [.int v331]) (st := [.int v330]) (fin' := fin') dL_law_1598 c rfl k13_186_12 rfl (Nat.le_of_ble_eq_true rfl) (Nat.le_of_ble_eq_true rfl) hr (wp_mono hv ?_)
  intro r h332 hv e1
  replace hv := hv e1
  obtain ⟨v333, rfl, hv⟩ := hv
  change wp _ _ _ _ _ [.int v333, .int v330] _ _ _
  refine wp_icmp_eq 1606 dL_law_1601 (by decide) (fun q => ?_) (fun q => ?_)
  · replace hv := hv.1 q
    refine wx_iinc (v := 6) (ls' := [(0, .retAddr sc), (1, .ref a1), (2, .ref a2), (3, .int (x3 + 6))]) dL_law_1606 rfl (by decide) (by decide) rfl ?_
    refine wp_goto 18 dL_law_1609 (by decide) ?_
    exact hv
  · replace hv := hv.2 q
    refine wp_iconst (v := 0) dL_law_1604 (by decide) ?_
    obtain ⟨e, hv⟩ := hv
    exact wp_ireturn dL_law_1605 rfl (by decide) e hv
theorem vL_law_18 {G : Gp} {d : Nat} {h : AH} {fin : Nat × Nat} {Q : Option Value → AH → Prop} {sc : Nat} {a1 : Nat} {a2 : Nat} {x3 : Int32} (hv : ((((Int32.ofNat (gL G)) - (6 : Int32)) < x3 → (h.2 = fin ∧ Q (some (.int (1 : Int32))) h)) ∧ (¬ ((Int32.ofNat (gL G)) - (6 : Int32)) < x3 → SL G x3 (fun v1 => (((v1 &&& (63 : Int32)) = (0 : Int32) → wp G (d + 1) mL_law 212 [(0, .retAddr sc), (1, .ref a1), (2, .ref a2), (3, .int x3)] [] h fin Q) ∧ ((v1 &&& (63 : Int32)) = (1 : Int32) → wp G (d + 1) mL_law 265 [(0, .retAddr sc), (1, .ref a1), (2, .ref a2), (3, .int x3)] [] h fin Q) ∧ ((v1 &&& (63 : Int32)) = (2 : Int32) → wp G (d + 1) mL_law 288 [(0, .retAddr sc), (1, .ref a1), (2, .ref a2), (3, .int x3)] [] h fin Q) ∧ ((v1 &&& (63 : Int32)) = (3 : Int32) → wp G (d + 1) mL_law 321 [(0, .retAddr sc), (1, .ref a1), (2, .ref a2), (3, .int x3)] [] h fin Q) ∧ ((v1 &&& (63 : Int32)) = (4 : Int32) → wp G (d + 1) mL_law 354 [(0, .retAddr sc), (1, .ref a1), (2, .ref a2), (3, .int x3)] [] h fin Q) ∧ ((v1 &&& (63 : Int32)) = (5 : Int32) → wp G (d + 1) mL_law 387 [(0, .retAddr sc), (1, .ref a1), (2, .ref a2), (3, .int x3)] [] h fin Q) ∧ ((v1 &&& (63 : Int32)) = (6 : Int32) → wp G (d + 1) mL_law 420 [(0, .retAddr sc), (1, .ref a1), (2, .ref a2), (3, .int x3)] [] h fin Q) ∧ ((v1 &&& (63 : Int32)) = (7 : Int32) → wp G (d + 1) mL_law 433 [(0, .retAddr sc), (1, .ref a1), (2, .ref a2), (3, .int x3)] [] h fin Q) ∧ ((v1 &&& (63 : Int32)) = (8 : Int32) → wp G (d + 1) mL_law 466 [(0, .retAddr sc), (1, .ref a1), (2, .ref a2), (3, .int x3)] [] h fin Q) ∧ ((v1 &&& (63 : Int32)) = (9 : Int32) → wp G (d + 1) mL_law 509 [(0, .retAddr sc), (1, .ref a1), (2, .ref a2), (3, .int x3)] [] h fin Q) ∧ ((v1 &&& (63 : Int32)) = (10 : Int32) → wp G (d + 1) mL_law 542 [(0, .retAddr sc), (1, .ref a1), (2, .ref a2), (3, .int x3)] [] h fin Q) ∧ ((v1 &&& (63 : Int32)) = (11 : Int32) → wp G (d + 1) mL_law 575 [(0, .retAddr sc), (1, .ref a1), (2, .ref a2), (3, .int x3)] [] h fin Q) ∧ ((v1 &&& (63 : Int32)) = (12 : Int32) → wp G (d + 1) mL_law 608 [(0, .retAddr sc), (1, .ref a1), (2, .ref a2), (3, .int x3)] [] h fin Q) ∧ ((v1 &&& (63 : Int32)) = (13 : Int32) → wp G (d + 1) mL_law 661 [(0, .retAddr sc), (1, .ref a1), (2, .ref a2), (3, .int x3)] [] h fin Q) ∧ ((v1 &&& (63 : Int32)) = (14 : Int32) → wp G (d + 1) mL_law 674 [(0, .retAddr sc), (1, .ref a1), (2, .ref a2), (3, .int x3)] [] h fin Q) ∧ ((v1 &&& (63 : Int32)) = (15 : Int32) → wp G (d + 1) mL_law 717 [(0, .retAddr sc), (1, .ref a1), (2, .ref a2), (3, .int x3)] [] h fin Q) ∧ ((v1 &&& (63 : Int32)) = (16 : Int32) → wp G (d + 1) mL_law 760 [(0, .retAddr sc), (1, .ref a1), (2, .ref a2), (3, .int x3)] [] h fin Q) ∧ ((v1 &&& (63 : Int32)) = (17 : Int32) → wp G (d + 1) mL_law 793 [(0, .retAddr sc), (1, .ref a1), (2, .ref a2), (3, .int x3)] [] h fin Q) ∧ ((v1 &&& (63 : Int32)) = (18 : Int32) → wp G (d + 1) mL_law 836 [(0, .retAddr sc), (1, .ref a1), (2, .ref a2), (3, .int x3)] [] h fin Q) ∧ ((v1 &&& (63 : Int32)) = (19 : Int32) → wp G (d + 1) mL_law 879 [(0, .retAddr sc), (1, .ref a1), (2, .ref a2), (3, .int x3)] [] h fin Q) ∧ ((v1 &&& (63 : Int32)) = (20 : Int32) → wp G (d + 1) mL_law 922 [(0, .retAddr sc), (1, .ref a1), (2, .ref a2), (3, .int x3)] [] h fin Q) ∧ ((v1 &&& (63 : Int32)) = (21 : Int32) → wp G (d + 1) mL_law 955 [(0, .retAddr sc), (1, .ref a1), (2, .ref a2), (3, .int x3)] [] h fin Q) ∧ ((v1 &&& (63 : Int32)) = (22 : Int32) → wp G (d + 1) mL_law 988 [(0, .retAddr sc), (1, .ref a1), (2, .ref a2), (3, .int x3)] [] h fin Q) ∧ ((v1 &&& (63 : Int32)) = (23 : Int32) → wp G (d + 1) mL_law 1001 [(0, .retAddr sc), (1, .ref a1), (2, .ref a2), (3, .int x3)] [] h fin Q) ∧ ((v1 &&& (63 : Int32)) = (24 : Int32) → wp G (d + 1) mL_law 1024 [(0, .retAddr sc), (1, .ref a1), (2, .ref a2), (3, .int x3)] [] h fin Q) ∧ ((v1 &&& (63 : Int32)) = (25 : Int32) → wp G (d + 1) mL_law 1067 [(0, .retAddr sc), (1, .ref a1), (2, .ref a2), (3, .int x3)] [] h fin Q) ∧ ((v1 &&& (63 : Int32)) = (26 : Int32) → wp G (d + 1) mL_law 1080 [(0, .retAddr sc), (1, .ref a1), (2, .ref a2), (3, .int x3)] [] h fin Q) ∧ ((v1 &&& (63 : Int32)) = (27 : Int32) → wp G (d + 1) mL_law 1113 [(0, .retAddr sc), (1, .ref a1), (2, .ref a2), (3, .int x3)] [] h fin Q) ∧ ((v1 &&& (63 : Int32)) = (28 : Int32) → wp G (d + 1) mL_law 1136 [(0, .retAddr sc), (1, .ref a1), (2, .ref a2), (3, .int x3)] [] h fin Q) ∧ ((v1 &&& (63 : Int32)) = (29 : Int32) → wp G (d + 1) mL_law 1149 [(0, .retAddr sc), (1, .ref a1), (2, .ref a2), (3, .int x3)] [] h fin Q) ∧ ((v1 &&& (63 : Int32)) = (30 : Int32) → wp G (d + 1) mL_law 1172 [(0, .retAddr sc), (1, .ref a1), (2, .ref a2), (3, .int x3)] [] h fin Q) ∧ ((v1 &&& (63 : Int32)) = (31 : Int32) → wp G (d + 1) mL_law 1195 [(0, .retAddr sc), (1, .ref a1), (2, .ref a2), (3, .int x3)] [] h fin Q) ∧ ((v1 &&& (63 : Int32)) = (32 : Int32) → wp G (d + 1) mL_law 1238 [(0, .retAddr sc), (1, .ref a1), (2, .ref a2), (3, .int x3)] [] h fin Q) ∧ ((v1 &&& (63 : Int32)) = (33 : Int32) → wp G (d + 1) mL_law 1261 [(0, .retAddr sc), (1, .ref a1), (2, .ref a2), (3, .int x3)] [] h fin Q) ∧ ((v1 &&& (63 : Int32)) = (34 : Int32) → wp G (d + 1) mL_law 1294 [(0, .retAddr sc), (1, .ref a1), (2, .ref a2), (3, .int x3)] [] h fin Q) ∧ ((v1 &&& (63 : Int32)) = (35 : Int32) → wp G (d + 1) mL_law 1337 [(0, .retAddr sc), (1, .ref a1), (2, .ref a2), (3, .int x3)] [] h fin Q) ∧ ((v1 &&& (63 : Int32)) = (36 : Int32) → wp G (d + 1) mL_law 1410 [(0, .retAddr sc), (1, .ref a1), (2, .ref a2), (3, .int x3)] [] h fin Q) ∧ ((v1 &&& (63 : Int32)) = (37 : Int32) → wp G (d + 1) mL_law 1444 [(0, .retAddr sc), (1, .ref a1), (2, .ref a2), (3, .int x3)] [] h fin Q) ∧ ((v1 &&& (63 : Int32)) = (38 : Int32) → wp G (d + 1) mL_law 1507 [(0, .retAddr sc), (1, .ref a1), (2, .ref a2), (3, .int x3)] [] h fin Q) ∧ ((v1 &&& (63 : Int32)) = (39 : Int32) → wp G (d + 1) mL_law 1540 [(0, .retAddr sc), (1, .ref a1), (2, .ref a2), (3, .int x3)] [] h fin Q) ∧ ((v1 &&& (63 : Int32)) = (40 : Int32) → wp G (d + 1) mL_law 1583 [(0, .retAddr sc), (1, .ref a1), (2, .ref a2), (3, .int x3)] [] h fin Q) ∧ ((¬ (v1 &&& (63 : Int32)) = (0 : Int32) ∧ ¬ (v1 &&& (63 : Int32)) = (1 : Int32) ∧ ¬ (v1 &&& (63 : Int32)) = (2 : Int32) ∧ ¬ (v1 &&& (63 : Int32)) = (3 : Int32) ∧ ¬ (v1 &&& (63 : Int32)) = (4 : Int32) ∧ ¬ (v1 &&& (63 : Int32)) = (5 : Int32) ∧ ¬ (v1 &&& (63 : Int32)) = (6 : Int32) ∧ ¬ (v1 &&& (63 : Int32)) = (7 : Int32) ∧ ¬ (v1 &&& (63 : Int32)) = (8 : Int32) ∧ ¬ (v1 &&& (63 : Int32)) = (9 : Int32) ∧ ¬ (v1 &&& (63 : Int32)) = (10 : Int32) ∧ ¬ (v1 &&& (63 : Int32)) = (11 : Int32) ∧ ¬ (v1 &&& (63 : Int32)) = (12 : Int32) ∧ ¬ (v1 &&& (63 : Int32)) = (13 : Int32) ∧ ¬ (v1 &&& (63 : Int32)) = (14 : Int32) ∧ ¬ (v1 &&& (63 : Int32)) = (15 : Int32) ∧ ¬ (v1 &&& (63 : Int32)) = (16 : Int32) ∧ ¬ (v1 &&& (63 : Int32)) = (17 : Int32) ∧ ¬ (v1 &&& (63 : Int32)) = (18 : Int32) ∧ ¬ (v1 &&& (63 : Int32)) = (19 : Int32) ∧ ¬ (v1 &&& (63 : Int32)) = (20 : Int32) ∧ ¬ (v1 &&& (63 : Int32)) = (21 : Int32) ∧ ¬ (v1 &&& (63 : Int32)) = (22 : Int32) ∧ ¬ (v1 &&& (63 : Int32)) = (23 : Int32) ∧ ¬ (v1 &&& (63 : Int32)) = (24 : Int32) ∧ ¬ (v1 &&& (63 : Int32)) = (25 : Int32) ∧ ¬ (v1 &&& (63 : Int32)) = (26 : Int32) ∧ ¬ (v1 &&& (63 : Int32)) = (27 : Int32) ∧ ¬ (v1 &&& (63 : Int32)) = (28 : Int32) ∧ ¬ (v1 &&& (63 : Int32)) = (29 : Int32) ∧ ¬ (v1 &&& (63 : Int32)) = (30 : Int32) ∧ ¬ (v1 &&& (63 : Int32)) = (31 : Int32) ∧ ¬ (v1 &&& (63 : Int32)) = (32 : Int32) ∧ ¬ (v1 &&& (63 : Int32)) = (33 : Int32) ∧ ¬ (v1 &&& (63 : Int32)) = (34 : Int32) ∧ ¬ (v1 &&& (63 : Int32)) = (35 : Int32) ∧ ¬ (v1 &&& (63 : Int32)) = (36 : Int32) ∧ ¬ (v1 &&& (63 : Int32)) = (37 : Int32) ∧ ¬ (v1 &&& (63 : Int32)) = (38 : Int32) ∧ ¬ (v1 &&& (63 : Int32)) = (39 : Int32) ∧ ¬ (v1 &&& (63 : Int32)) = (40 : Int32)) → wp G (d + 1) mL_law 18 [(0, .retAddr sc), (1, .ref a1), (2, .ref a2), (3, .int (x3 + 6))] [] h fin Q)))))) : wp G (d + 1) mL_law 18 [(0, .retAddr sc), (1, .ref a1), (2, .ref a2), (3, .int x3)] [] h fin Q := by
  refine wp_iload_n (i := 3) dL_law_18 rfl rfl ?_
  refine wp_aload_nS (i := 0) dL_law_19 rfl rfl ?_
  refine wp_slen dL_law_20 ?_
  refine wp_bipush (v := 6) dL_law_21 (by decide) ?_
  refine wp_isub dL_law_23 ?_
  refine wp_icmp_gt 1612 dL_law_24 (by decide) (fun q => ?_) (fun q => ?_)
  · replace hv := hv.1 q
    refine wp_iconst (v := 1) dL_law_1612 (by decide) ?_
    obtain ⟨e, hv⟩ := hv
    exact wp_ireturn dL_law_1613 rfl (by decide) e hv
  · replace hv := hv.2 q
    refine wp_aload_nS (i := 0) dL_law_27 rfl rfl ?_
    refine wp_iload_n (i := 3) dL_law_28 rfl rfl ?_
    obtain ⟨q, hv⟩ := hv
    refine wp_sld dL_law_29 q ?_
    generalize gx G (x3).toNatClampNeg = v1 at hv ⊢
    refine wp_bipush (v := 63) dL_law_30 (by decide) ?_
    refine wp_iand dL_law_32 ?_
    by_cases q0 : (v1 &&& (63 : Int32)) = (0 : Int32)
    · refine wx_tableIn (off := 179) (0 : Int32) q0 212 dL_law_33 (by decide) (by decide) (by decide +kernel) (by decide) ?_
      replace hv := hv.1 q0
      exact hv
    by_cases q1 : (v1 &&& (63 : Int32)) = (1 : Int32)
    · refine wx_tableIn (off := 232) (1 : Int32) q1 265 dL_law_33 (by decide) (by decide) (by decide +kernel) (by decide) ?_
      replace hv := hv.2.1 q1
      exact hv
    by_cases q2 : (v1 &&& (63 : Int32)) = (2 : Int32)
    · refine wx_tableIn (off := 255) (2 : Int32) q2 288 dL_law_33 (by decide) (by decide) (by decide +kernel) (by decide) ?_
      replace hv := hv.2.2.1 q2
      exact hv
    by_cases q3 : (v1 &&& (63 : Int32)) = (3 : Int32)
    · refine wx_tableIn (off := 288) (3 : Int32) q3 321 dL_law_33 (by decide) (by decide) (by decide +kernel) (by decide) ?_
      replace hv := hv.2.2.2.1 q3
      exact hv
    by_cases q4 : (v1 &&& (63 : Int32)) = (4 : Int32)
    · refine wx_tableIn (off := 321) (4 : Int32) q4 354 dL_law_33 (by decide) (by decide) (by decide +kernel) (by decide) ?_
      replace hv := hv.2.2.2.2.1 q4
      exact hv
    by_cases q5 : (v1 &&& (63 : Int32)) = (5 : Int32)
    · refine wx_tableIn (off := 354) (5 : Int32) q5 387 dL_law_33 (by decide) (by decide) (by decide +kernel) (by decide) ?_
      replace hv := hv.2.2.2.2.2.1 q5
      exact hv
    by_cases q6 : (v1 &&& (63 : Int32)) = (6 : Int32)
    · refine wx_tableIn (off := 387) (6 : Int32) q6 420 dL_law_33 (by decide) (by decide) (by decide +kernel) (by decide) ?_
      replace hv := hv.2.2.2.2.2.2.1 q6
      exact hv
    by_cases q7 : (v1 &&& (63 : Int32)) = (7 : Int32)
    · refine wx_tableIn (off := 400) (7 : Int32) q7 433 dL_law_33 (by decide) (by decide) (by decide +kernel) (by decide) ?_
      replace hv := hv.2.2.2.2.2.2.2.1 q7
      exact hv
    by_cases q8 : (v1 &&& (63 : Int32)) = (8 : Int32)
    · refine wx_tableIn (off := 433) (8 : Int32) q8 466 dL_law_33 (by decide) (by decide) (by decide +kernel) (by decide) ?_
      replace hv := hv.2.2.2.2.2.2.2.2.1 q8
      exact hv
    by_cases q9 : (v1 &&& (63 : Int32)) = (9 : Int32)
    · refine wx_tableIn (off := 476) (9 : Int32) q9 509 dL_law_33 (by decide) (by decide) (by decide +kernel) (by decide) ?_
      replace hv := hv.2.2.2.2.2.2.2.2.2.1 q9
      exact hv
    by_cases q10 : (v1 &&& (63 : Int32)) = (10 : Int32)
    · refine wx_tableIn (off := 509) (10 : Int32) q10 542 dL_law_33 (by decide) (by decide) (by decide +kernel) (by decide) ?_
      replace hv := hv.2.2.2.2.2.2.2.2.2.2.1 q10
      exact hv
    by_cases q11 : (v1 &&& (63 : Int32)) = (11 : Int32)
    · refine wx_tableIn (off := 542) (11 : Int32) q11 575 dL_law_33 (by decide) (by decide) (by decide +kernel) (by decide) ?_
      replace hv := hv.2.2.2.2.2.2.2.2.2.2.2.1 q11
      exact hv
    by_cases q12 : (v1 &&& (63 : Int32)) = (12 : Int32)
    · refine wx_tableIn (off := 575) (12 : Int32) q12 608 dL_law_33 (by decide) (by decide) (by decide +kernel) (by decide) ?_
      replace hv := hv.2.2.2.2.2.2.2.2.2.2.2.2.1 q12
      exact hv
    by_cases q13 : (v1 &&& (63 : Int32)) = (13 : Int32)
    · refine wx_tableIn (off := 628) (13 : Int32) q13 661 dL_law_33 (by decide) (by decide) (by decide +kernel) (by decide) ?_
      replace hv := hv.2.2.2.2.2.2.2.2.2.2.2.2.2.1 q13
      exact hv
    by_cases q14 : (v1 &&& (63 : Int32)) = (14 : Int32)
    · refine wx_tableIn (off := 641) (14 : Int32) q14 674 dL_law_33 (by decide) (by decide) (by decide +kernel) (by decide) ?_
      replace hv := hv.2.2.2.2.2.2.2.2.2.2.2.2.2.2.1 q14
      exact hv
    by_cases q15 : (v1 &&& (63 : Int32)) = (15 : Int32)
    · refine wx_tableIn (off := 684) (15 : Int32) q15 717 dL_law_33 (by decide) (by decide) (by decide +kernel) (by decide) ?_
      replace hv := hv.2.2.2.2.2.2.2.2.2.2.2.2.2.2.2.1 q15
      exact hv
    by_cases q16 : (v1 &&& (63 : Int32)) = (16 : Int32)
    · refine wx_tableIn (off := 727) (16 : Int32) q16 760 dL_law_33 (by decide) (by decide) (by decide +kernel) (by decide) ?_
      replace hv := hv.2.2.2.2.2.2.2.2.2.2.2.2.2.2.2.2.1 q16
      exact hv
    by_cases q17 : (v1 &&& (63 : Int32)) = (17 : Int32)
    · refine wx_tableIn (off := 760) (17 : Int32) q17 793 dL_law_33 (by decide) (by decide) (by decide +kernel) (by decide) ?_
      replace hv := hv.2.2.2.2.2.2.2.2.2.2.2.2.2.2.2.2.2.1 q17
      exact hv
    by_cases q18 : (v1 &&& (63 : Int32)) = (18 : Int32)
    · refine wx_tableIn (off := 803) (18 : Int32) q18 836 dL_law_33 (by decide) (by decide) (by decide +kernel) (by decide) ?_
      replace hv := hv.2.2.2.2.2.2.2.2.2.2.2.2.2.2.2.2.2.2.1 q18
      exact hv
    by_cases q19 : (v1 &&& (63 : Int32)) = (19 : Int32)
    · refine wx_tableIn (off := 846) (19 : Int32) q19 879 dL_law_33 (by decide) (by decide) (by decide +kernel) (by decide) ?_
      replace hv := hv.2.2.2.2.2.2.2.2.2.2.2.2.2.2.2.2.2.2.2.1 q19
      exact hv
    by_cases q20 : (v1 &&& (63 : Int32)) = (20 : Int32)
    · refine wx_tableIn (off := 889) (20 : Int32) q20 922 dL_law_33 (by decide) (by decide) (by decide +kernel) (by decide) ?_
      replace hv := hv.2.2.2.2.2.2.2.2.2.2.2.2.2.2.2.2.2.2.2.2.1 q20
      exact hv
    by_cases q21 : (v1 &&& (63 : Int32)) = (21 : Int32)
    · refine wx_tableIn (off := 922) (21 : Int32) q21 955 dL_law_33 (by decide) (by decide) (by decide +kernel) (by decide) ?_
      replace hv := hv.2.2.2.2.2.2.2.2.2.2.2.2.2.2.2.2.2.2.2.2.2.1 q21
      exact hv
    by_cases q22 : (v1 &&& (63 : Int32)) = (22 : Int32)
    · refine wx_tableIn (off := 955) (22 : Int32) q22 988 dL_law_33 (by decide) (by decide) (by decide +kernel) (by decide) ?_
      replace hv := hv.2.2.2.2.2.2.2.2.2.2.2.2.2.2.2.2.2.2.2.2.2.2.1 q22
      exact hv
    by_cases q23 : (v1 &&& (63 : Int32)) = (23 : Int32)
    · refine wx_tableIn (off := 968) (23 : Int32) q23 1001 dL_law_33 (by decide) (by decide) (by decide +kernel) (by decide) ?_
      replace hv := hv.2.2.2.2.2.2.2.2.2.2.2.2.2.2.2.2.2.2.2.2.2.2.2.1 q23
      exact hv
    by_cases q24 : (v1 &&& (63 : Int32)) = (24 : Int32)
    · refine wx_tableIn (off := 991) (24 : Int32) q24 1024 dL_law_33 (by decide) (by decide) (by decide +kernel) (by decide) ?_
      replace hv := hv.2.2.2.2.2.2.2.2.2.2.2.2.2.2.2.2.2.2.2.2.2.2.2.2.1 q24
      exact hv
    by_cases q25 : (v1 &&& (63 : Int32)) = (25 : Int32)
    · refine wx_tableIn (off := 1034) (25 : Int32) q25 1067 dL_law_33 (by decide) (by decide) (by decide +kernel) (by decide) ?_
      replace hv := hv.2.2.2.2.2.2.2.2.2.2.2.2.2.2.2.2.2.2.2.2.2.2.2.2.2.1 q25
      exact hv
    by_cases q26 : (v1 &&& (63 : Int32)) = (26 : Int32)
    · refine wx_tableIn (off := 1047) (26 : Int32) q26 1080 dL_law_33 (by decide) (by decide) (by decide +kernel) (by decide) ?_
      replace hv := hv.2.2.2.2.2.2.2.2.2.2.2.2.2.2.2.2.2.2.2.2.2.2.2.2.2.2.1 q26
      exact hv
    by_cases q27 : (v1 &&& (63 : Int32)) = (27 : Int32)
    · refine wx_tableIn (off := 1080) (27 : Int32) q27 1113 dL_law_33 (by decide) (by decide) (by decide +kernel) (by decide) ?_
      replace hv := hv.2.2.2.2.2.2.2.2.2.2.2.2.2.2.2.2.2.2.2.2.2.2.2.2.2.2.2.1 q27
      exact hv
    by_cases q28 : (v1 &&& (63 : Int32)) = (28 : Int32)
    · refine wx_tableIn (off := 1103) (28 : Int32) q28 1136 dL_law_33 (by decide) (by decide) (by decide +kernel) (by decide) ?_
      replace hv := hv.2.2.2.2.2.2.2.2.2.2.2.2.2.2.2.2.2.2.2.2.2.2.2.2.2.2.2.2.1 q28
      exact hv
    by_cases q29 : (v1 &&& (63 : Int32)) = (29 : Int32)
    · refine wx_tableIn (off := 1116) (29 : Int32) q29 1149 dL_law_33 (by decide) (by decide) (by decide +kernel) (by decide) ?_
      replace hv := hv.2.2.2.2.2.2.2.2.2.2.2.2.2.2.2.2.2.2.2.2.2.2.2.2.2.2.2.2.2.1 q29
      exact hv
    by_cases q30 : (v1 &&& (63 : Int32)) = (30 : Int32)
    · refine wx_tableIn (off := 1139) (30 : Int32) q30 1172 dL_law_33 (by decide) (by decide) (by decide +kernel) (by decide) ?_
      replace hv := hv.2.2.2.2.2.2.2.2.2.2.2.2.2.2.2.2.2.2.2.2.2.2.2.2.2.2.2.2.2.2.1 q30
      exact hv
    by_cases q31 : (v1 &&& (63 : Int32)) = (31 : Int32)
    · refine wx_tableIn (off := 1162) (31 : Int32) q31 1195 dL_law_33 (by decide) (by decide) (by decide +kernel) (by decide) ?_
      replace hv := hv.2.2.2.2.2.2.2.2.2.2.2.2.2.2.2.2.2.2.2.2.2.2.2.2.2.2.2.2.2.2.2.1 q31
      exact hv
    by_cases q32 : (v1 &&& (63 : Int32)) = (32 : Int32)
    · refine wx_tableIn (off := 1205) (32 : Int32) q32 1238 dL_law_33 (by decide) (by decide) (by decide +kernel) (by decide) ?_
      replace hv := hv.2.2.2.2.2.2.2.2.2.2.2.2.2.2.2.2.2.2.2.2.2.2.2.2.2.2.2.2.2.2.2.2.1 q32
      exact hv
    by_cases q33 : (v1 &&& (63 : Int32)) = (33 : Int32)
    · refine wx_tableIn (off := 1228) (33 : Int32) q33 1261 dL_law_33 (by decide) (by decide) (by decide +kernel) (by decide) ?_
      replace hv := hv.2.2.2.2.2.2.2.2.2.2.2.2.2.2.2.2.2.2.2.2.2.2.2.2.2.2.2.2.2.2.2.2.2.1 q33
      exact hv
    by_cases q34 : (v1 &&& (63 : Int32)) = (34 : Int32)
    · refine wx_tableIn (off := 1261) (34 : Int32) q34 1294 dL_law_33 (by decide) (by decide) (by decide +kernel) (by decide) ?_
      replace hv := hv.2.2.2.2.2.2.2.2.2.2.2.2.2.2.2.2.2.2.2.2.2.2.2.2.2.2.2.2.2.2.2.2.2.2.1 q34
      exact hv
    by_cases q35 : (v1 &&& (63 : Int32)) = (35 : Int32)
    · refine wx_tableIn (off := 1304) (35 : Int32) q35 1337 dL_law_33 (by decide) (by decide) (by decide +kernel) (by decide) ?_
      replace hv := hv.2.2.2.2.2.2.2.2.2.2.2.2.2.2.2.2.2.2.2.2.2.2.2.2.2.2.2.2.2.2.2.2.2.2.2.1 q35
      exact hv
    by_cases q36 : (v1 &&& (63 : Int32)) = (36 : Int32)
    · refine wx_tableIn (off := 1377) (36 : Int32) q36 1410 dL_law_33 (by decide) (by decide) (by decide +kernel) (by decide) ?_
      replace hv := hv.2.2.2.2.2.2.2.2.2.2.2.2.2.2.2.2.2.2.2.2.2.2.2.2.2.2.2.2.2.2.2.2.2.2.2.2.1 q36
      exact hv
    by_cases q37 : (v1 &&& (63 : Int32)) = (37 : Int32)
    · refine wx_tableIn (off := 1411) (37 : Int32) q37 1444 dL_law_33 (by decide) (by decide) (by decide +kernel) (by decide) ?_
      replace hv := hv.2.2.2.2.2.2.2.2.2.2.2.2.2.2.2.2.2.2.2.2.2.2.2.2.2.2.2.2.2.2.2.2.2.2.2.2.2.1 q37
      exact hv
    by_cases q38 : (v1 &&& (63 : Int32)) = (38 : Int32)
    · refine wx_tableIn (off := 1474) (38 : Int32) q38 1507 dL_law_33 (by decide) (by decide) (by decide +kernel) (by decide) ?_
      replace hv := hv.2.2.2.2.2.2.2.2.2.2.2.2.2.2.2.2.2.2.2.2.2.2.2.2.2.2.2.2.2.2.2.2.2.2.2.2.2.2.1 q38
      exact hv
    by_cases q39 : (v1 &&& (63 : Int32)) = (39 : Int32)
    · refine wx_tableIn (off := 1507) (39 : Int32) q39 1540 dL_law_33 (by decide) (by decide) (by decide +kernel) (by decide) ?_
      replace hv := hv.2.2.2.2.2.2.2.2.2.2.2.2.2.2.2.2.2.2.2.2.2.2.2.2.2.2.2.2.2.2.2.2.2.2.2.2.2.2.2.1 q39
      exact hv
    by_cases q40 : (v1 &&& (63 : Int32)) = (40 : Int32)
    · refine wx_tableIn (off := 1550) (40 : Int32) q40 1583 dL_law_33 (by decide) (by decide) (by decide +kernel) (by decide) ?_
      replace hv := hv.2.2.2.2.2.2.2.2.2.2.2.2.2.2.2.2.2.2.2.2.2.2.2.2.2.2.2.2.2.2.2.2.2.2.2.2.2.2.2.2.1 q40
      exact hv
    refine wp_tableOut 1606 dL_law_33 (by have n0 := lv_neT q0 (show ((0 : Int32)).toInt = 0 by decide); have n1 := lv_neT q1 (show ((1 : Int32)).toInt = 1 by decide); have n2 := lv_neT q2 (show ((2 : Int32)).toInt = 2 by decide); have n3 := lv_neT q3 (show ((3 : Int32)).toInt = 3 by decide); have n4 := lv_neT q4 (show ((4 : Int32)).toInt = 4 by decide); have n5 := lv_neT q5 (show ((5 : Int32)).toInt = 5 by decide); have n6 := lv_neT q6 (show ((6 : Int32)).toInt = 6 by decide); have n7 := lv_neT q7 (show ((7 : Int32)).toInt = 7 by decide); have n8 := lv_neT q8 (show ((8 : Int32)).toInt = 8 by decide); have n9 := lv_neT q9 (show ((9 : Int32)).toInt = 9 by decide); have n10 := lv_neT q10 (show ((10 : Int32)).toInt = 10 by decide); have n11 := lv_neT q11 (show ((11 : Int32)).toInt = 11 by decide); have n12 := lv_neT q12 (show ((12 : Int32)).toInt = 12 by decide); have n13 := lv_neT q13 (show ((13 : Int32)).toInt = 13 by decide); have n14 := lv_neT q14 (show ((14 : Int32)).toInt = 14 by decide); have n15 := lv_neT q15 (show ((15 : Int32)).toInt = 15 by decide); have n16 := lv_neT q16 (show ((16 : Int32)).toInt = 16 by decide); have n17 := lv_neT q17 (show ((17 : Int32)).toInt = 17 by decide); have n18 := lv_neT q18 (show ((18 : Int32)).toInt = 18 by decide); have n19 := lv_neT q19 (show ((19 : Int32)).toInt = 19 by decide); have n20 := lv_neT q20 (show ((20 : Int32)).toInt = 20 by decide); have n21 := lv_neT q21 (show ((21 : Int32)).toInt = 21 by decide); have n22 := lv_neT q22 (show ((22 : Int32)).toInt = 22 by decide); have n23 := lv_neT q23 (show ((23 : Int32)).toInt = 23 by decide); have n24 := lv_neT q24 (show ((24 : Int32)).toInt = 24 by decide); have n25 := lv_neT q25 (show ((25 : Int32)).toInt = 25 by decide); have n26 := lv_neT q26 (show ((26 : Int32)).toInt = 26 by decide); have n27 := lv_neT q27 (show ((27 : Int32)).toInt = 27 by decide); have n28 := lv_neT q28 (show ((28 : Int32)).toInt = 28 by decide); have n29 := lv_neT q29 (show ((29 : Int32)).toInt = 29 by decide); have n30 := lv_neT q30 (show ((30 : Int32)).toInt = 30 by decide); have n31 := lv_neT q31 (show ((31 : Int32)).toInt = 31 by decide); have n32 := lv_neT q32 (show ((32 : Int32)).toInt = 32 by decide); have n33 := lv_neT q33 (show ((33 : Int32)).toInt = 33 by decide); have n34 := lv_neT q34 (show ((34 : Int32)).toInt = 34 by decide); have n35 := lv_neT q35 (show ((35 : Int32)).toInt = 35 by decide); have n36 := lv_neT q36 (show ((36 : Int32)).toInt = 36 by decide); have n37 := lv_neT q37 (show ((37 : Int32)).toInt = 37 by decide); have n38 := lv_neT q38 (show ((38 : Int32)).toInt = 38 by decide); have n39 := lv_neT q39 (show ((39 : Int32)).toInt = 39 by decide); have n40 := lv_neT q40 (show ((40 : Int32)).toInt = 40 by decide); omega) (by decide) ?_
    replace hv := hv.2.2.2.2.2.2.2.2.2.2.2.2.2.2.2.2.2.2.2.2.2.2.2.2.2.2.2.2.2.2.2.2.2.2.2.2.2.2.2.2.2 ⟨q0, q1, q2, q3, q4, q5, q6, q7, q8, q9, q10, q11, q12, q13, q14, q15, q16, q17, q18, q19, q20, q21, q22, q23, q24, q25, q26, q27, q28, q29, q30, q31, q32, q33, q34, q35, q36, q37, q38, q39, q40⟩
    refine wx_iinc (v := 6) (ls' := [(0, .retAddr sc), (1, .ref a1), (2, .ref a2), (3, .int (x3 + 6))]) dL_law_1606 rfl (by decide) (by decide) rfl ?_
    refine wp_goto 18 dL_law_1609 (by decide) ?_
    exact hv
theorem vL_law_0 {G : Gp} {d : Nat} {h : AH} {fin : Nat × Nat} {Q : Option Value → AH → Prop} {sc : Nat} (hv : NW h (.inr (11, [.null, .null, .null, .int 0, .null, .int 0, .null, .int 0, .int 0, .null, .null, .null, .null, .null, .null, .null, .null, .null])) 18 fin (fun b2 h1 => (∃ fin' : Nat × Nat, cR h1 fin' fin ∧ wp G d mX11_init 0 [(0, .ref b2)] [] h1 fin' (fun r h3 => h3.2 = fin' → (r = none ∧ NW h3 (.inr (12, [.null, .null, .int 0, .null, .null, .null, .int 0, .null, .null, .null, .null, .null, .null, .null, .int 0, .null, .null, .null, .null, .null, .null, .null, .null, .null, .null, .int 0, .int 0, .int 0, .int 0, .int 0, .int 0, .int 0, .int 0, .int 0, .null, .null, .int 0, .null, .int 0, .null, .null, .null, .null, .int 0, .int 0, .null, .null, .null, .null, .int 0, .null, .int 0, .int 0, .null, .null, .null, .null])) 57 fin (fun b5 h4 => (∃ fin' : Nat × Nat, cR h4 fin' fin ∧ wp G d mX12_init 0 [(0, .ref b5)] [] h4 fin' (fun r h6 => h6.2 = fin' → (r = none ∧ wp G (d + 1) mL_law 18 [(0, .retAddr sc), (1, .ref b2), (2, .ref b5), (3, .int (0 : Int32))] [] h6 fin Q))))))))) : wp G (d + 1) mL_law 0 [(0, .retAddr sc)] [] h fin Q := by
  obtain ⟨f1, f2, hv⟩ := hv
  refine wp_new dL_law_0 n13_7 f1 f2 ?_
  generalize hnew h (.inr (11, [.null, .null, .null, .int 0, .null, .int 0, .null, .int 0, .int 0, .null, .null, .null, .null, .null, .null, .null, .null, .null])) 18 = h1 at hv ⊢
  generalize h.2.1 = b2 at hv ⊢
  refine wp_dupR dL_law_3 ?_
  obtain ⟨fin', hr, hv⟩ := hv
  refine wp_callI (vs := []) (st := [.ref b2]) (fin' := fin') dL_law_4 k13_9 rfl (Nat.le_of_ble_eq_true rfl) (Nat.le_of_ble_eq_true rfl) hr (wp_mono hv ?_)
  intro r h3 hv e1
  replace hv := hv e1
  obtain ⟨rfl, hv⟩ := hv
  change wp _ _ _ _ _ [.ref b2] _ _ _
  refine wx_astore_n (ls' := [(0, .retAddr sc), (1, .ref b2)]) (i := 1) dL_law_7 rfl (by decide) rfl ?_
  obtain ⟨f1, f2, hv⟩ := hv
  refine wp_new dL_law_8 n13_10 f1 f2 ?_
  generalize hnew h3 (.inr (12, [.null, .null, .int 0, .null, .null, .null, .int 0, .null, .null, .null, .null, .null, .null, .null, .int 0, .null, .null, .null, .null, .null, .null, .null, .null, .null, .null, .int 0, .int 0, .int 0, .int 0, .int 0, .int 0, .int 0, .int 0, .int 0, .null, .null, .int 0, .null, .int 0, .null, .null, .null, .null, .int 0, .int 0, .null, .null, .null, .null, .int 0, .null, .int 0, .int 0, .null, .null, .null, .null])) 57 = h4 at hv ⊢
  generalize h3.2.1 = b5 at hv ⊢
  refine wp_dupR dL_law_11 ?_
  obtain ⟨fin', hr, hv⟩ := hv
  refine wp_callI (vs := []) (st := [.ref b5]) (fin' := fin') dL_law_12 k13_12 rfl (Nat.le_of_ble_eq_true rfl) (Nat.le_of_ble_eq_true rfl) hr (wp_mono hv ?_)
  intro r h6 hv e1
  replace hv := hv e1
  obtain ⟨rfl, hv⟩ := hv
  change wp _ _ _ _ _ [.ref b5] _ _ _
  refine wx_astore_n (ls' := [(0, .retAddr sc), (1, .ref b2), (2, .ref b5)]) (i := 2) dL_law_15 rfl (by decide) rfl ?_
  refine wp_iconst (v := 0) dL_law_16 (by decide) ?_
  refine wx_istore_n (ls' := [(0, .retAddr sc), (1, .ref b2), (2, .ref b5), (3, .int (0 : Int32))]) (i := 3) dL_law_17 rfl (by decide) rfl ?_
  exact hv
