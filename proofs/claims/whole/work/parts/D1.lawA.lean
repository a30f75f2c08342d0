set_option maxHeartbeats 4000000 in
set_option maxRecDepth 100000 in
theorem lc_0 {p : Program} {l : Launch} {e : Env} {s : State} {m : MethodId} {args : Array Value} {below : List Frame} {meth : Method} {c : Code} {H : Heap} {locs : List Loc} {cells slots : Nat} {Q : State → Prop} {D : va_G} {cs : Nat → ClassId} {ad ad' al adK adV : Nat → Nat} {A : Nat → Prop} {b L aO T : Nat} {xs : Nat → Int32} {x4 : Int32} {σ : AS} {P : PL} {g : MS} {h : CS} {fo : Nat → Int64} {ls : Array Slot} (C : MCx p s m args meth c A RL cL_law 8 (some .boolean) D cs) (hL : LC l s args adK adV A) (hX : LX s A b L xs) (hin : Hin x4 L) (hs : wfS σ) (hM : MI σ g) (hC : CI σ P T h) (hT : T + 31 < 2 ^ 31) (hw : MH D (SW cs ad al P h ++ outC cs aO fo :: MW cs ad' g) A s H locs) (hl : lv_has ls 8 (lvL b (ad 0) (ad' 48) aO x4)) (hf : cells + 131 ≤ room_1.cells ∧ slots + 1006 ≤ room_1.slots) (kk : Nx p l e s m args below meth c D cs A ad ad' b aO x4 T cells slots Q) : W p l e room_1 s m args below meth c H locs cells slots Q (F0 m 224 ls []) := by
  have hx := C.1
  have hb := C.2.1
  have hst := hL.2.2.2.1
  obtain ⟨σ', T', g', h', r, k1, k2, k3, k4, k5, e1, e0, e2⟩ := st_feed hs hM hC (xs (x4 + 1).toNatClampNeg) (xs (x4 + 2).toNatClampNeg) (xs (x4 + 3).toNatClampNeg) (xs (x4 + 4).toNatClampNeg) (xs (x4 + 5).toNatClampNeg)
  have hf0 : cells ≤ room_1.cells ∧ slots ≤ room_1.slots := ⟨Nat.le_trans (Nat.le_add_right _ _) hf.1, Nat.le_trans (Nat.le_add_right _ _) hf.2⟩
  refine lv_aload_n hx hb dL_law_224 rfl (lv_at hl 1 rfl) ?_
  refine s_ld 0 4 C hX hw hl rfl rfl dL_law_225 dL_law_226 dL_law_228 dL_law_229 dL_law_230 (by decide) hin.1 ?_
  refine s_ld 0 4 C hX hw hl rfl rfl dL_law_231 dL_law_232 dL_law_234 dL_law_235 dL_law_236 (by decide) hin.2.1 ?_
  refine s_ld 0 4 C hX hw hl rfl rfl dL_law_237 dL_law_238 dL_law_240 dL_law_241 dL_law_242 (by decide) hin.2.2.1 ?_
  refine s_ld 0 4 C hX hw hl rfl rfl dL_law_243 dL_law_244 dL_law_246 dL_law_247 dL_law_248 (by decide) hin.2.2.2.1 ?_
  refine s_ld 0 4 C hX hw hl rfl rfl dL_law_249 dL_law_250 dL_law_252 dL_law_253 dL_law_254 (by decide) hin.2.2.2.2 ?_
  refine f_callV (r := some (.int r)) (rest := []) (W2 := outC cs aO fo :: MW cs ad' g) [.int (xs (x4 + 1).toNatClampNeg), .int (xs (x4 + 2).toNatClampNeg), .int (xs (x4 + 3).toNatClampNeg), .int (xs (x4 + 4).toNatClampNeg), .int (xs (x4 + 5).toNatClampNeg)] C hw cv_L_123 (qX11_feed e2) rfl ⟨rfl, rfl⟩ ⟨Nat.le_of_ble_eq_true rfl, Nat.le_of_ble_eq_true rfl⟩ (rv_law (q0 := 0) (ci := 10) (q := (RX11, TX11, 13)) C hw rfl (SW_fix rfl)) hl.1 rfl (Nat.le_of_ble_eq_true rfl) hf0 dL_law_255 (fun H locs hw => ?_)
  refine lv_aload_n hx hb dL_law_258 rfl (lv_at hl 2 rfl) ?_
  refine s_ld 0 4 C hX hw hl rfl rfl dL_law_259 dL_law_260 dL_law_262 dL_law_263 dL_law_264 (by decide) hin.1 ?_
  refine s_ld 0 4 C hX hw hl rfl rfl dL_law_265 dL_law_266 dL_law_268 dL_law_269 dL_law_270 (by decide) hin.2.1 ?_
  refine s_ld 0 4 C hX hw hl rfl rfl dL_law_271 dL_law_272 dL_law_274 dL_law_275 dL_law_276 (by decide) hin.2.2.1 ?_
  refine s_ld 0 4 C hX hw hl rfl rfl dL_law_277 dL_law_278 dL_law_280 dL_law_281 dL_law_282 (by decide) hin.2.2.2.1 ?_
  refine s_ld 0 4 C hX hw hl rfl rfl dL_law_283 dL_law_284 dL_law_286 dL_law_287 dL_law_288 (by decide) hin.2.2.2.2 ?_
  refine f_callM (r := some (.int r)) (rest := [.int r]) [.int (xs (x4 + 1).toNatClampNeg), .int (xs (x4 + 2).toNatClampNeg), .int (xs (x4 + 3).toNatClampNeg), .int (xs (x4 + 4).toNatClampNeg), .int (xs (x4 + 5).toNatClampNeg)] C hw cv_L_127 (qX12_feed e1) rfl ⟨rfl, rfl⟩ ⟨Nat.le_of_ble_eq_true rfl, Nat.le_of_ble_eq_true rfl⟩ (rv_M C hw) hl.1 rfl (Nat.le_of_ble_eq_true rfl) hf0 dL_law_289 (fun H locs hw => ?_)
  refine lv_icmp_eq (tgt := 2453) hx hb dL_law_292 (by decide) (fun _ => ?_) (fun z => absurd rfl z)
  exact W.widen (Nat.le_add_right _ _) (Nat.le_add_right _ _) (kk σ' P T' g' h' al fo H locs ls k1 k4 k5 k3 hw hl)

set_option maxHeartbeats 4000000 in
set_option maxRecDepth 100000 in
theorem lc_1 {p : Program} {l : Launch} {e : Env} {s : State} {m : MethodId} {args : Array Value} {below : List Frame} {meth : Method} {c : Code} {H : Heap} {locs : List Loc} {cells slots : Nat} {Q : State → Prop} {D : va_G} {cs : Nat → ClassId} {ad ad' al adK adV : Nat → Nat} {A : Nat → Prop} {b L aO T : Nat} {xs : Nat → Int32} {x4 : Int32} {σ : AS} {P : PL} {g : MS} {h : CS} {fo : Nat → Int64} {ls : Array Slot} (C : MCx p s m args meth c A RL cL_law 8 (some .boolean) D cs) (hL : LC l s args adK adV A) (hX : LX s A b L xs) (hin : Hin x4 L) (hs : wfS σ) (hM : MI σ g) (hC : CI σ P T h) (hT : T + 31 < 2 ^ 31) (hw : MH D (SW cs ad al P h ++ outC cs aO fo :: MW cs ad' g) A s H locs) (hl : lv_has ls 8 (lvL b (ad 0) (ad' 48) aO x4)) (hf : cells + 131 ≤ room_1.cells ∧ slots + 1006 ≤ room_1.slots) (kk : Nx p l e s m args below meth c D cs A ad ad' b aO x4 T cells slots Q) : W p l e room_1 s m args below meth c H locs cells slots Q (F0 m 297 ls []) := by
  have hx := C.1
  have hb := C.2.1
  have hst := hL.2.2.2.1
  obtain ⟨σ', T', g', P', h', k1, k2, k3, k4, k5, ko⟩ := st_board hs hM hC hT (xs (x4 + 1).toNatClampNeg)
  rcases ko with ⟨r, e1, e2, e3, -⟩ | ⟨r, e1, e2, q1, q2, q3⟩
  · refine lv_aload_n hx hb dL_law_297 rfl (lv_at hl 1 rfl) ?_
    refine s_ld 0 4 C hX hw hl rfl rfl dL_law_298 dL_law_299 dL_law_301 dL_law_302 dL_law_303 (by decide) hin.1 ?_
    refine lv_aload_n hx hb dL_law_304 rfl (lv_at hl 3 rfl) ?_
    refine b_callS (rest := []) (W2 := outC cs aO fo :: MW cs ad' g) [.ref (ad 0), .int (xs (x4 + 1).toNatClampNeg), .ref aO] C hL hw cw_L_128 (nL_board (Wm := MW cs ad' g) hst e3) ⟨rfl, rfl⟩ rfl ⟨Nat.le_of_ble_eq_true rfl, Nat.le_of_ble_eq_true rfl⟩ hl.1 rfl (Nat.le_of_ble_eq_true rfl) ⟨Nat.le_trans (Nat.add_le_add_left (by decide) _) hf.1, Nat.le_trans (Nat.add_le_add_left (by decide) _) hf.2⟩ dL_law_305 (fun al' H locs hw => W.widen (k := cells + 131) (n := slots + 1006) (Nat.add_le_add_left (by decide) _) (Nat.add_le_add_left (by decide) _) ?_)
    refine lv_istore (lv' := [(5, .int (0 : Int32)), (0, .ref b), (1, .ref (ad 0)), (2, .ref (ad' 48)), (3, .ref aO), (4, .int x4)]) hx hb dL_law_308 hl (by decide) rfl (fun ls hl => ?_)
    refine lv_aload_n hx hb dL_law_310 rfl (lv_at hl 3 rfl) ?_
    refine s_ld 1 5 C hX hw hl rfl rfl dL_law_311 dL_law_312 dL_law_314 dL_law_315 dL_law_316 (by decide) hin.1 ?_
    refine f_callMK (r := some (.int r)) (rest := []) [.int (xs (x4 + 1).toNatClampNeg)] C hL.1 hw cv_L_133 (qX12_board e1) rfl ⟨rfl, rfl⟩ ⟨Nat.le_of_ble_eq_true rfl, Nat.le_of_ble_eq_true rfl⟩ (rv_M C hw) hl.1 rfl (Nat.le_of_ble_eq_true rfl) hf dL_law_317 (fun H locs hw => ?_)
    refine lv_istore (lv' := [(6, .int r), (5, .int (0 : Int32)), (0, .ref b), (1, .ref (ad 0)), (2, .ref (ad' 48)), (3, .ref aO), (4, .int x4)]) hx hb dL_law_320 hl (by decide) rfl (fun ls hl => ?_)
    refine lv_aload_n hx hb dL_law_322 rfl (lv_at hl 4 rfl) ?_
    refine f_callM (r := some (.int (g'.1 4))) (rest := []) [] C hw cv_L_134 (qX12_thrown rfl) rfl ⟨rfl, rfl⟩ ⟨Nat.le_of_ble_eq_true rfl, Nat.le_of_ble_eq_true rfl⟩ (rv_M C hw) hl.1 rfl (Nat.le_of_ble_eq_true rfl) hf dL_law_323 (fun H locs hw => ?_)
    refine lv_iload hx hb dL_law_326 (lv_at hl 1 rfl) ?_
    refine lv_icmp_eq (tgt := 333) hx hb dL_law_328 (by decide) (fun _ => ?_) (fun z => absurd e2 z)
    refine lv_iload hx hb dL_law_333 (lv_at hl 1 rfl) ?_
    refine lv_if_ne (tgt := 350) hx hb dL_law_335 (by decide) (fun _ => ?_) (fun z => ?_)
    · refine lv_goto (tgt := 2453) hx hb dL_law_350 (by decide) ?_
      exact kk σ' P' T' g' h' al' (vp_updL fo 0 r.toInt64) H locs ls k1 k4 k5 k3 hw (lv_sub hl [2, 3, 4, 5, 6] rfl)
    · refine lv_aload_n hx hb dL_law_338 rfl (lv_at hl 5 rfl) ?_
      refine lv_iconst (v := (0 : Int32)) hx hb dL_law_339 (by decide) ?_
      refine o_load C hw dL_law_340 ?_
      refine lv_iload hx hb dL_law_341 (lv_at hl 0 rfl) ?_
      refine lv_i2l hx hb dL_law_343 rfl ?_
      refine W.lcmp hx hb dL_law_344 ?_
      refine lv_if_eq (tgt := 350) hx hb dL_law_345 (by decide) (fun _ => ?_) (fun y => absurd ((lg_cmp_eq _ _).mpr (rfl)) y)
      refine lv_goto (tgt := 2453) hx hb dL_law_350 (by decide) ?_
      exact kk σ' P' T' g' h' al' (vp_updL fo 0 r.toInt64) H locs ls k1 k4 k5 k3 hw (lv_sub hl [2, 3, 4, 5, 6] rfl)
  · subst q1
    subst q2
    refine lv_aload_n hx hb dL_law_297 rfl (lv_at hl 1 rfl) ?_
    refine s_ld 0 4 C hX hw hl rfl rfl dL_law_298 dL_law_299 dL_law_301 dL_law_302 dL_law_303 (by decide) hin.1 ?_
    refine lv_aload_n hx hb dL_law_304 rfl (lv_at hl 3 rfl) ?_
    refine w_callS (rest := []) (k := 1) (W' := SW cs ad al P' h' ++ outC cs aO fo :: MW cs ad' g) [.ref (ad 0), .int (xs (x4 + 1).toNatClampNeg), .ref aO] C hL hw cw_L_128 ⟨_, 1, 6, xL_board_1 hst q3, ⟨rfl, rfl⟩, by decide, by decide, by decide, by decide⟩ rfl (by decide) ⟨Nat.le_of_ble_eq_true rfl, Nat.le_of_ble_eq_true rfl⟩ hl.1 rfl (Nat.le_of_ble_eq_true rfl) hf dL_law_305 (fun H locs hw => ?_)
    refine lv_istore (lv' := [(5, .int (1 : Int32)), (0, .ref b), (1, .ref (ad 0)), (2, .ref (ad' 48)), (3, .ref aO), (4, .int x4)]) hx hb dL_law_308 hl (by decide) rfl (fun ls hl => ?_)
    refine lv_aload_n hx hb dL_law_310 rfl (lv_at hl 3 rfl) ?_
    refine s_ld 1 5 C hX hw hl rfl rfl dL_law_311 dL_law_312 dL_law_314 dL_law_315 dL_law_316 (by decide) hin.1 ?_
    refine f_callMK (r := some (.int r)) (rest := []) [.int (xs (x4 + 1).toNatClampNeg)] C hL.1 hw cv_L_133 (qX12_board e1) rfl ⟨rfl, rfl⟩ ⟨Nat.le_of_ble_eq_true rfl, Nat.le_of_ble_eq_true rfl⟩ (rv_M C hw) hl.1 rfl (Nat.le_of_ble_eq_true rfl) hf dL_law_317 (fun H locs hw => ?_)
    refine lv_istore (lv' := [(6, .int r), (5, .int (1 : Int32)), (0, .ref b), (1, .ref (ad 0)), (2, .ref (ad' 48)), (3, .ref aO), (4, .int x4)]) hx hb dL_law_320 hl (by decide) rfl (fun ls hl => ?_)
    refine lv_aload_n hx hb dL_law_322 rfl (lv_at hl 4 rfl) ?_
    refine f_callM (r := some (.int (g'.1 4))) (rest := []) [] C hw cv_L_134 (qX12_thrown rfl) rfl ⟨rfl, rfl⟩ ⟨Nat.le_of_ble_eq_true rfl, Nat.le_of_ble_eq_true rfl⟩ (rv_M C hw) hl.1 rfl (Nat.le_of_ble_eq_true rfl) hf dL_law_323 (fun H locs hw => ?_)
    refine lv_iload hx hb dL_law_326 (lv_at hl 1 rfl) ?_
    refine lv_icmp_eq (tgt := 333) hx hb dL_law_328 (by decide) (fun _ => ?_) (fun z => absurd e2 z)
    refine lv_iload hx hb dL_law_333 (lv_at hl 1 rfl) ?_
    refine lv_if_ne (tgt := 350) hx hb dL_law_335 (by decide) (fun _ => ?_) (fun z => ?_)
    · refine lv_goto (tgt := 2453) hx hb dL_law_350 (by decide) ?_
      exact kk σ' P' T' g' h' al fo H locs ls k1 k4 k5 k3 hw (lv_sub hl [2, 3, 4, 5, 6] rfl)
    · refine lv_aload_n hx hb dL_law_338 rfl (lv_at hl 5 rfl) ?_
      refine lv_iconst (v := (0 : Int32)) hx hb dL_law_339 (by decide) ?_
      refine o_load C hw dL_law_340 ?_
      refine lv_iload hx hb dL_law_341 (lv_at hl 0 rfl) ?_
      refine lv_i2l hx hb dL_law_343 rfl ?_
      refine W.lcmp hx hb dL_law_344 ?_
      refine lv_if_eq (tgt := 350) hx hb dL_law_345 (by decide) (fun _ => ?_) (fun y => absurd ((lg_cmp_eq _ _).mpr (absurd z (by decide))) y)
      refine lv_goto (tgt := 2453) hx hb dL_law_350 (by decide) ?_
      exact kk σ' P' T' g' h' al fo H locs ls k1 k4 k5 k3 hw (lv_sub hl [2, 3, 4, 5, 6] rfl)

set_option maxHeartbeats 4000000 in
set_option maxRecDepth 100000 in
theorem lc_2 {p : Program} {l : Launch} {e : Env} {s : State} {m : MethodId} {args : Array Value} {below : List Frame} {meth : Method} {c : Code} {H : Heap} {locs : List Loc} {cells slots : Nat} {Q : State → Prop} {D : va_G} {cs : Nat → ClassId} {ad ad' al adK adV : Nat → Nat} {A : Nat → Prop} {b L aO T : Nat} {xs : Nat → Int32} {x4 : Int32} {σ : AS} {P : PL} {g : MS} {h : CS} {fo : Nat → Int64} {ls : Array Slot} (C : MCx p s m args meth c A RL cL_law 8 (some .boolean) D cs) (hL : LC l s args adK adV A) (hX : LX s A b L xs) (hin : Hin x4 L) (hs : wfS σ) (hM : MI σ g) (hC : CI σ P T h) (hT : T + 31 < 2 ^ 31) (hw : MH D (SW cs ad al P h ++ outC cs aO fo :: MW cs ad' g) A s H locs) (hl : lv_has ls 8 (lvL b (ad 0) (ad' 48) aO x4)) (hf : cells + 131 ≤ room_1.cells ∧ slots + 1006 ≤ room_1.slots) (kk : Nx p l e s m args below meth c D cs A ad ad' b aO x4 T cells slots Q) : W p l e room_1 s m args below meth c H locs cells slots Q (F0 m 353 ls []) := by
  have hx := C.1
  have hb := C.2.1
  have hst := hL.2.2.2.1
  obtain ⟨σ', T', g', h', r, k1, k2, k3, k4, k5, e1, e0, e2⟩ := st_fault hs hM hC (xs (x4 + 1).toNatClampNeg)
  have hf0 : cells ≤ room_1.cells ∧ slots ≤ room_1.slots := ⟨Nat.le_trans (Nat.le_add_right _ _) hf.1, Nat.le_trans (Nat.le_add_right _ _) hf.2⟩
  refine lv_aload_n hx hb dL_law_353 rfl (lv_at hl 1 rfl) ?_
  refine s_ld 0 4 C hX hw hl rfl rfl dL_law_354 dL_law_355 dL_law_357 dL_law_358 dL_law_359 (by decide) hin.1 ?_
  refine f_callV (r := some (.int r)) (rest := []) (W2 := outC cs aO fo :: MW cs ad' g) [.int (xs (x4 + 1).toNatClampNeg)] C hw cv_L_138 (qX11_fault e2) rfl ⟨rfl, rfl⟩ ⟨Nat.le_of_ble_eq_true rfl, Nat.le_of_ble_eq_true rfl⟩ (rv_law (q0 := 0) (ci := 10) (q := (RX11, TX11, 13)) C hw rfl (SW_fix rfl)) hl.1 rfl (Nat.le_of_ble_eq_true rfl) hf0 dL_law_360 (fun H locs hw => ?_)
  refine lv_aload_n hx hb dL_law_363 rfl (lv_at hl 2 rfl) ?_
  refine s_ld 0 4 C hX hw hl rfl rfl dL_law_364 dL_law_365 dL_law_367 dL_law_368 dL_law_369 (by decide) hin.1 ?_
  refine f_callM (r := some (.int r)) (rest := [.int r]) [.int (xs (x4 + 1).toNatClampNeg)] C hw cv_L_141 (qX12_fault e1) rfl ⟨rfl, rfl⟩ ⟨Nat.le_of_ble_eq_true rfl, Nat.le_of_ble_eq_true rfl⟩ (rv_M C hw) hl.1 rfl (Nat.le_of_ble_eq_true rfl) hf0 dL_law_370 (fun H locs hw => ?_)
  refine lv_icmp_eq (tgt := 2453) hx hb dL_law_373 (by decide) (fun _ => ?_) (fun z => absurd rfl z)
  exact W.widen (Nat.le_add_right _ _) (Nat.le_add_right _ _) (kk σ' P T' g' h' al fo H locs ls k1 k4 k5 k3 hw hl)

set_option maxHeartbeats 4000000 in
set_option maxRecDepth 100000 in
theorem lc_3 {p : Program} {l : Launch} {e : Env} {s : State} {m : MethodId} {args : Array Value} {below : List Frame} {meth : Method} {c : Code} {H : Heap} {locs : List Loc} {cells slots : Nat} {Q : State → Prop} {D : va_G} {cs : Nat → ClassId} {ad ad' al adK adV : Nat → Nat} {A : Nat → Prop} {b L aO T : Nat} {xs : Nat → Int32} {x4 : Int32} {σ : AS} {P : PL} {g : MS} {h : CS} {fo : Nat → Int64} {ls : Array Slot} (C : MCx p s m args meth c A RL cL_law 8 (some .boolean) D cs) (hL : LC l s args adK adV A) (hX : LX s A b L xs) (hin : Hin x4 L) (hs : wfS σ) (hM : MI σ g) (hC : CI σ P T h) (hT : T + 31 < 2 ^ 31) (hw : MH D (SW cs ad al P h ++ outC cs aO fo :: MW cs ad' g) A s H locs) (hl : lv_has ls 8 (lvL b (ad 0) (ad' 48) aO x4)) (hf : cells + 131 ≤ room_1.cells ∧ slots + 1006 ≤ room_1.slots) (kk : Nx p l e s m args below meth c D cs A ad ad' b aO x4 T cells slots Q) : W p l e room_1 s m args below meth c H locs cells slots Q (F0 m 378 ls []) := by
  have hx := C.1
  have hb := C.2.1
  have hst := hL.2.2.2.1
  obtain ⟨σ', T', g', h', k1, k2, k3, k4, k5, ko⟩ := st_member hs hM hC (xs (x4 + 1).toNatClampNeg) (xs (x4 + 2).toNatClampNeg)
  obtain ⟨r, k, fo', e1, e2, e3, e4⟩ : ∃ (r : Int32) (k : Int32) (fo' : Nat → Int64), fX12_member g (xs (x4 + 1).toNatClampNeg) (xs (x4 + 2).toNatClampNeg) = some (r, g') ∧ g'.1 4 = k ∧ WOut l D cs adK adV yL_member cL_member 5 [(0, 10, 13, 19), (0, 10, 17, 13)] [.ref (ad 0), .int (xs (x4 + 1).toNatClampNeg), .int (xs (x4 + 2).toNatClampNeg), .ref aO] (SW cs ad al P h ++ outC cs aO fo :: MW cs ad' g) k (SW cs ad al P h' ++ outC cs aO fo' :: MW cs ad' g) ∧ (k = 0 → fo' 0 = r.toInt64) := by
    rcases ko with ⟨r, q1, q2, q3⟩ | ⟨r, e, w, q1, q0, q2, q3⟩
    · exact ⟨r, 0, _, q1, q2, ⟨_, 0, 0, nL_member hst q3, ⟨rfl, rfl⟩, by decide, by decide, by decide, by decide⟩, fun _ => rfl⟩
    · simp only [List.mem_cons, Prod.mk.injEq, List.not_mem_nil, or_false] at q0
      rcases q0 with ⟨rfl, rfl⟩ | ⟨rfl, rfl⟩
      · exact ⟨r, 1, fo, q1, q2, ⟨_, 1, 6, xL_member_2 hst q3, ⟨rfl, rfl⟩, by decide, by decide, by decide, by decide⟩, fun z => absurd z (by decide)⟩
      · exact ⟨r, 2, fo, q1, q2, ⟨_, 1, 6, xL_member_1 hst q3, ⟨rfl, rfl⟩, by decide, by decide, by decide, by decide⟩, fun z => absurd z (by decide)⟩
  refine lv_aload_n hx hb dL_law_378 rfl (lv_at hl 1 rfl) ?_
  refine s_ld 0 4 C hX hw hl rfl rfl dL_law_379 dL_law_380 dL_law_382 dL_law_383 dL_law_384 (by decide) hin.1 ?_
  refine s_ld 0 4 C hX hw hl rfl rfl dL_law_385 dL_law_386 dL_law_388 dL_law_389 dL_law_390 (by decide) hin.2.1 ?_
  refine lv_aload_n hx hb dL_law_391 rfl (lv_at hl 3 rfl) ?_
  refine w_callS (rest := []) [.ref (ad 0), .int (xs (x4 + 1).toNatClampNeg), .int (xs (x4 + 2).toNatClampNeg), .ref aO] C hL hw cw_L_142 e3 rfl (by decide) ⟨Nat.le_of_ble_eq_true rfl, Nat.le_of_ble_eq_true rfl⟩ hl.1 rfl (Nat.le_of_ble_eq_true rfl) hf dL_law_392 (fun H locs hw => ?_)
  refine lv_istore (lv' := [(5, .int k), (0, .ref b), (1, .ref (ad 0)), (2, .ref (ad' 48)), (3, .ref aO), (4, .int x4)]) hx hb dL_law_395 hl (by decide) rfl (fun ls hl => ?_)
  refine lv_aload_n hx hb dL_law_397 rfl (lv_at hl 3 rfl) ?_
  refine s_ld 1 5 C hX hw hl rfl rfl dL_law_398 dL_law_399 dL_law_401 dL_law_402 dL_law_403 (by decide) hin.1 ?_
  refine s_ld 1 5 C hX hw hl rfl rfl dL_law_404 dL_law_405 dL_law_407 dL_law_408 dL_law_409 (by decide) hin.2.1 ?_
  refine f_callM (r := some (.int r)) (rest := []) [.int (xs (x4 + 1).toNatClampNeg), .int (xs (x4 + 2).toNatClampNeg)] C hw cv_L_145 (qX12_member e1) rfl ⟨rfl, rfl⟩ ⟨Nat.le_of_ble_eq_true rfl, Nat.le_of_ble_eq_true rfl⟩ (rv_M C hw) hl.1 rfl (Nat.le_of_ble_eq_true rfl) hf dL_law_410 (fun H locs hw => ?_)
  refine lv_istore (lv' := [(6, .int r), (5, .int k), (0, .ref b), (1, .ref (ad 0)), (2, .ref (ad' 48)), (3, .ref aO), (4, .int x4)]) hx hb dL_law_413 hl (by decide) rfl (fun ls hl => ?_)
  refine lv_aload_n hx hb dL_law_415 rfl (lv_at hl 4 rfl) ?_
  refine f_callM (r := some (.int (g'.1 4))) (rest := []) [] C hw cv_L_134 (qX12_thrown rfl) rfl ⟨rfl, rfl⟩ ⟨Nat.le_of_ble_eq_true rfl, Nat.le_of_ble_eq_true rfl⟩ (rv_M C hw) hl.1 rfl (Nat.le_of_ble_eq_true rfl) hf dL_law_416 (fun H locs hw => ?_)
  refine lv_iload hx hb dL_law_419 (lv_at hl 1 rfl) ?_
  refine lv_icmp_eq (tgt := 426) hx hb dL_law_421 (by decide) (fun _ => ?_) (fun z => absurd e2 z)
  refine lv_iload hx hb dL_law_426 (lv_at hl 1 rfl) ?_
  refine lv_if_ne (tgt := 443) hx hb dL_law_428 (by decide) (fun _ => ?_) (fun z => ?_)
  · refine lv_goto (tgt := 2453) hx hb dL_law_443 (by decide) ?_
    exact kk σ' P T' g' h' al fo' H locs ls k1 k4 k5 k3 hw (lv_sub hl [2, 3, 4, 5, 6] rfl)
  · refine lv_aload_n hx hb dL_law_431 rfl (lv_at hl 5 rfl) ?_
    refine lv_iconst (v := (0 : Int32)) hx hb dL_law_432 (by decide) ?_
    refine o_load C hw dL_law_433 ?_
    refine lv_iload hx hb dL_law_434 (lv_at hl 0 rfl) ?_
    refine lv_i2l hx hb dL_law_436 rfl ?_
    refine W.lcmp hx hb dL_law_437 ?_
    refine lv_if_eq (tgt := 443) hx hb dL_law_438 (by decide) (fun _ => ?_) (fun y => absurd ((lg_cmp_eq _ _).mpr (e4 z)) y)
    refine lv_goto (tgt := 2453) hx hb dL_law_443 (by decide) ?_
    exact kk σ' P T' g' h' al fo' H locs ls k1 k4 k5 k3 hw (lv_sub hl [2, 3, 4, 5, 6] rfl)

set_option maxHeartbeats 4000000 in
set_option maxRecDepth 100000 in
theorem lc_4 {p : Program} {l : Launch} {e : Env} {s : State} {m : MethodId} {args : Array Value} {below : List Frame} {meth : Method} {c : Code} {H : Heap} {locs : List Loc} {cells slots : Nat} {Q : State → Prop} {D : va_G} {cs : Nat → ClassId} {ad ad' al adK adV : Nat → Nat} {A : Nat → Prop} {b L aO T : Nat} {xs : Nat → Int32} {x4 : Int32} {σ : AS} {P : PL} {g : MS} {h : CS} {fo : Nat → Int64} {ls : Array Slot} (C : MCx p s m args meth c A RL cL_law 8 (some .boolean) D cs) (hL : LC l s args adK adV A) (hX : LX s A b L xs) (hin : Hin x4 L) (hs : wfS σ) (hM : MI σ g) (hC : CI σ P T h) (hT : T + 31 < 2 ^ 31) (hw : MH D (SW cs ad al P h ++ outC cs aO fo :: MW cs ad' g) A s H locs) (hl : lv_has ls 8 (lvL b (ad 0) (ad' 48) aO x4)) (hf : cells + 131 ≤ room_1.cells ∧ slots + 1006 ≤ room_1.slots) (kk : Nx p l e s m args below meth c D cs A ad ad' b aO x4 T cells slots Q) : W p l e room_1 s m args below meth c H locs cells slots Q (F0 m 446 ls []) := by
  have hx := C.1
  have hb := C.2.1
  have hst := hL.2.2.2.1
  obtain ⟨σ', T', g', h', r, k1, k2, k3, k4, k5, e1, e0, e2⟩ := st_chair hs hM hC 
  have hf0 : cells ≤ room_1.cells ∧ slots ≤ room_1.slots := ⟨Nat.le_trans (Nat.le_add_right _ _) hf.1, Nat.le_trans (Nat.le_add_right _ _) hf.2⟩
  refine lv_aload_n hx hb dL_law_446 rfl (lv_at hl 1 rfl) ?_
  refine f_callV (r := some (.int r)) (rest := []) (W2 := outC cs aO fo :: MW cs ad' g) [] C hw cv_L_146 (qX11_chair e2) rfl ⟨rfl, rfl⟩ ⟨Nat.le_of_ble_eq_true rfl, Nat.le_of_ble_eq_true rfl⟩ (rv_law (q0 := 0) (ci := 10) (q := (RX11, TX11, 13)) C hw rfl (SW_fix rfl)) hl.1 rfl (Nat.le_of_ble_eq_true rfl) hf0 dL_law_447 (fun H locs hw => ?_)
  refine lv_aload_n hx hb dL_law_450 rfl (lv_at hl 2 rfl) ?_
  refine f_callM (r := some (.int r)) (rest := [.int r]) [] C hw cv_L_149 (qX12_chair e1) rfl ⟨rfl, rfl⟩ ⟨Nat.le_of_ble_eq_true rfl, Nat.le_of_ble_eq_true rfl⟩ (rv_M C hw) hl.1 rfl (Nat.le_of_ble_eq_true rfl) hf0 dL_law_451 (fun H locs hw => ?_)
  refine lv_icmp_eq (tgt := 2453) hx hb dL_law_454 (by decide) (fun _ => ?_) (fun z => absurd rfl z)
  exact W.widen (Nat.le_add_right _ _) (Nat.le_add_right _ _) (kk σ' P T' g' h' al fo H locs ls k1 k4 k5 k3 hw hl)

set_option maxHeartbeats 4000000 in
set_option maxRecDepth 100000 in
theorem lc_5 {p : Program} {l : Launch} {e : Env} {s : State} {m : MethodId} {args : Array Value} {below : List Frame} {meth : Method} {c : Code} {H : Heap} {locs : List Loc} {cells slots : Nat} {Q : State → Prop} {D : va_G} {cs : Nat → ClassId} {ad ad' al adK adV : Nat → Nat} {A : Nat → Prop} {b L aO T : Nat} {xs : Nat → Int32} {x4 : Int32} {σ : AS} {P : PL} {g : MS} {h : CS} {fo : Nat → Int64} {ls : Array Slot} (C : MCx p s m args meth c A RL cL_law 8 (some .boolean) D cs) (hL : LC l s args adK adV A) (hX : LX s A b L xs) (hin : Hin x4 L) (hs : wfS σ) (hM : MI σ g) (hC : CI σ P T h) (hT : T + 31 < 2 ^ 31) (hw : MH D (SW cs ad al P h ++ outC cs aO fo :: MW cs ad' g) A s H locs) (hl : lv_has ls 8 (lvL b (ad 0) (ad' 48) aO x4)) (hf : cells + 131 ≤ room_1.cells ∧ slots + 1006 ≤ room_1.slots) (kk : Nx p l e s m args below meth c D cs A ad ad' b aO x4 T cells slots Q) : W p l e room_1 s m args below meth c H locs cells slots Q (F0 m 459 ls []) := by
  have hx := C.1
  have hb := C.2.1
  have hst := hL.2.2.2.1
  obtain ⟨σ', T', g', h', k1, k2, k3, k4, k5, ko⟩ := st_drags hs hM hC (xs (x4 + 1).toNatClampNeg)
  obtain ⟨r, k, fo', e1, e2, e3, e4⟩ : ∃ (r : Int32) (k : Int32) (fo' : Nat → Int64), fX12_drags g (xs (x4 + 1).toNatClampNeg) = some (r, g') ∧ g'.1 4 = k ∧ WOut l D cs adK adV yL_drags cL_drags 4 [(0, 9, 12, 19)] [.ref (ad 0), .int (xs (x4 + 1).toNatClampNeg), .ref aO] (SW cs ad al P h ++ outC cs aO fo :: MW cs ad' g) k (SW cs ad al P h' ++ outC cs aO fo' :: MW cs ad' g) ∧ (k = 0 → fo' 0 = r.toInt64) := by
    rcases ko with ⟨r, q1, q2, q3⟩ | ⟨r, e, w, q1, q0, q2, q3⟩
    · exact ⟨r, 0, _, q1, q2, ⟨_, 0, 0, nL_drags hst q3, ⟨rfl, rfl⟩, by decide, by decide, by decide, by decide⟩, fun _ => rfl⟩
    · simp only [List.mem_cons, Prod.mk.injEq, List.not_mem_nil, or_false] at q0
      obtain ⟨rfl, rfl⟩ := q0
      exact ⟨r, 1, fo, q1, q2, ⟨_, 1, 6, xL_drags_2 hst q3, ⟨rfl, rfl⟩, by decide, by decide, by decide, by decide⟩, fun z => absurd z (by decide)⟩
  refine lv_aload_n hx hb dL_law_459 rfl (lv_at hl 1 rfl) ?_
  refine s_ld 0 4 C hX hw hl rfl rfl dL_law_460 dL_law_461 dL_law_463 dL_law_464 dL_law_465 (by decide) hin.1 ?_
  refine lv_aload_n hx hb dL_law_466 rfl (lv_at hl 3 rfl) ?_
  refine w_callS (rest := []) [.ref (ad 0), .int (xs (x4 + 1).toNatClampNeg), .ref aO] C hL hw cw_L_150 e3 rfl (by decide) ⟨Nat.le_of_ble_eq_true rfl, Nat.le_of_ble_eq_true rfl⟩ hl.1 rfl (Nat.le_of_ble_eq_true rfl) hf dL_law_467 (fun H locs hw => ?_)
  refine lv_istore (lv' := [(5, .int k), (0, .ref b), (1, .ref (ad 0)), (2, .ref (ad' 48)), (3, .ref aO), (4, .int x4)]) hx hb dL_law_470 hl (by decide) rfl (fun ls hl => ?_)
  refine lv_aload_n hx hb dL_law_472 rfl (lv_at hl 3 rfl) ?_
  refine s_ld 1 5 C hX hw hl rfl rfl dL_law_473 dL_law_474 dL_law_476 dL_law_477 dL_law_478 (by decide) hin.1 ?_
  refine f_callM (r := some (.int r)) (rest := []) [.int (xs (x4 + 1).toNatClampNeg)] C hw cv_L_152 (qX12_drags e1) rfl ⟨rfl, rfl⟩ ⟨Nat.le_of_ble_eq_true rfl, Nat.le_of_ble_eq_true rfl⟩ (rv_M C hw) hl.1 rfl (Nat.le_of_ble_eq_true rfl) hf dL_law_479 (fun H locs hw => ?_)
  refine lv_istore (lv' := [(6, .int r), (5, .int k), (0, .ref b), (1, .ref (ad 0)), (2, .ref (ad' 48)), (3, .ref aO), (4, .int x4)]) hx hb dL_law_482 hl (by decide) rfl (fun ls hl => ?_)
  refine lv_aload_n hx hb dL_law_484 rfl (lv_at hl 4 rfl) ?_
  refine f_callM (r := some (.int (g'.1 4))) (rest := []) [] C hw cv_L_134 (qX12_thrown rfl) rfl ⟨rfl, rfl⟩ ⟨Nat.le_of_ble_eq_true rfl, Nat.le_of_ble_eq_true rfl⟩ (rv_M C hw) hl.1 rfl (Nat.le_of_ble_eq_true rfl) hf dL_law_485 (fun H locs hw => ?_)
  refine lv_iload hx hb dL_law_488 (lv_at hl 1 rfl) ?_
  refine lv_icmp_eq (tgt := 495) hx hb dL_law_490 (by decide) (fun _ => ?_) (fun z => absurd e2 z)
  refine lv_iload hx hb dL_law_495 (lv_at hl 1 rfl) ?_
  refine lv_if_ne (tgt := 512) hx hb dL_law_497 (by decide) (fun _ => ?_) (fun z => ?_)
  · refine lv_goto (tgt := 2453) hx hb dL_law_512 (by decide) ?_
    exact kk σ' P T' g' h' al fo' H locs ls k1 k4 k5 k3 hw (lv_sub hl [2, 3, 4, 5, 6] rfl)
  · refine lv_aload_n hx hb dL_law_500 rfl (lv_at hl 5 rfl) ?_
    refine lv_iconst (v := (0 : Int32)) hx hb dL_law_501 (by decide) ?_
    refine o_load C hw dL_law_502 ?_
    refine lv_iload hx hb dL_law_503 (lv_at hl 0 rfl) ?_
    refine lv_i2l hx hb dL_law_505 rfl ?_
    refine W.lcmp hx hb dL_law_506 ?_
    refine lv_if_eq (tgt := 512) hx hb dL_law_507 (by decide) (fun _ => ?_) (fun y => absurd ((lg_cmp_eq _ _).mpr (e4 z)) y)
    refine lv_goto (tgt := 2453) hx hb dL_law_512 (by decide) ?_
    exact kk σ' P T' g' h' al fo' H locs ls k1 k4 k5 k3 hw (lv_sub hl [2, 3, 4, 5, 6] rfl)

set_option maxHeartbeats 4000000 in
set_option maxRecDepth 100000 in
theorem lc_6 {p : Program} {l : Launch} {e : Env} {s : State} {m : MethodId} {args : Array Value} {below : List Frame} {meth : Method} {c : Code} {H : Heap} {locs : List Loc} {cells slots : Nat} {Q : State → Prop} {D : va_G} {cs : Nat → ClassId} {ad ad' al adK adV : Nat → Nat} {A : Nat → Prop} {b L aO T : Nat} {xs : Nat → Int32} {x4 : Int32} {σ : AS} {P : PL} {g : MS} {h : CS} {fo : Nat → Int64} {ls : Array Slot} (C : MCx p s m args meth c A RL cL_law 8 (some .boolean) D cs) (hL : LC l s args adK adV A) (hX : LX s A b L xs) (hin : Hin x4 L) (hs : wfS σ) (hM : MI σ g) (hC : CI σ P T h) (hT : T + 31 < 2 ^ 31) (hw : MH D (SW cs ad al P h ++ outC cs aO fo :: MW cs ad' g) A s H locs) (hl : lv_has ls 8 (lvL b (ad 0) (ad' 48) aO x4)) (hf : cells + 131 ≤ room_1.cells ∧ slots + 1006 ≤ room_1.slots) (kk : Nx p l e s m args below meth c D cs A ad ad' b aO x4 T cells slots Q) : W p l e room_1 s m args below meth c H locs cells slots Q (F0 m 515 ls []) := by
  have hx := C.1
  have hb := C.2.1
  have hst := hL.2.2.2.1
  obtain ⟨σ', T', g', h', k1, k2, k3, k4, k5, ko⟩ := st_goes hs hM hC (xs (x4 + 1).toNatClampNeg)
  obtain ⟨r, k, fo', e1, e2, e3, e4⟩ : ∃ (r : Int32) (k : Int32) (fo' : Nat → Int64), fX12_goes g (xs (x4 + 1).toNatClampNeg) = some (r, g') ∧ g'.1 4 = k ∧ WOut l D cs adK adV yL_goes cL_goes 4 [(0, 9, 12, 19)] [.ref (ad 0), .int (xs (x4 + 1).toNatClampNeg), .ref aO] (SW cs ad al P h ++ outC cs aO fo :: MW cs ad' g) k (SW cs ad al P h' ++ outC cs aO fo' :: MW cs ad' g) ∧ (k = 0 → fo' 0 = r.toInt64) := by
    rcases ko with ⟨r, q1, q2, q3⟩ | ⟨r, e, w, q1, q0, q2, q3⟩
    · exact ⟨r, 0, _, q1, q2, ⟨_, 0, 0, nL_goes hst q3, ⟨rfl, rfl⟩, by decide, by decide, by decide, by decide⟩, fun _ => rfl⟩
    · simp only [List.mem_cons, Prod.mk.injEq, List.not_mem_nil, or_false] at q0
      obtain ⟨rfl, rfl⟩ := q0
      exact ⟨r, 1, fo, q1, q2, ⟨_, 1, 6, xL_goes_2 hst q3, ⟨rfl, rfl⟩, by decide, by decide, by decide, by decide⟩, fun z => absurd z (by decide)⟩
  refine lv_aload_n hx hb dL_law_515 rfl (lv_at hl 1 rfl) ?_
  refine s_ld 0 4 C hX hw hl rfl rfl dL_law_516 dL_law_517 dL_law_519 dL_law_520 dL_law_521 (by decide) hin.1 ?_
  refine lv_aload_n hx hb dL_law_522 rfl (lv_at hl 3 rfl) ?_
  refine w_callS (rest := []) [.ref (ad 0), .int (xs (x4 + 1).toNatClampNeg), .ref aO] C hL hw cw_L_153 e3 rfl (by decide) ⟨Nat.le_of_ble_eq_true rfl, Nat.le_of_ble_eq_true rfl⟩ hl.1 rfl (Nat.le_of_ble_eq_true rfl) hf dL_law_523 (fun H locs hw => ?_)
  refine lv_istore (lv' := [(5, .int k), (0, .ref b), (1, .ref (ad 0)), (2, .ref (ad' 48)), (3, .ref aO), (4, .int x4)]) hx hb dL_law_526 hl (by decide) rfl (fun ls hl => ?_)
  refine lv_aload_n hx hb dL_law_528 rfl (lv_at hl 3 rfl) ?_
  refine s_ld 1 5 C hX hw hl rfl rfl dL_law_529 dL_law_530 dL_law_532 dL_law_533 dL_law_534 (by decide) hin.1 ?_
  refine f_callM (r := some (.int r)) (rest := []) [.int (xs (x4 + 1).toNatClampNeg)] C hw cv_L_155 (qX12_goes e1) rfl ⟨rfl, rfl⟩ ⟨Nat.le_of_ble_eq_true rfl, Nat.le_of_ble_eq_true rfl⟩ (rv_M C hw) hl.1 rfl (Nat.le_of_ble_eq_true rfl) hf dL_law_535 (fun H locs hw => ?_)
  refine lv_istore (lv' := [(6, .int r), (5, .int k), (0, .ref b), (1, .ref (ad 0)), (2, .ref (ad' 48)), (3, .ref aO), (4, .int x4)]) hx hb dL_law_538 hl (by decide) rfl (fun ls hl => ?_)
  refine lv_aload_n hx hb dL_law_540 rfl (lv_at hl 4 rfl) ?_
  refine f_callM (r := some (.int (g'.1 4))) (rest := []) [] C hw cv_L_134 (qX12_thrown rfl) rfl ⟨rfl, rfl⟩ ⟨Nat.le_of_ble_eq_true rfl, Nat.le_of_ble_eq_true rfl⟩ (rv_M C hw) hl.1 rfl (Nat.le_of_ble_eq_true rfl) hf dL_law_541 (fun H locs hw => ?_)
  refine lv_iload hx hb dL_law_544 (lv_at hl 1 rfl) ?_
  refine lv_icmp_eq (tgt := 551) hx hb dL_law_546 (by decide) (fun _ => ?_) (fun z => absurd e2 z)
  refine lv_iload hx hb dL_law_551 (lv_at hl 1 rfl) ?_
  refine lv_if_ne (tgt := 568) hx hb dL_law_553 (by decide) (fun _ => ?_) (fun z => ?_)
  · refine lv_goto (tgt := 2453) hx hb dL_law_568 (by decide) ?_
    exact kk σ' P T' g' h' al fo' H locs ls k1 k4 k5 k3 hw (lv_sub hl [2, 3, 4, 5, 6] rfl)
  · refine lv_aload_n hx hb dL_law_556 rfl (lv_at hl 5 rfl) ?_
    refine lv_iconst (v := (0 : Int32)) hx hb dL_law_557 (by decide) ?_
    refine o_load C hw dL_law_558 ?_
    refine lv_iload hx hb dL_law_559 (lv_at hl 0 rfl) ?_
    refine lv_i2l hx hb dL_law_561 rfl ?_
    refine W.lcmp hx hb dL_law_562 ?_
    refine lv_if_eq (tgt := 568) hx hb dL_law_563 (by decide) (fun _ => ?_) (fun y => absurd ((lg_cmp_eq _ _).mpr (e4 z)) y)
    refine lv_goto (tgt := 2453) hx hb dL_law_568 (by decide) ?_
    exact kk σ' P T' g' h' al fo' H locs ls k1 k4 k5 k3 hw (lv_sub hl [2, 3, 4, 5, 6] rfl)

set_option maxHeartbeats 4000000 in
set_option maxRecDepth 100000 in
theorem lc_7 {p : Program} {l : Launch} {e : Env} {s : State} {m : MethodId} {args : Array Value} {below : List Frame} {meth : Method} {c : Code} {H : Heap} {locs : List Loc} {cells slots : Nat} {Q : State → Prop} {D : va_G} {cs : Nat → ClassId} {ad ad' al adK adV : Nat → Nat} {A : Nat → Prop} {b L aO T : Nat} {xs : Nat → Int32} {x4 : Int32} {σ : AS} {P : PL} {g : MS} {h : CS} {fo : Nat → Int64} {ls : Array Slot} (C : MCx p s m args meth c A RL cL_law 8 (some .boolean) D cs) (hL : LC l s args adK adV A) (hX : LX s A b L xs) (hin : Hin x4 L) (hs : wfS σ) (hM : MI σ g) (hC : CI σ P T h) (hT : T + 31 < 2 ^ 31) (hw : MH D (SW cs ad al P h ++ outC cs aO fo :: MW cs ad' g) A s H locs) (hl : lv_has ls 8 (lvL b (ad 0) (ad' 48) aO x4)) (hf : cells + 131 ≤ room_1.cells ∧ slots + 1006 ≤ room_1.slots) (kk : Nx p l e s m args below meth c D cs A ad ad' b aO x4 T cells slots Q) : W p l e room_1 s m args below meth c H locs cells slots Q (F0 m 571 ls []) := by
  have hx := C.1
  have hb := C.2.1
  have hst := hL.2.2.2.1
  obtain ⟨σ', T', g', h', r, k1, k2, k3, k4, k5, e1, e0, e2⟩ := st_turn hs hM hC hT (xs (x4 + 1).toNatClampNeg) (xs (x4 + 2).toNatClampNeg)
  have hf0 : cells ≤ room_1.cells ∧ slots ≤ room_1.slots := ⟨Nat.le_trans (Nat.le_add_right _ _) hf.1, Nat.le_trans (Nat.le_add_right _ _) hf.2⟩
  refine lv_aload_n hx hb dL_law_571 rfl (lv_at hl 1 rfl) ?_
  refine s_ld 0 4 C hX hw hl rfl rfl dL_law_572 dL_law_573 dL_law_575 dL_law_576 dL_law_577 (by decide) hin.1 ?_
  refine s_ld 0 4 C hX hw hl rfl rfl dL_law_578 dL_law_579 dL_law_581 dL_law_582 dL_law_583 (by decide) hin.2.1 ?_
  refine f_callV (r := some (.int r)) (rest := []) (W2 := outC cs aO fo :: MW cs ad' g) [.int (xs (x4 + 1).toNatClampNeg), .int (xs (x4 + 2).toNatClampNeg)] C hw cv_L_156 (qX11_turn e2) rfl ⟨rfl, rfl⟩ ⟨Nat.le_of_ble_eq_true rfl, Nat.le_of_ble_eq_true rfl⟩ (rv_law (q0 := 0) (ci := 10) (q := (RX11, TX11, 13)) C hw rfl (SW_fix rfl)) hl.1 rfl (Nat.le_of_ble_eq_true rfl) hf0 dL_law_584 (fun H locs hw => ?_)
  refine lv_aload_n hx hb dL_law_587 rfl (lv_at hl 2 rfl) ?_
  refine s_ld 0 4 C hX hw hl rfl rfl dL_law_588 dL_law_589 dL_law_591 dL_law_592 dL_law_593 (by decide) hin.1 ?_
  refine s_ld 0 4 C hX hw hl rfl rfl dL_law_594 dL_law_595 dL_law_597 dL_law_598 dL_law_599 (by decide) hin.2.1 ?_
  refine f_callM (r := some (.int r)) (rest := [.int r]) [.int (xs (x4 + 1).toNatClampNeg), .int (xs (x4 + 2).toNatClampNeg)] C hw cv_L_159 (qX12_turn e1) rfl ⟨rfl, rfl⟩ ⟨Nat.le_of_ble_eq_true rfl, Nat.le_of_ble_eq_true rfl⟩ (rv_M C hw) hl.1 rfl (Nat.le_of_ble_eq_true rfl) hf0 dL_law_600 (fun H locs hw => ?_)
  refine lv_icmp_eq (tgt := 2453) hx hb dL_law_603 (by decide) (fun _ => ?_) (fun z => absurd rfl z)
  exact W.widen (Nat.le_add_right _ _) (Nat.le_add_right _ _) (kk σ' P T' g' h' al fo H locs ls k1 k4 k5 k3 hw hl)

set_option maxHeartbeats 4000000 in
set_option maxRecDepth 100000 in
theorem lc_8 {p : Program} {l : Launch} {e : Env} {s : State} {m : MethodId} {args : Array Value} {below : List Frame} {meth : Method} {c : Code} {H : Heap} {locs : List Loc} {cells slots : Nat} {Q : State → Prop} {D : va_G} {cs : Nat → ClassId} {ad ad' al adK adV : Nat → Nat} {A : Nat → Prop} {b L aO T : Nat} {xs : Nat → Int32} {x4 : Int32} {σ : AS} {P : PL} {g : MS} {h : CS} {fo : Nat → Int64} {ls : Array Slot} (C : MCx p s m args meth c A RL cL_law 8 (some .boolean) D cs) (hL : LC l s args adK adV A) (hX : LX s A b L xs) (hin : Hin x4 L) (hs : wfS σ) (hM : MI σ g) (hC : CI σ P T h) (hT : T + 31 < 2 ^ 31) (hw : MH D (SW cs ad al P h ++ outC cs aO fo :: MW cs ad' g) A s H locs) (hl : lv_has ls 8 (lvL b (ad 0) (ad' 48) aO x4)) (hf : cells + 131 ≤ room_1.cells ∧ slots + 1006 ≤ room_1.slots) (kk : Nx p l e s m args below meth c D cs A ad ad' b aO x4 T cells slots Q) : W p l e room_1 s m args below meth c H locs cells slots Q (F0 m 608 ls []) := by
  have hx := C.1
  have hb := C.2.1
  have hst := hL.2.2.2.1
  obtain ⟨σ', T', g', h', r, k1, k2, k3, k4, k5, e1, e0, e2⟩ := st_weigh hs hM hC hT (xs (x4 + 1).toNatClampNeg) (xs (x4 + 2).toNatClampNeg)
  have hf0 : cells ≤ room_1.cells ∧ slots ≤ room_1.slots := ⟨Nat.le_trans (Nat.le_add_right _ _) hf.1, Nat.le_trans (Nat.le_add_right _ _) hf.2⟩
  refine lv_aload_n hx hb dL_law_608 rfl (lv_at hl 1 rfl) ?_
  refine s_ld 0 4 C hX hw hl rfl rfl dL_law_609 dL_law_610 dL_law_612 dL_law_613 dL_law_614 (by decide) hin.1 ?_
  refine s_ld 0 4 C hX hw hl rfl rfl dL_law_615 dL_law_616 dL_law_618 dL_law_619 dL_law_620 (by decide) hin.2.1 ?_
  refine f_callV (r := some (.int r)) (rest := []) (W2 := outC cs aO fo :: MW cs ad' g) [.int (xs (x4 + 1).toNatClampNeg), .int (xs (x4 + 2).toNatClampNeg)] C hw cv_L_160 (qX11_weigh e2) rfl ⟨rfl, rfl⟩ ⟨Nat.le_of_ble_eq_true rfl, Nat.le_of_ble_eq_true rfl⟩ (rv_law (q0 := 0) (ci := 10) (q := (RX11, TX11, 13)) C hw rfl (SW_fix rfl)) hl.1 rfl (Nat.le_of_ble_eq_true rfl) hf0 dL_law_621 (fun H locs hw => ?_)
  refine lv_aload_n hx hb dL_law_624 rfl (lv_at hl 2 rfl) ?_
  refine s_ld 0 4 C hX hw hl rfl rfl dL_law_625 dL_law_626 dL_law_628 dL_law_629 dL_law_630 (by decide) hin.1 ?_
  refine s_ld 0 4 C hX hw hl rfl rfl dL_law_631 dL_law_632 dL_law_634 dL_law_635 dL_law_636 (by decide) hin.2.1 ?_
  refine f_callM (r := some (.int r)) (rest := [.int r]) [.int (xs (x4 + 1).toNatClampNeg), .int (xs (x4 + 2).toNatClampNeg)] C hw cv_L_163 (qX12_weigh e1) rfl ⟨rfl, rfl⟩ ⟨Nat.le_of_ble_eq_true rfl, Nat.le_of_ble_eq_true rfl⟩ (rv_M C hw) hl.1 rfl (Nat.le_of_ble_eq_true rfl) hf0 dL_law_637 (fun H locs hw => ?_)
  refine lv_icmp_eq (tgt := 2453) hx hb dL_law_640 (by decide) (fun _ => ?_) (fun z => absurd rfl z)
  exact W.widen (Nat.le_add_right _ _) (Nat.le_add_right _ _) (kk σ' P T' g' h' al fo H locs ls k1 k4 k5 k3 hw hl)
