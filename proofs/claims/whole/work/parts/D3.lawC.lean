set_option maxHeartbeats 4000000 in
set_option maxRecDepth 100000 in
theorem lc_18 {p : Program} {l : Launch} {e : Env} {s : State} {m : MethodId} {args : Array Value} {below : List Frame} {meth : Method} {c : Code} {H : Heap} {locs : List Loc} {cells slots : Nat} {Q : State → Prop} {D : va_G} {cs : Nat → ClassId} {ad ad' al adK adV : Nat → Nat} {A : Nat → Prop} {b L aO T : Nat} {xs : Nat → Int32} {x4 : Int32} {σ : AS} {P : PL} {g : MS} {h : CS} {fo : Nat → Int64} {ls : Array Slot} (C : MCx p s m args meth c A RL cL_law 8 (some .boolean) D cs) (hL : LC l s args adK adV A) (hX : LX s A b L xs) (hin : Hin x4 L) (hs : wfS σ) (hM : MI σ g) (hC : CI σ P T h) (hT : T + 31 < 2 ^ 31) (hw : MH D (SW cs ad al P h ++ outC cs aO fo :: MW cs ad' g) A s H locs) (hl : lv_has ls 8 (lvL b (ad 0) (ad' 48) aO x4)) (hf : cells + 131 ≤ room_1.cells ∧ slots + 1006 ≤ room_1.slots) (kk : Nx p l e s m args below meth c D cs A ad ad' b aO x4 T cells slots Q) : W p l e room_1 s m args below meth c H locs cells slots Q (F0 m 1166 ls []) := by
  have hx := C.1
  have hb := C.2.1
  have hst := hL.2.2.2.1
  obtain ⟨σ', T', g', h', r, k1, k2, k3, k4, k5, e1, e0, e2⟩ := st_looks hs hM hC 
  have hf0 : cells ≤ room_1.cells ∧ slots ≤ room_1.slots := ⟨Nat.le_trans (Nat.le_add_right _ _) hf.1, Nat.le_trans (Nat.le_add_right _ _) hf.2⟩
  refine lv_aload_n hx hb dL_law_1166 rfl (lv_at hl 1 rfl) ?_
  refine f_callV (r := some (.int r)) (rest := []) (W2 := outC cs aO fo :: MW cs ad' g) [] C hw cv_L_192 (qX11_looks e2) rfl ⟨rfl, rfl⟩ ⟨Nat.le_of_ble_eq_true rfl, Nat.le_of_ble_eq_true rfl⟩ (rv_law (q0 := 0) (ci := 10) (q := (RX11, TX11, 13)) C hw rfl (SW_fix rfl)) hl.1 rfl (Nat.le_of_ble_eq_true rfl) hf0 dL_law_1167 (fun H locs hw => ?_)
  refine lv_aload_n hx hb dL_law_1170 rfl (lv_at hl 2 rfl) ?_
  refine f_callM (r := some (.int r)) (rest := [.int r]) [] C hw cv_L_195 (qX12_looks e1) rfl ⟨rfl, rfl⟩ ⟨Nat.le_of_ble_eq_true rfl, Nat.le_of_ble_eq_true rfl⟩ (rv_M C hw) hl.1 rfl (Nat.le_of_ble_eq_true rfl) hf0 dL_law_1171 (fun H locs hw => ?_)
  refine lv_icmp_eq (tgt := 2453) hx hb dL_law_1174 (by decide) (fun _ => ?_) (fun z => absurd rfl z)
  exact W.widen (Nat.le_add_right _ _) (Nat.le_add_right _ _) (kk σ' P T' g' h' al fo H locs ls k1 k4 k5 k3 hw hl)

set_option maxHeartbeats 4000000 in
set_option maxRecDepth 100000 in
theorem lc_19 {p : Program} {l : Launch} {e : Env} {s : State} {m : MethodId} {args : Array Value} {below : List Frame} {meth : Method} {c : Code} {H : Heap} {locs : List Loc} {cells slots : Nat} {Q : State → Prop} {D : va_G} {cs : Nat → ClassId} {ad ad' al adK adV : Nat → Nat} {A : Nat → Prop} {b L aO T : Nat} {xs : Nat → Int32} {x4 : Int32} {σ : AS} {P : PL} {g : MS} {h : CS} {fo : Nat → Int64} {ls : Array Slot} (C : MCx p s m args meth c A RL cL_law 8 (some .boolean) D cs) (hL : LC l s args adK adV A) (hX : LX s A b L xs) (hin : Hin x4 L) (hs : wfS σ) (hM : MI σ g) (hC : CI σ P T h) (hT : T + 31 < 2 ^ 31) (hw : MH D (SW cs ad al P h ++ outC cs aO fo :: MW cs ad' g) A s H locs) (hl : lv_has ls 8 (lvL b (ad 0) (ad' 48) aO x4)) (hf : cells + 131 ≤ room_1.cells ∧ slots + 1006 ≤ room_1.slots) (kk : Nx p l e s m args below meth c D cs A ad ad' b aO x4 T cells slots Q) : W p l e room_1 s m args below meth c H locs cells slots Q (F0 m 1179 ls []) := by
  have hx := C.1
  have hb := C.2.1
  have hst := hL.2.2.2.1
  obtain ⟨σ', T', g', h', r, k1, k2, k3, k4, k5, e1, e0, e2⟩ := st_idle hs hM hC 
  have hf0 : cells ≤ room_1.cells ∧ slots ≤ room_1.slots := ⟨Nat.le_trans (Nat.le_add_right _ _) hf.1, Nat.le_trans (Nat.le_add_right _ _) hf.2⟩
  refine lv_aload_n hx hb dL_law_1179 rfl (lv_at hl 1 rfl) ?_
  refine f_callV (r := some (.int r)) (rest := []) (W2 := outC cs aO fo :: MW cs ad' g) [] C hw cv_L_196 (qX11_idle e2) rfl ⟨rfl, rfl⟩ ⟨Nat.le_of_ble_eq_true rfl, Nat.le_of_ble_eq_true rfl⟩ (rv_law (q0 := 0) (ci := 10) (q := (RX11, TX11, 13)) C hw rfl (SW_fix rfl)) hl.1 rfl (Nat.le_of_ble_eq_true rfl) hf0 dL_law_1180 (fun H locs hw => ?_)
  refine lv_aload_n hx hb dL_law_1183 rfl (lv_at hl 2 rfl) ?_
  refine f_callM (r := some (.int r)) (rest := [.int r]) [] C hw cv_L_199 (qX12_idle e1) rfl ⟨rfl, rfl⟩ ⟨Nat.le_of_ble_eq_true rfl, Nat.le_of_ble_eq_true rfl⟩ (rv_M C hw) hl.1 rfl (Nat.le_of_ble_eq_true rfl) hf0 dL_law_1184 (fun H locs hw => ?_)
  refine lv_icmp_eq (tgt := 2453) hx hb dL_law_1187 (by decide) (fun _ => ?_) (fun z => absurd rfl z)
  exact W.widen (Nat.le_add_right _ _) (Nat.le_add_right _ _) (kk σ' P T' g' h' al fo H locs ls k1 k4 k5 k3 hw hl)

set_option maxHeartbeats 4000000 in
set_option maxRecDepth 100000 in
theorem lc_20 {p : Program} {l : Launch} {e : Env} {s : State} {m : MethodId} {args : Array Value} {below : List Frame} {meth : Method} {c : Code} {H : Heap} {locs : List Loc} {cells slots : Nat} {Q : State → Prop} {D : va_G} {cs : Nat → ClassId} {ad ad' al adK adV : Nat → Nat} {A : Nat → Prop} {b L aO T : Nat} {xs : Nat → Int32} {x4 : Int32} {σ : AS} {P : PL} {g : MS} {h : CS} {fo : Nat → Int64} {ls : Array Slot} (C : MCx p s m args meth c A RL cL_law 8 (some .boolean) D cs) (hL : LC l s args adK adV A) (hX : LX s A b L xs) (hin : Hin x4 L) (hs : wfS σ) (hM : MI σ g) (hC : CI σ P T h) (hT : T + 31 < 2 ^ 31) (hw : MH D (SW cs ad al P h ++ outC cs aO fo :: MW cs ad' g) A s H locs) (hl : lv_has ls 8 (lvL b (ad 0) (ad' 48) aO x4)) (hf : cells + 131 ≤ room_1.cells ∧ slots + 1006 ≤ room_1.slots) (kk : Nx p l e s m args below meth c D cs A ad ad' b aO x4 T cells slots Q) : W p l e room_1 s m args below meth c H locs cells slots Q (F0 m 1192 ls []) := by
  have hx := C.1
  have hb := C.2.1
  have hst := hL.2.2.2.1
  obtain ⟨σ', T', g', h', k1, k2, k3, k4, k5, ko⟩ := st_power hs hM hC (xs (x4 + 1).toNatClampNeg)
  obtain ⟨r, k, fo', e1, e2, e3, e4⟩ : ∃ (r : Int32) (k : Int32) (fo' : Nat → Int64), fX12_power g (xs (x4 + 1).toNatClampNeg) = some (r, g') ∧ g'.1 4 = k ∧ WOut l D cs adK adV yL_power cL_power 4 [(0, 9, 12, 19)] [.ref (ad 0), .int (xs (x4 + 1).toNatClampNeg), .ref aO] (SW cs ad al P h ++ outC cs aO fo :: MW cs ad' g) k (SW cs ad al P h' ++ outC cs aO fo' :: MW cs ad' g) ∧ (k = 0 → fo' 0 = r.toInt64) := by
    rcases ko with ⟨r, q1, q2, q3⟩ | ⟨r, e, w, q1, q0, q2, q3⟩
    · exact ⟨r, 0, _, q1, q2, ⟨_, 0, 0, nL_power hst q3, ⟨rfl, rfl⟩, by decide, by decide, by decide, by decide⟩, fun _ => rfl⟩
    · simp only [List.mem_cons, Prod.mk.injEq, List.not_mem_nil, or_false] at q0
      obtain ⟨rfl, rfl⟩ := q0
      exact ⟨r, 1, fo, q1, q2, ⟨_, 1, 6, xL_power_2 hst q3, ⟨rfl, rfl⟩, by decide, by decide, by decide, by decide⟩, fun z => absurd z (by decide)⟩
  refine lv_aload_n hx hb dL_law_1192 rfl (lv_at hl 1 rfl) ?_
  refine s_ld 0 4 C hX hw hl rfl rfl dL_law_1193 dL_law_1194 dL_law_1196 dL_law_1197 dL_law_1198 (by decide) hin.1 ?_
  refine lv_aload_n hx hb dL_law_1199 rfl (lv_at hl 3 rfl) ?_
  refine w_callS (rest := []) [.ref (ad 0), .int (xs (x4 + 1).toNatClampNeg), .ref aO] C hL hw cw_L_200 e3 rfl (by decide) ⟨Nat.le_of_ble_eq_true rfl, Nat.le_of_ble_eq_true rfl⟩ hl.1 rfl (Nat.le_of_ble_eq_true rfl) hf dL_law_1200 (fun H locs hw => ?_)
  refine lv_istore (lv' := [(5, .int k), (0, .ref b), (1, .ref (ad 0)), (2, .ref (ad' 48)), (3, .ref aO), (4, .int x4)]) hx hb dL_law_1203 hl (by decide) rfl (fun ls hl => ?_)
  refine lv_aload_n hx hb dL_law_1205 rfl (lv_at hl 3 rfl) ?_
  refine s_ld 1 5 C hX hw hl rfl rfl dL_law_1206 dL_law_1207 dL_law_1209 dL_law_1210 dL_law_1211 (by decide) hin.1 ?_
  refine f_callM (r := some (.int r)) (rest := []) [.int (xs (x4 + 1).toNatClampNeg)] C hw cv_L_202 (qX12_power e1) rfl ⟨rfl, rfl⟩ ⟨Nat.le_of_ble_eq_true rfl, Nat.le_of_ble_eq_true rfl⟩ (rv_M C hw) hl.1 rfl (Nat.le_of_ble_eq_true rfl) hf dL_law_1212 (fun H locs hw => ?_)
  refine lv_istore (lv' := [(6, .int r), (5, .int k), (0, .ref b), (1, .ref (ad 0)), (2, .ref (ad' 48)), (3, .ref aO), (4, .int x4)]) hx hb dL_law_1215 hl (by decide) rfl (fun ls hl => ?_)
  refine lv_aload_n hx hb dL_law_1217 rfl (lv_at hl 4 rfl) ?_
  refine f_callM (r := some (.int (g'.1 4))) (rest := []) [] C hw cv_L_134 (qX12_thrown rfl) rfl ⟨rfl, rfl⟩ ⟨Nat.le_of_ble_eq_true rfl, Nat.le_of_ble_eq_true rfl⟩ (rv_M C hw) hl.1 rfl (Nat.le_of_ble_eq_true rfl) hf dL_law_1218 (fun H locs hw => ?_)
  refine lv_iload hx hb dL_law_1221 (lv_at hl 1 rfl) ?_
  refine lv_icmp_eq (tgt := 1228) hx hb dL_law_1223 (by decide) (fun _ => ?_) (fun z => absurd e2 z)
  refine lv_iload hx hb dL_law_1228 (lv_at hl 1 rfl) ?_
  refine lv_if_ne (tgt := 1245) hx hb dL_law_1230 (by decide) (fun _ => ?_) (fun z => ?_)
  · refine lv_goto (tgt := 2453) hx hb dL_law_1245 (by decide) ?_
    exact kk σ' P T' g' h' al fo' H locs ls k1 k4 k5 k3 hw (lv_sub hl [2, 3, 4, 5, 6] rfl)
  · refine lv_aload_n hx hb dL_law_1233 rfl (lv_at hl 5 rfl) ?_
    refine lv_iconst (v := (0 : Int32)) hx hb dL_law_1234 (by decide) ?_
    refine o_load C hw dL_law_1235 ?_
    refine lv_iload hx hb dL_law_1236 (lv_at hl 0 rfl) ?_
    refine lv_i2l hx hb dL_law_1238 rfl ?_
    refine W.lcmp hx hb dL_law_1239 ?_
    refine lv_if_eq (tgt := 1245) hx hb dL_law_1240 (by decide) (fun _ => ?_) (fun y => absurd ((lg_cmp_eq _ _).mpr (e4 z)) y)
    refine lv_goto (tgt := 2453) hx hb dL_law_1245 (by decide) ?_
    exact kk σ' P T' g' h' al fo' H locs ls k1 k4 k5 k3 hw (lv_sub hl [2, 3, 4, 5, 6] rfl)

set_option maxHeartbeats 4000000 in
set_option maxRecDepth 100000 in
theorem lc_21 {p : Program} {l : Launch} {e : Env} {s : State} {m : MethodId} {args : Array Value} {below : List Frame} {meth : Method} {c : Code} {H : Heap} {locs : List Loc} {cells slots : Nat} {Q : State → Prop} {D : va_G} {cs : Nat → ClassId} {ad ad' al adK adV : Nat → Nat} {A : Nat → Prop} {b L aO T : Nat} {xs : Nat → Int32} {x4 : Int32} {σ : AS} {P : PL} {g : MS} {h : CS} {fo : Nat → Int64} {ls : Array Slot} (C : MCx p s m args meth c A RL cL_law 8 (some .boolean) D cs) (hL : LC l s args adK adV A) (hX : LX s A b L xs) (hin : Hin x4 L) (hs : wfS σ) (hM : MI σ g) (hC : CI σ P T h) (hT : T + 31 < 2 ^ 31) (hw : MH D (SW cs ad al P h ++ outC cs aO fo :: MW cs ad' g) A s H locs) (hl : lv_has ls 8 (lvL b (ad 0) (ad' 48) aO x4)) (hf : cells + 131 ≤ room_1.cells ∧ slots + 1006 ≤ room_1.slots) (kk : Nx p l e s m args below meth c D cs A ad ad' b aO x4 T cells slots Q) : W p l e room_1 s m args below meth c H locs cells slots Q (F0 m 1248 ls []) := by
  have hx := C.1
  have hb := C.2.1
  have hst := hL.2.2.2.1
  obtain ⟨σ', T', g', h', r, k1, k2, k3, k4, k5, e1, e0, e2⟩ := st_strong hs hM hC 
  have hf0 : cells ≤ room_1.cells ∧ slots ≤ room_1.slots := ⟨Nat.le_trans (Nat.le_add_right _ _) hf.1, Nat.le_trans (Nat.le_add_right _ _) hf.2⟩
  refine lv_aload_n hx hb dL_law_1248 rfl (lv_at hl 1 rfl) ?_
  refine f_callV (r := some (.int r)) (rest := []) (W2 := outC cs aO fo :: MW cs ad' g) [] C hw cv_L_203 (qX11_strongest e2) rfl ⟨rfl, rfl⟩ ⟨Nat.le_of_ble_eq_true rfl, Nat.le_of_ble_eq_true rfl⟩ (rv_law (q0 := 0) (ci := 10) (q := (RX11, TX11, 13)) C hw rfl (SW_fix rfl)) hl.1 rfl (Nat.le_of_ble_eq_true rfl) hf0 dL_law_1249 (fun H locs hw => ?_)
  refine lv_aload_n hx hb dL_law_1252 rfl (lv_at hl 2 rfl) ?_
  refine f_callM (r := some (.int r)) (rest := [.int r]) [] C hw cv_L_206 (qX12_strongest e1) rfl ⟨rfl, rfl⟩ ⟨Nat.le_of_ble_eq_true rfl, Nat.le_of_ble_eq_true rfl⟩ (rv_M C hw) hl.1 rfl (Nat.le_of_ble_eq_true rfl) hf0 dL_law_1253 (fun H locs hw => ?_)
  refine lv_icmp_eq (tgt := 2453) hx hb dL_law_1256 (by decide) (fun _ => ?_) (fun z => absurd rfl z)
  exact W.widen (Nat.le_add_right _ _) (Nat.le_add_right _ _) (kk σ' P T' g' h' al fo H locs ls k1 k4 k5 k3 hw hl)

set_option maxHeartbeats 4000000 in
set_option maxRecDepth 100000 in
theorem lc_22 {p : Program} {l : Launch} {e : Env} {s : State} {m : MethodId} {args : Array Value} {below : List Frame} {meth : Method} {c : Code} {H : Heap} {locs : List Loc} {cells slots : Nat} {Q : State → Prop} {D : va_G} {cs : Nat → ClassId} {ad ad' al adK adV : Nat → Nat} {A : Nat → Prop} {b L aO T : Nat} {xs : Nat → Int32} {x4 : Int32} {σ : AS} {P : PL} {g : MS} {h : CS} {fo : Nat → Int64} {ls : Array Slot} (C : MCx p s m args meth c A RL cL_law 8 (some .boolean) D cs) (hL : LC l s args adK adV A) (hX : LX s A b L xs) (hin : Hin x4 L) (hs : wfS σ) (hM : MI σ g) (hC : CI σ P T h) (hT : T + 31 < 2 ^ 31) (hw : MH D (SW cs ad al P h ++ outC cs aO fo :: MW cs ad' g) A s H locs) (hl : lv_has ls 8 (lvL b (ad 0) (ad' 48) aO x4)) (hf : cells + 131 ≤ room_1.cells ∧ slots + 1006 ≤ room_1.slots) (kk : Nx p l e s m args below meth c D cs A ad ad' b aO x4 T cells slots Q) : W p l e room_1 s m args below meth c H locs cells slots Q (F0 m 1261 ls []) := by
  have hx := C.1
  have hb := C.2.1
  have hst := hL.2.2.2.1
  obtain ⟨σ', T', g', h', k1, k2, k3, k4, k5, ko⟩ := st_motion hs hM hC (xs (x4 + 1).toNatClampNeg)
  obtain ⟨r, k, fo', e1, e2, e3, e4⟩ : ∃ (r : Int32) (k : Int32) (fo' : Nat → Int64), fX12_motion g (xs (x4 + 1).toNatClampNeg) = some (r, g') ∧ g'.1 4 = k ∧ WOut l D cs adK adV yL_motion cL_motion 4 [(0, 9, 12, 19)] [.ref (ad 0), .int (xs (x4 + 1).toNatClampNeg), .ref aO] (SW cs ad al P h ++ outC cs aO fo :: MW cs ad' g) k (SW cs ad al P h' ++ outC cs aO fo' :: MW cs ad' g) ∧ (k = 0 → fo' 0 = r.toInt64) := by
    rcases ko with ⟨r, q1, q2, q3⟩ | ⟨r, e, w, q1, q0, q2, q3⟩
    · exact ⟨r, 0, _, q1, q2, ⟨_, 0, 0, nL_motion hst q3, ⟨rfl, rfl⟩, by decide, by decide, by decide, by decide⟩, fun _ => rfl⟩
    · simp only [List.mem_cons, Prod.mk.injEq, List.not_mem_nil, or_false] at q0
      obtain ⟨rfl, rfl⟩ := q0
      exact ⟨r, 1, fo, q1, q2, ⟨_, 1, 6, xL_motion_2 hst q3, ⟨rfl, rfl⟩, by decide, by decide, by decide, by decide⟩, fun z => absurd z (by decide)⟩
  refine lv_aload_n hx hb dL_law_1261 rfl (lv_at hl 1 rfl) ?_
  refine s_ld 0 4 C hX hw hl rfl rfl dL_law_1262 dL_law_1263 dL_law_1265 dL_law_1266 dL_law_1267 (by decide) hin.1 ?_
  refine lv_aload_n hx hb dL_law_1268 rfl (lv_at hl 3 rfl) ?_
  refine w_callS (rest := []) [.ref (ad 0), .int (xs (x4 + 1).toNatClampNeg), .ref aO] C hL hw cw_L_207 e3 rfl (by decide) ⟨Nat.le_of_ble_eq_true rfl, Nat.le_of_ble_eq_true rfl⟩ hl.1 rfl (Nat.le_of_ble_eq_true rfl) hf dL_law_1269 (fun H locs hw => ?_)
  refine lv_istore (lv' := [(5, .int k), (0, .ref b), (1, .ref (ad 0)), (2, .ref (ad' 48)), (3, .ref aO), (4, .int x4)]) hx hb dL_law_1272 hl (by decide) rfl (fun ls hl => ?_)
  refine lv_aload_n hx hb dL_law_1274 rfl (lv_at hl 3 rfl) ?_
  refine s_ld 1 5 C hX hw hl rfl rfl dL_law_1275 dL_law_1276 dL_law_1278 dL_law_1279 dL_law_1280 (by decide) hin.1 ?_
  refine f_callM (r := some (.int r)) (rest := []) [.int (xs (x4 + 1).toNatClampNeg)] C hw cv_L_209 (qX12_motion e1) rfl ⟨rfl, rfl⟩ ⟨Nat.le_of_ble_eq_true rfl, Nat.le_of_ble_eq_true rfl⟩ (rv_M C hw) hl.1 rfl (Nat.le_of_ble_eq_true rfl) hf dL_law_1281 (fun H locs hw => ?_)
  refine lv_istore (lv' := [(6, .int r), (5, .int k), (0, .ref b), (1, .ref (ad 0)), (2, .ref (ad' 48)), (3, .ref aO), (4, .int x4)]) hx hb dL_law_1284 hl (by decide) rfl (fun ls hl => ?_)
  refine lv_aload_n hx hb dL_law_1286 rfl (lv_at hl 4 rfl) ?_
  refine f_callM (r := some (.int (g'.1 4))) (rest := []) [] C hw cv_L_134 (qX12_thrown rfl) rfl ⟨rfl, rfl⟩ ⟨Nat.le_of_ble_eq_true rfl, Nat.le_of_ble_eq_true rfl⟩ (rv_M C hw) hl.1 rfl (Nat.le_of_ble_eq_true rfl) hf dL_law_1287 (fun H locs hw => ?_)
  refine lv_iload hx hb dL_law_1290 (lv_at hl 1 rfl) ?_
  refine lv_icmp_eq (tgt := 1297) hx hb dL_law_1292 (by decide) (fun _ => ?_) (fun z => absurd e2 z)
  refine lv_iload hx hb dL_law_1297 (lv_at hl 1 rfl) ?_
  refine lv_if_ne (tgt := 1314) hx hb dL_law_1299 (by decide) (fun _ => ?_) (fun z => ?_)
  · refine lv_goto (tgt := 2453) hx hb dL_law_1314 (by decide) ?_
    exact kk σ' P T' g' h' al fo' H locs ls k1 k4 k5 k3 hw (lv_sub hl [2, 3, 4, 5, 6] rfl)
  · refine lv_aload_n hx hb dL_law_1302 rfl (lv_at hl 5 rfl) ?_
    refine lv_iconst (v := (0 : Int32)) hx hb dL_law_1303 (by decide) ?_
    refine o_load C hw dL_law_1304 ?_
    refine lv_iload hx hb dL_law_1305 (lv_at hl 0 rfl) ?_
    refine lv_i2l hx hb dL_law_1307 rfl ?_
    refine W.lcmp hx hb dL_law_1308 ?_
    refine lv_if_eq (tgt := 1314) hx hb dL_law_1309 (by decide) (fun _ => ?_) (fun y => absurd ((lg_cmp_eq _ _).mpr (e4 z)) y)
    refine lv_goto (tgt := 2453) hx hb dL_law_1314 (by decide) ?_
    exact kk σ' P T' g' h' al fo' H locs ls k1 k4 k5 k3 hw (lv_sub hl [2, 3, 4, 5, 6] rfl)

set_option maxHeartbeats 4000000 in
set_option maxRecDepth 100000 in
theorem lc_23 {p : Program} {l : Launch} {e : Env} {s : State} {m : MethodId} {args : Array Value} {below : List Frame} {meth : Method} {c : Code} {H : Heap} {locs : List Loc} {cells slots : Nat} {Q : State → Prop} {D : va_G} {cs : Nat → ClassId} {ad ad' al adK adV : Nat → Nat} {A : Nat → Prop} {b L aO T : Nat} {xs : Nat → Int32} {x4 : Int32} {σ : AS} {P : PL} {g : MS} {h : CS} {fo : Nat → Int64} {ls : Array Slot} (C : MCx p s m args meth c A RL cL_law 8 (some .boolean) D cs) (hL : LC l s args adK adV A) (hX : LX s A b L xs) (hin : Hin x4 L) (hs : wfS σ) (hM : MI σ g) (hC : CI σ P T h) (hT : T + 31 < 2 ^ 31) (hw : MH D (SW cs ad al P h ++ outC cs aO fo :: MW cs ad' g) A s H locs) (hl : lv_has ls 8 (lvL b (ad 0) (ad' 48) aO x4)) (hf : cells + 131 ≤ room_1.cells ∧ slots + 1006 ≤ room_1.slots) (kk : Nx p l e s m args below meth c D cs A ad ad' b aO x4 T cells slots Q) : W p l e room_1 s m args below meth c H locs cells slots Q (F0 m 1317 ls []) := by
  have hx := C.1
  have hb := C.2.1
  have hst := hL.2.2.2.1
  obtain ⟨σ', T', g', h', k1, k2, k3, k4, k5, ko⟩ := st_helps hs hM hC (xs (x4 + 1).toNatClampNeg) (xs (x4 + 2).toNatClampNeg)
  obtain ⟨r, k, fo', e1, e2, e3, e4⟩ : ∃ (r : Int32) (k : Int32) (fo' : Nat → Int64), fX12_helps g (xs (x4 + 1).toNatClampNeg) (xs (x4 + 2).toNatClampNeg) = some (r, g') ∧ g'.1 4 = k ∧ WOut l D cs adK adV yL_helps cL_helps 5 [(0, 10, 13, 19), (0, 10, 17, 13)] [.ref (ad 0), .int (xs (x4 + 1).toNatClampNeg), .int (xs (x4 + 2).toNatClampNeg), .ref aO] (SW cs ad al P h ++ outC cs aO fo :: MW cs ad' g) k (SW cs ad al P h' ++ outC cs aO fo' :: MW cs ad' g) ∧ (k = 0 → fo' 0 = r.toInt64) := by
    rcases ko with ⟨r, q1, q2, q3⟩ | ⟨r, e, w, q1, q0, q2, q3⟩
    · exact ⟨r, 0, _, q1, q2, ⟨_, 0, 0, nL_helps hst q3, ⟨rfl, rfl⟩, by decide, by decide, by decide, by decide⟩, fun _ => rfl⟩
    · simp only [List.mem_cons, Prod.mk.injEq, List.not_mem_nil, or_false] at q0
      rcases q0 with ⟨rfl, rfl⟩ | ⟨rfl, rfl⟩
      · exact ⟨r, 1, fo, q1, q2, ⟨_, 1, 6, xL_helps_2 hst q3, ⟨rfl, rfl⟩, by decide, by decide, by decide, by decide⟩, fun z => absurd z (by decide)⟩
      · exact ⟨r, 2, fo, q1, q2, ⟨_, 1, 6, xL_helps_1 hst q3, ⟨rfl, rfl⟩, by decide, by decide, by decide, by decide⟩, fun z => absurd z (by decide)⟩
  refine lv_aload_n hx hb dL_law_1317 rfl (lv_at hl 1 rfl) ?_
  refine s_ld 0 4 C hX hw hl rfl rfl dL_law_1318 dL_law_1319 dL_law_1321 dL_law_1322 dL_law_1323 (by decide) hin.1 ?_
  refine s_ld 0 4 C hX hw hl rfl rfl dL_law_1324 dL_law_1325 dL_law_1327 dL_law_1328 dL_law_1329 (by decide) hin.2.1 ?_
  refine lv_aload_n hx hb dL_law_1330 rfl (lv_at hl 3 rfl) ?_
  refine w_callS (rest := []) [.ref (ad 0), .int (xs (x4 + 1).toNatClampNeg), .int (xs (x4 + 2).toNatClampNeg), .ref aO] C hL hw cw_L_210 e3 rfl (by decide) ⟨Nat.le_of_ble_eq_true rfl, Nat.le_of_ble_eq_true rfl⟩ hl.1 rfl (Nat.le_of_ble_eq_true rfl) hf dL_law_1331 (fun H locs hw => ?_)
  refine lv_istore (lv' := [(5, .int k), (0, .ref b), (1, .ref (ad 0)), (2, .ref (ad' 48)), (3, .ref aO), (4, .int x4)]) hx hb dL_law_1334 hl (by decide) rfl (fun ls hl => ?_)
  refine lv_aload_n hx hb dL_law_1336 rfl (lv_at hl 3 rfl) ?_
  refine s_ld 1 5 C hX hw hl rfl rfl dL_law_1337 dL_law_1338 dL_law_1340 dL_law_1341 dL_law_1342 (by decide) hin.1 ?_
  refine s_ld 1 5 C hX hw hl rfl rfl dL_law_1343 dL_law_1344 dL_law_1346 dL_law_1347 dL_law_1348 (by decide) hin.2.1 ?_
  refine f_callM (r := some (.int r)) (rest := []) [.int (xs (x4 + 1).toNatClampNeg), .int (xs (x4 + 2).toNatClampNeg)] C hw cv_L_212 (qX12_helps e1) rfl ⟨rfl, rfl⟩ ⟨Nat.le_of_ble_eq_true rfl, Nat.le_of_ble_eq_true rfl⟩ (rv_M C hw) hl.1 rfl (Nat.le_of_ble_eq_true rfl) hf dL_law_1349 (fun H locs hw => ?_)
  refine lv_istore (lv' := [(6, .int r), (5, .int k), (0, .ref b), (1, .ref (ad 0)), (2, .ref (ad' 48)), (3, .ref aO), (4, .int x4)]) hx hb dL_law_1352 hl (by decide) rfl (fun ls hl => ?_)
  refine lv_aload_n hx hb dL_law_1354 rfl (lv_at hl 4 rfl) ?_
  refine f_callM (r := some (.int (g'.1 4))) (rest := []) [] C hw cv_L_134 (qX12_thrown rfl) rfl ⟨rfl, rfl⟩ ⟨Nat.le_of_ble_eq_true rfl, Nat.le_of_ble_eq_true rfl⟩ (rv_M C hw) hl.1 rfl (Nat.le_of_ble_eq_true rfl) hf dL_law_1355 (fun H locs hw => ?_)
  refine lv_iload hx hb dL_law_1358 (lv_at hl 1 rfl) ?_
  refine lv_icmp_eq (tgt := 1365) hx hb dL_law_1360 (by decide) (fun _ => ?_) (fun z => absurd e2 z)
  refine lv_iload hx hb dL_law_1365 (lv_at hl 1 rfl) ?_
  refine lv_if_ne (tgt := 1382) hx hb dL_law_1367 (by decide) (fun _ => ?_) (fun z => ?_)
  · refine lv_goto (tgt := 2453) hx hb dL_law_1382 (by decide) ?_
    exact kk σ' P T' g' h' al fo' H locs ls k1 k4 k5 k3 hw (lv_sub hl [2, 3, 4, 5, 6] rfl)
  · refine lv_aload_n hx hb dL_law_1370 rfl (lv_at hl 5 rfl) ?_
    refine lv_iconst (v := (0 : Int32)) hx hb dL_law_1371 (by decide) ?_
    refine o_load C hw dL_law_1372 ?_
    refine lv_iload hx hb dL_law_1373 (lv_at hl 0 rfl) ?_
    refine lv_i2l hx hb dL_law_1375 rfl ?_
    refine W.lcmp hx hb dL_law_1376 ?_
    refine lv_if_eq (tgt := 1382) hx hb dL_law_1377 (by decide) (fun _ => ?_) (fun y => absurd ((lg_cmp_eq _ _).mpr (e4 z)) y)
    refine lv_goto (tgt := 2453) hx hb dL_law_1382 (by decide) ?_
    exact kk σ' P T' g' h' al fo' H locs ls k1 k4 k5 k3 hw (lv_sub hl [2, 3, 4, 5, 6] rfl)

set_option maxHeartbeats 4000000 in
set_option maxRecDepth 100000 in
theorem lc_24 {p : Program} {l : Launch} {e : Env} {s : State} {m : MethodId} {args : Array Value} {below : List Frame} {meth : Method} {c : Code} {H : Heap} {locs : List Loc} {cells slots : Nat} {Q : State → Prop} {D : va_G} {cs : Nat → ClassId} {ad ad' al adK adV : Nat → Nat} {A : Nat → Prop} {b L aO T : Nat} {xs : Nat → Int32} {x4 : Int32} {σ : AS} {P : PL} {g : MS} {h : CS} {fo : Nat → Int64} {ls : Array Slot} (C : MCx p s m args meth c A RL cL_law 8 (some .boolean) D cs) (hL : LC l s args adK adV A) (hX : LX s A b L xs) (hin : Hin x4 L) (hs : wfS σ) (hM : MI σ g) (hC : CI σ P T h) (hT : T + 31 < 2 ^ 31) (hw : MH D (SW cs ad al P h ++ outC cs aO fo :: MW cs ad' g) A s H locs) (hl : lv_has ls 8 (lvL b (ad 0) (ad' 48) aO x4)) (hf : cells + 131 ≤ room_1.cells ∧ slots + 1006 ≤ room_1.slots) (kk : Nx p l e s m args below meth c D cs A ad ad' b aO x4 T cells slots Q) : W p l e room_1 s m args below meth c H locs cells slots Q (F0 m 1385 ls []) := by
  have hx := C.1
  have hb := C.2.1
  have hst := hL.2.2.2.1
  obtain ⟨σ', T', g', h', k1, k2, k3, k4, k5, ko⟩ := st_vetoes hs hM hC (xs (x4 + 1).toNatClampNeg)
  obtain ⟨r, k, fo', e1, e2, e3, e4⟩ : ∃ (r : Int32) (k : Int32) (fo' : Nat → Int64), fX12_vetoes g (xs (x4 + 1).toNatClampNeg) = some (r, g') ∧ g'.1 4 = k ∧ WOut l D cs adK adV yL_vetoes cL_vetoes 4 [(0, 9, 12, 19)] [.ref (ad 0), .int (xs (x4 + 1).toNatClampNeg), .ref aO] (SW cs ad al P h ++ outC cs aO fo :: MW cs ad' g) k (SW cs ad al P h' ++ outC cs aO fo' :: MW cs ad' g) ∧ (k = 0 → fo' 0 = r.toInt64) := by
    rcases ko with ⟨r, q1, q2, q3⟩ | ⟨r, e, w, q1, q0, q2, q3⟩
    · exact ⟨r, 0, _, q1, q2, ⟨_, 0, 0, nL_vetoes hst q3, ⟨rfl, rfl⟩, by decide, by decide, by decide, by decide⟩, fun _ => rfl⟩
    · simp only [List.mem_cons, Prod.mk.injEq, List.not_mem_nil, or_false] at q0
      obtain ⟨rfl, rfl⟩ := q0
      exact ⟨r, 1, fo, q1, q2, ⟨_, 1, 6, xL_vetoes_2 hst q3, ⟨rfl, rfl⟩, by decide, by decide, by decide, by decide⟩, fun z => absurd z (by decide)⟩
  refine lv_aload_n hx hb dL_law_1385 rfl (lv_at hl 1 rfl) ?_
  refine s_ld 0 4 C hX hw hl rfl rfl dL_law_1386 dL_law_1387 dL_law_1389 dL_law_1390 dL_law_1391 (by decide) hin.1 ?_
  refine lv_aload_n hx hb dL_law_1392 rfl (lv_at hl 3 rfl) ?_
  refine w_callS (rest := []) [.ref (ad 0), .int (xs (x4 + 1).toNatClampNeg), .ref aO] C hL hw cw_L_213 e3 rfl (by decide) ⟨Nat.le_of_ble_eq_true rfl, Nat.le_of_ble_eq_true rfl⟩ hl.1 rfl (Nat.le_of_ble_eq_true rfl) hf dL_law_1393 (fun H locs hw => ?_)
  refine lv_istore (lv' := [(5, .int k), (0, .ref b), (1, .ref (ad 0)), (2, .ref (ad' 48)), (3, .ref aO), (4, .int x4)]) hx hb dL_law_1396 hl (by decide) rfl (fun ls hl => ?_)
  refine lv_aload_n hx hb dL_law_1398 rfl (lv_at hl 3 rfl) ?_
  refine s_ld 1 5 C hX hw hl rfl rfl dL_law_1399 dL_law_1400 dL_law_1402 dL_law_1403 dL_law_1404 (by decide) hin.1 ?_
  refine f_callM (r := some (.int r)) (rest := []) [.int (xs (x4 + 1).toNatClampNeg)] C hw cv_L_215 (qX12_vetoes e1) rfl ⟨rfl, rfl⟩ ⟨Nat.le_of_ble_eq_true rfl, Nat.le_of_ble_eq_true rfl⟩ (rv_M C hw) hl.1 rfl (Nat.le_of_ble_eq_true rfl) hf dL_law_1405 (fun H locs hw => ?_)
  refine lv_istore (lv' := [(6, .int r), (5, .int k), (0, .ref b), (1, .ref (ad 0)), (2, .ref (ad' 48)), (3, .ref aO), (4, .int x4)]) hx hb dL_law_1408 hl (by decide) rfl (fun ls hl => ?_)
  refine lv_aload_n hx hb dL_law_1410 rfl (lv_at hl 4 rfl) ?_
  refine f_callM (r := some (.int (g'.1 4))) (rest := []) [] C hw cv_L_134 (qX12_thrown rfl) rfl ⟨rfl, rfl⟩ ⟨Nat.le_of_ble_eq_true rfl, Nat.le_of_ble_eq_true rfl⟩ (rv_M C hw) hl.1 rfl (Nat.le_of_ble_eq_true rfl) hf dL_law_1411 (fun H locs hw => ?_)
  refine lv_iload hx hb dL_law_1414 (lv_at hl 1 rfl) ?_
  refine lv_icmp_eq (tgt := 1421) hx hb dL_law_1416 (by decide) (fun _ => ?_) (fun z => absurd e2 z)
  refine lv_iload hx hb dL_law_1421 (lv_at hl 1 rfl) ?_
  refine lv_if_ne (tgt := 1438) hx hb dL_law_1423 (by decide) (fun _ => ?_) (fun z => ?_)
  · refine lv_goto (tgt := 2453) hx hb dL_law_1438 (by decide) ?_
    exact kk σ' P T' g' h' al fo' H locs ls k1 k4 k5 k3 hw (lv_sub hl [2, 3, 4, 5, 6] rfl)
  · refine lv_aload_n hx hb dL_law_1426 rfl (lv_at hl 5 rfl) ?_
    refine lv_iconst (v := (0 : Int32)) hx hb dL_law_1427 (by decide) ?_
    refine o_load C hw dL_law_1428 ?_
    refine lv_iload hx hb dL_law_1429 (lv_at hl 0 rfl) ?_
    refine lv_i2l hx hb dL_law_1431 rfl ?_
    refine W.lcmp hx hb dL_law_1432 ?_
    refine lv_if_eq (tgt := 1438) hx hb dL_law_1433 (by decide) (fun _ => ?_) (fun y => absurd ((lg_cmp_eq _ _).mpr (e4 z)) y)
    refine lv_goto (tgt := 2453) hx hb dL_law_1438 (by decide) ?_
    exact kk σ' P T' g' h' al fo' H locs ls k1 k4 k5 k3 hw (lv_sub hl [2, 3, 4, 5, 6] rfl)

set_option maxHeartbeats 4000000 in
set_option maxRecDepth 100000 in
theorem lc_25 {p : Program} {l : Launch} {e : Env} {s : State} {m : MethodId} {args : Array Value} {below : List Frame} {meth : Method} {c : Code} {H : Heap} {locs : List Loc} {cells slots : Nat} {Q : State → Prop} {D : va_G} {cs : Nat → ClassId} {ad ad' al adK adV : Nat → Nat} {A : Nat → Prop} {b L aO T : Nat} {xs : Nat → Int32} {x4 : Int32} {σ : AS} {P : PL} {g : MS} {h : CS} {fo : Nat → Int64} {ls : Array Slot} (C : MCx p s m args meth c A RL cL_law 8 (some .boolean) D cs) (hL : LC l s args adK adV A) (hX : LX s A b L xs) (hin : Hin x4 L) (hs : wfS σ) (hM : MI σ g) (hC : CI σ P T h) (hT : T + 31 < 2 ^ 31) (hw : MH D (SW cs ad al P h ++ outC cs aO fo :: MW cs ad' g) A s H locs) (hl : lv_has ls 8 (lvL b (ad 0) (ad' 48) aO x4)) (hf : cells + 131 ≤ room_1.cells ∧ slots + 1006 ≤ room_1.slots) (kk : Nx p l e s m args below meth c D cs A ad ad' b aO x4 T cells slots Q) : W p l e room_1 s m args below meth c H locs cells slots Q (F0 m 1441 ls []) := by
  have hx := C.1
  have hb := C.2.1
  have hst := hL.2.2.2.1
  obtain ⟨σ', T', g', h', k1, k2, k3, k4, k5, ko⟩ := st_knees hs hM hC (xs (x4 + 1).toNatClampNeg)
  obtain ⟨r, k, fo', e1, e2, e3, e4⟩ : ∃ (r : Int32) (k : Int32) (fo' : Nat → Int64), fX12_knees g (xs (x4 + 1).toNatClampNeg) = some (r, g') ∧ g'.1 4 = k ∧ WOut l D cs adK adV yL_knees cL_knees 4 [(0, 9, 12, 13)] [.ref (ad 0), .int (xs (x4 + 1).toNatClampNeg), .ref aO] (SW cs ad al P h ++ outC cs aO fo :: MW cs ad' g) k (SW cs ad al P h' ++ outC cs aO fo' :: MW cs ad' g) ∧ (k = 0 → fo' 0 = r.toInt64) := by
    rcases ko with ⟨r, q1, q2, q3⟩ | ⟨r, e, w, q1, q0, q2, q3⟩
    · exact ⟨r, 0, _, q1, q2, ⟨_, 0, 0, nL_knees hst q3, ⟨rfl, rfl⟩, by decide, by decide, by decide, by decide⟩, fun _ => rfl⟩
    · simp only [List.mem_cons, Prod.mk.injEq, List.not_mem_nil, or_false] at q0
      obtain ⟨rfl, rfl⟩ := q0
      exact ⟨r, 1, fo, q1, q2, ⟨_, 1, 6, xL_knees_1 hst q3, ⟨rfl, rfl⟩, by decide, by decide, by decide, by decide⟩, fun z => absurd z (by decide)⟩
  refine lv_aload_n hx hb dL_law_1441 rfl (lv_at hl 1 rfl) ?_
  refine s_ld 0 4 C hX hw hl rfl rfl dL_law_1442 dL_law_1443 dL_law_1445 dL_law_1446 dL_law_1447 (by decide) hin.1 ?_
  refine lv_aload_n hx hb dL_law_1448 rfl (lv_at hl 3 rfl) ?_
  refine w_callS (rest := []) [.ref (ad 0), .int (xs (x4 + 1).toNatClampNeg), .ref aO] C hL hw cw_L_216 e3 rfl (by decide) ⟨Nat.le_of_ble_eq_true rfl, Nat.le_of_ble_eq_true rfl⟩ hl.1 rfl (Nat.le_of_ble_eq_true rfl) hf dL_law_1449 (fun H locs hw => ?_)
  refine lv_istore (lv' := [(5, .int k), (0, .ref b), (1, .ref (ad 0)), (2, .ref (ad' 48)), (3, .ref aO), (4, .int x4)]) hx hb dL_law_1452 hl (by decide) rfl (fun ls hl => ?_)
  refine lv_aload_n hx hb dL_law_1454 rfl (lv_at hl 3 rfl) ?_
  refine s_ld 1 5 C hX hw hl rfl rfl dL_law_1455 dL_law_1456 dL_law_1458 dL_law_1459 dL_law_1460 (by decide) hin.1 ?_
  refine f_callM (r := some (.int r)) (rest := []) [.int (xs (x4 + 1).toNatClampNeg)] C hw cv_L_218 (qX12_knees e1) rfl ⟨rfl, rfl⟩ ⟨Nat.le_of_ble_eq_true rfl, Nat.le_of_ble_eq_true rfl⟩ (rv_M C hw) hl.1 rfl (Nat.le_of_ble_eq_true rfl) hf dL_law_1461 (fun H locs hw => ?_)
  refine lv_istore (lv' := [(6, .int r), (5, .int k), (0, .ref b), (1, .ref (ad 0)), (2, .ref (ad' 48)), (3, .ref aO), (4, .int x4)]) hx hb dL_law_1464 hl (by decide) rfl (fun ls hl => ?_)
  refine lv_aload_n hx hb dL_law_1466 rfl (lv_at hl 4 rfl) ?_
  refine f_callM (r := some (.int (g'.1 4))) (rest := []) [] C hw cv_L_134 (qX12_thrown rfl) rfl ⟨rfl, rfl⟩ ⟨Nat.le_of_ble_eq_true rfl, Nat.le_of_ble_eq_true rfl⟩ (rv_M C hw) hl.1 rfl (Nat.le_of_ble_eq_true rfl) hf dL_law_1467 (fun H locs hw => ?_)
  refine lv_iload hx hb dL_law_1470 (lv_at hl 1 rfl) ?_
  refine lv_icmp_eq (tgt := 1477) hx hb dL_law_1472 (by decide) (fun _ => ?_) (fun z => absurd e2 z)
  refine lv_iload hx hb dL_law_1477 (lv_at hl 1 rfl) ?_
  refine lv_if_ne (tgt := 1494) hx hb dL_law_1479 (by decide) (fun _ => ?_) (fun z => ?_)
  · refine lv_goto (tgt := 2453) hx hb dL_law_1494 (by decide) ?_
    exact kk σ' P T' g' h' al fo' H locs ls k1 k4 k5 k3 hw (lv_sub hl [2, 3, 4, 5, 6] rfl)
  · refine lv_aload_n hx hb dL_law_1482 rfl (lv_at hl 5 rfl) ?_
    refine lv_iconst (v := (0 : Int32)) hx hb dL_law_1483 (by decide) ?_
    refine o_load C hw dL_law_1484 ?_
    refine lv_iload hx hb dL_law_1485 (lv_at hl 0 rfl) ?_
    refine lv_i2l hx hb dL_law_1487 rfl ?_
    refine W.lcmp hx hb dL_law_1488 ?_
    refine lv_if_eq (tgt := 1494) hx hb dL_law_1489 (by decide) (fun _ => ?_) (fun y => absurd ((lg_cmp_eq _ _).mpr (e4 z)) y)
    refine lv_goto (tgt := 2453) hx hb dL_law_1494 (by decide) ?_
    exact kk σ' P T' g' h' al fo' H locs ls k1 k4 k5 k3 hw (lv_sub hl [2, 3, 4, 5, 6] rfl)

set_option maxHeartbeats 4000000 in
set_option maxRecDepth 100000 in
theorem lc_26 {p : Program} {l : Launch} {e : Env} {s : State} {m : MethodId} {args : Array Value} {below : List Frame} {meth : Method} {c : Code} {H : Heap} {locs : List Loc} {cells slots : Nat} {Q : State → Prop} {D : va_G} {cs : Nat → ClassId} {ad ad' al adK adV : Nat → Nat} {A : Nat → Prop} {b L aO T : Nat} {xs : Nat → Int32} {x4 : Int32} {σ : AS} {P : PL} {g : MS} {h : CS} {fo : Nat → Int64} {ls : Array Slot} (C : MCx p s m args meth c A RL cL_law 8 (some .boolean) D cs) (hL : LC l s args adK adV A) (hX : LX s A b L xs) (hin : Hin x4 L) (hs : wfS σ) (hM : MI σ g) (hC : CI σ P T h) (hT : T + 31 < 2 ^ 31) (hw : MH D (SW cs ad al P h ++ outC cs aO fo :: MW cs ad' g) A s H locs) (hl : lv_has ls 8 (lvL b (ad 0) (ad' 48) aO x4)) (hf : cells + 131 ≤ room_1.cells ∧ slots + 1006 ≤ room_1.slots) (kk : Nx p l e s m args below meth c D cs A ad ad' b aO x4 T cells slots Q) : W p l e room_1 s m args below meth c H locs cells slots Q (F0 m 1497 ls []) := by
  have hx := C.1
  have hb := C.2.1
  have hst := hL.2.2.2.1
  obtain ⟨σ', T', g', h', k1, k2, k3, k4, k5, ko⟩ := st_settles hs hM hC (xs (x4 + 1).toNatClampNeg)
  obtain ⟨r, k, fo', e1, e2, e3, e4⟩ : ∃ (r : Int32) (k : Int32) (fo' : Nat → Int64), fX12_settles g (xs (x4 + 1).toNatClampNeg) = some (r, g') ∧ g'.1 4 = k ∧ WOut l D cs adK adV yL_settles cL_settles 4 [(0, 9, 12, 13)] [.ref (ad 0), .int (xs (x4 + 1).toNatClampNeg), .ref aO] (SW cs ad al P h ++ outC cs aO fo :: MW cs ad' g) k (SW cs ad al P h' ++ outC cs aO fo' :: MW cs ad' g) ∧ (k = 0 → fo' 0 = r.toInt64) := by
    rcases ko with ⟨r, q1, q2, q3⟩ | ⟨r, e, w, q1, q0, q2, q3⟩
    · exact ⟨r, 0, _, q1, q2, ⟨_, 0, 0, nL_settles hst q3, ⟨rfl, rfl⟩, by decide, by decide, by decide, by decide⟩, fun _ => rfl⟩
    · simp only [List.mem_cons, Prod.mk.injEq, List.not_mem_nil, or_false] at q0
      obtain ⟨rfl, rfl⟩ := q0
      exact ⟨r, 1, fo, q1, q2, ⟨_, 1, 6, xL_settles_1 hst q3, ⟨rfl, rfl⟩, by decide, by decide, by decide, by decide⟩, fun z => absurd z (by decide)⟩
  refine lv_aload_n hx hb dL_law_1497 rfl (lv_at hl 1 rfl) ?_
  refine s_ld 0 4 C hX hw hl rfl rfl dL_law_1498 dL_law_1499 dL_law_1501 dL_law_1502 dL_law_1503 (by decide) hin.1 ?_
  refine lv_aload_n hx hb dL_law_1504 rfl (lv_at hl 3 rfl) ?_
  refine w_callS (rest := []) [.ref (ad 0), .int (xs (x4 + 1).toNatClampNeg), .ref aO] C hL hw cw_L_219 e3 rfl (by decide) ⟨Nat.le_of_ble_eq_true rfl, Nat.le_of_ble_eq_true rfl⟩ hl.1 rfl (Nat.le_of_ble_eq_true rfl) hf dL_law_1505 (fun H locs hw => ?_)
  refine lv_istore (lv' := [(5, .int k), (0, .ref b), (1, .ref (ad 0)), (2, .ref (ad' 48)), (3, .ref aO), (4, .int x4)]) hx hb dL_law_1508 hl (by decide) rfl (fun ls hl => ?_)
  refine lv_aload_n hx hb dL_law_1510 rfl (lv_at hl 3 rfl) ?_
  refine s_ld 1 5 C hX hw hl rfl rfl dL_law_1511 dL_law_1512 dL_law_1514 dL_law_1515 dL_law_1516 (by decide) hin.1 ?_
  refine f_callM (r := some (.int r)) (rest := []) [.int (xs (x4 + 1).toNatClampNeg)] C hw cv_L_221 (qX12_settles e1) rfl ⟨rfl, rfl⟩ ⟨Nat.le_of_ble_eq_true rfl, Nat.le_of_ble_eq_true rfl⟩ (rv_M C hw) hl.1 rfl (Nat.le_of_ble_eq_true rfl) hf dL_law_1517 (fun H locs hw => ?_)
  refine lv_istore (lv' := [(6, .int r), (5, .int k), (0, .ref b), (1, .ref (ad 0)), (2, .ref (ad' 48)), (3, .ref aO), (4, .int x4)]) hx hb dL_law_1520 hl (by decide) rfl (fun ls hl => ?_)
  refine lv_aload_n hx hb dL_law_1522 rfl (lv_at hl 4 rfl) ?_
  refine f_callM (r := some (.int (g'.1 4))) (rest := []) [] C hw cv_L_134 (qX12_thrown rfl) rfl ⟨rfl, rfl⟩ ⟨Nat.le_of_ble_eq_true rfl, Nat.le_of_ble_eq_true rfl⟩ (rv_M C hw) hl.1 rfl (Nat.le_of_ble_eq_true rfl) hf dL_law_1523 (fun H locs hw => ?_)
  refine lv_iload hx hb dL_law_1526 (lv_at hl 1 rfl) ?_
  refine lv_icmp_eq (tgt := 1533) hx hb dL_law_1528 (by decide) (fun _ => ?_) (fun z => absurd e2 z)
  refine lv_iload hx hb dL_law_1533 (lv_at hl 1 rfl) ?_
  refine lv_if_ne (tgt := 1550) hx hb dL_law_1535 (by decide) (fun _ => ?_) (fun z => ?_)
  · refine lv_goto (tgt := 2453) hx hb dL_law_1550 (by decide) ?_
    exact kk σ' P T' g' h' al fo' H locs ls k1 k4 k5 k3 hw (lv_sub hl [2, 3, 4, 5, 6] rfl)
  · refine lv_aload_n hx hb dL_law_1538 rfl (lv_at hl 5 rfl) ?_
    refine lv_iconst (v := (0 : Int32)) hx hb dL_law_1539 (by decide) ?_
    refine o_load C hw dL_law_1540 ?_
    refine lv_iload hx hb dL_law_1541 (lv_at hl 0 rfl) ?_
    refine lv_i2l hx hb dL_law_1543 rfl ?_
    refine W.lcmp hx hb dL_law_1544 ?_
    refine lv_if_eq (tgt := 1550) hx hb dL_law_1545 (by decide) (fun _ => ?_) (fun y => absurd ((lg_cmp_eq _ _).mpr (e4 z)) y)
    refine lv_goto (tgt := 2453) hx hb dL_law_1550 (by decide) ?_
    exact kk σ' P T' g' h' al fo' H locs ls k1 k4 k5 k3 hw (lv_sub hl [2, 3, 4, 5, 6] rfl)
