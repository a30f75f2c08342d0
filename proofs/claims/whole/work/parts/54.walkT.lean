section
variable {p : Program} {l : Launch} {e : Env} {s : State} {m : MethodId} {args : Array Value} {below : List Frame} {meth : Method} {c : Code} {D : va_G} {cs : Nat → ClassId} {ad al adK adV : Nat → Nat} {P : PL} {A : Nat → Prop}
set_option maxHeartbeats 4000000 in
set_option maxRecDepth 100000 in
theorem tX11_reign {l : Launch} {D : va_G} {cs : Nat → ClassId} {ad al adK adV : Nat → Nat} {P : PL} (hst : l.stackTraces = false) {kd : Nat} {g' : CS} {g : CS}  {a0 : Int32} {a1 : Int32} (hf : fX11_reign P g a0 a1 = some (Sum.inl kd, g')) : XCon l D cs ad al adK adV yX11_reign cX11_reign 3 (some .int) (rA 7 1 6) [.ref (ad 0), .int a0, .int a1] P g kd g' := by
  refine XCon.of hst (by decide) (Nat.le_of_ble_eq_true rfl) ?_
  intro p e s m args below meth c A ls H locs C hT h hl
  have hx := C.1
  have hb := C.2.1
  have C : MCx p s m args meth c A RX11 cX11_reign 3 (some .int) D cs := C
  have hl : lv_has ls 3 [(0, .ref (ad 0)), (1, .int a0), (2, .int a1)] := hl
  unfold fX11_reign at hf
  refine lv_aload_n hx hb dX11_reign_0 rfl (lv_at hl 0 rfl) ?_
  refine lv_iload_n hx hb dX11_reign_1 rfl (lv_at hl 1 rfl) ?_
  replace hf := bndx_cases hf
  rcases hf with hc | hf
  · exact t_callV [.int a0] C hT h cv_X11_113 (tX11_needMember hT.2.2.2.2 hc) rfl ⟨rfl, rfl⟩ ⟨Nat.le_of_ble_eq_true rfl, Nat.le_of_ble_eq_true rfl⟩ (rv_X11 C h) hl.1 rfl (Nat.le_of_ble_eq_true rfl) ⟨Nat.le_refl 1, Nat.le_refl 6⟩ dX11_reign_2
  obtain ⟨x1, g2, hc, hf⟩ := hf
  refine m_callVv [.int a0] C h cv_X11_113 (qX11_needMember hc) rfl ⟨rfl, rfl⟩ ⟨Nat.le_of_ble_eq_true rfl, Nat.le_of_ble_eq_true rfl⟩ (rv_X11 C h) hl.1 rfl (Nat.le_of_ble_eq_true rfl) ⟨Nat.zero_le _, Nat.zero_le _⟩ dX11_reign_2 (fun H locs h => ?_)
  clear hc
  refine lv_aload_n hx hb dX11_reign_5 rfl (lv_at hl 0 rfl) ?_
  refine lv_iload_n hx hb dX11_reign_6 rfl (lv_at hl 2 rfl) ?_
  refine lv_sipush (v := (9999 : Int32)) hx hb dX11_reign_7 (by decide) ?_
  replace hf := bndx_cases hf
  rcases hf with hc | hf
  · exact t_callV [.int a1, .int (9999 : Int32)] C hT h cv_X11_319 (tX11_needMinutes hT.2.2.2.2 hc) rfl ⟨rfl, rfl⟩ ⟨Nat.le_of_ble_eq_true rfl, Nat.le_of_ble_eq_true rfl⟩ (rv_X11 C h) hl.1 rfl (Nat.le_of_ble_eq_true rfl) ⟨Nat.le_refl 1, Nat.le_refl 6⟩ dX11_reign_10
  obtain ⟨x3, g4, hc, hf⟩ := hf
  refine m_callVv [.int a1, .int (9999 : Int32)] C h cv_X11_319 (qX11_needMinutes hc) rfl ⟨rfl, rfl⟩ ⟨Nat.le_of_ble_eq_true rfl, Nat.le_of_ble_eq_true rfl⟩ (rv_X11 C h) hl.1 rfl (Nat.le_of_ble_eq_true rfl) ⟨Nat.zero_le _, Nat.zero_le _⟩ dX11_reign_10 (fun H locs h => ?_)
  clear hc
  refine lv_aload_n hx hb dX11_reign_13 rfl (lv_at hl 0 rfl) ?_
  refine xg_X11 12 C h (by decide) tb_3_0 rfl rfl dX11_reign_14 ?_
  refine lv_iload_n hx hb dX11_reign_17 rfl (lv_at hl 1 rfl) ?_
  refine lv_iload_n hx hb dX11_reign_18 rfl (lv_at hl 2 rfl) ?_
  replace hf := bndc_some hf
  obtain ⟨x5, g6, hc, hf⟩ := hf
  refine m_callVi [.int a0, .int a1] C h cv_X11_325 (qX0_reignOf hc) rfl ⟨rfl, rfl⟩ ⟨Nat.le_of_ble_eq_true rfl, Nat.le_of_ble_eq_true rfl⟩ (rv_X0 C h) hl.1 rfl (Nat.le_of_ble_eq_true rfl) ⟨Nat.zero_le _, Nat.zero_le _⟩ dX11_reign_19 (fun H locs h => ?_)
  clear hc
  exact (xr_l hf).elim

set_option maxHeartbeats 4000000 in
set_option maxRecDepth 100000 in
theorem tX11_first {l : Launch} {D : va_G} {cs : Nat → ClassId} {ad al adK adV : Nat → Nat} {P : PL} (hst : l.stackTraces = false) {kd : Nat} {g' : CS} {g : CS}  {a0 : Int32} (hf : fX11_first P g a0 = some (Sum.inl kd, g')) : XCon l D cs ad al adK adV yX11_first cX11_first 2 (some .int) (rA 7 1 6) [.ref (ad 0), .int a0] P g kd g' := by
  refine XCon.of hst (by decide) (Nat.le_of_ble_eq_true rfl) ?_
  intro p e s m args below meth c A ls H locs C hT h hl
  have hx := C.1
  have hb := C.2.1
  have C : MCx p s m args meth c A RX11 cX11_first 2 (some .int) D cs := C
  have hl : lv_has ls 2 [(0, .ref (ad 0)), (1, .int a0)] := hl
  unfold fX11_first at hf
  refine lv_aload_n hx hb dX11_first_0 rfl (lv_at hl 0 rfl) ?_
  refine lv_iload_n hx hb dX11_first_1 rfl (lv_at hl 1 rfl) ?_
  replace hf := bndx_cases hf
  rcases hf with hc | hf
  · exact t_callV [.int a0] C hT h cv_X11_113 (tX11_needMember hT.2.2.2.2 hc) rfl ⟨rfl, rfl⟩ ⟨Nat.le_of_ble_eq_true rfl, Nat.le_of_ble_eq_true rfl⟩ (rv_X11 C h) hl.1 rfl (Nat.le_of_ble_eq_true rfl) ⟨Nat.le_refl 1, Nat.le_refl 6⟩ dX11_first_2
  obtain ⟨x1, g2, hc, hf⟩ := hf
  refine m_callVv [.int a0] C h cv_X11_113 (qX11_needMember hc) rfl ⟨rfl, rfl⟩ ⟨Nat.le_of_ble_eq_true rfl, Nat.le_of_ble_eq_true rfl⟩ (rv_X11 C h) hl.1 rfl (Nat.le_of_ble_eq_true rfl) ⟨Nat.zero_le _, Nat.zero_le _⟩ dX11_first_2 (fun H locs h => ?_)
  clear hc
  refine lv_aload_n hx hb dX11_first_5 rfl (lv_at hl 0 rfl) ?_
  refine xg_X11 12 C h (by decide) tb_3_0 rfl rfl dX11_first_6 ?_
  refine lv_iload_n hx hb dX11_first_9 rfl (lv_at hl 1 rfl) ?_
  replace hf := bndc_some hf
  obtain ⟨x3, g4, hc, hf⟩ := hf
  refine m_callVi [.int a0] C h cv_X11_328 (qX0_firstOf hc) rfl ⟨rfl, rfl⟩ ⟨Nat.le_of_ble_eq_true rfl, Nat.le_of_ble_eq_true rfl⟩ (rv_X0 C h) hl.1 rfl (Nat.le_of_ble_eq_true rfl) ⟨Nat.zero_le _, Nat.zero_le _⟩ dX11_first_10 (fun H locs h => ?_)
  clear hc
  exact (xr_l hf).elim

set_option maxHeartbeats 4000000 in
set_option maxRecDepth 100000 in
theorem tX11_listSeen {l : Launch} {D : va_G} {cs : Nat → ClassId} {ad al adK adV : Nat → Nat} {P : PL} (hst : l.stackTraces = false) {kd : Nat} {g' : CS} {g : CS}  {a0 : Int32} (hf : fX11_listSeen P g a0 = some (Sum.inl kd, g')) : XCon l D cs ad al adK adV yX11_listSeen cX11_listSeen 4 (some .int) (rA 8 1 6) [.ref (ad 0), .int a0] P g kd g' := by
  refine XCon.of hst (by decide) (Nat.le_of_ble_eq_true rfl) ?_
  intro p e s m args below meth c A ls H locs C hT h hl
  have hx := C.1
  have hb := C.2.1
  have C : MCx p s m args meth c A RX11 cX11_listSeen 4 (some .int) D cs := C
  have hl : lv_has ls 4 [(0, .ref (ad 0)), (1, .int a0)] := hl
  unfold fX11_listSeen at hf
  refine lv_aload_n hx hb dX11_listSeen_0 rfl (lv_at hl 0 rfl) ?_
  refine lv_iload_n hx hb dX11_listSeen_1 rfl (lv_at hl 1 rfl) ?_
  replace hf := bndx_cases hf
  rcases hf with hc | hf
  · exact t_callV [.int a0] C hT h cv_X11_217 (tX11_needLook hT.2.2.2.2 hc) rfl ⟨rfl, rfl⟩ ⟨Nat.le_of_ble_eq_true rfl, Nat.le_of_ble_eq_true rfl⟩ (rv_X11 C h) hl.1 rfl (Nat.le_of_ble_eq_true rfl) ⟨Nat.le_refl 1, Nat.le_refl 6⟩ dX11_listSeen_2
  obtain ⟨o1, g2, hc, hf⟩ := hf
  refine m_callVr [.int a0] C h cv_X11_217 (qX11_needLook hc) rfl ⟨rfl, rfl⟩ ⟨Nat.le_of_ble_eq_true rfl, Nat.le_of_ble_eq_true rfl⟩ (rv_X11 C h) hl.1 rfl (Nat.le_of_ble_eq_true rfl) ⟨Nat.zero_le _, Nat.zero_le _⟩ dX11_listSeen_2 (fun H locs h => ?_)
  clear hc
  replace hf := chk_some hf
  obtain ⟨hq, hf⟩ := hf
  have hn_o1 := okTb_t hq
  clear hq
  refine lv_astore_n (lv' := [(2, .ref (ad o1)), (0, .ref (ad 0)), (1, .int a0)]) hx hb dX11_listSeen_5 rfl hl (by decide) rfl (fun ls hl => ?_)
  refine lv_aload_n hx hb dX11_listSeen_6 rfl (lv_at hl 0 rfl) ?_
  refine lv_aload_n hx hb dX11_listSeen_7 rfl (lv_at hl 1 rfl) ?_
  refine xg_X11 5 C h (by decide) tb_2_3 rfl rfl dX11_listSeen_8 ?_
  refine xg_X6 1 (by simp [okS, okT, ok6]) C h (by decide) tb_43_11 rfl rfl dX11_listSeen_11 ?_
  replace hf := bndc_some hf
  obtain ⟨x3, g4, hc, hf⟩ := hf
  refine m_callVi [.int (g2.1 30 1)] C h cv_X11_226 (qX9_maskOf hn_o1 hc) rfl ⟨rfl, rfl⟩ ⟨Nat.le_of_ble_eq_true rfl, Nat.le_of_ble_eq_true rfl⟩ (rv_X9 hn_o1 C h) hl.1 rfl (Nat.le_of_ble_eq_true rfl) ⟨Nat.zero_le _, Nat.zero_le _⟩ dX11_listSeen_14 (fun H locs h => ?_)
  clear hc
  refine lv_istore_n (lv' := [(3, .int x3), (2, .ref (ad o1)), (0, .ref (ad 0)), (1, .int a0)]) hx hb dX11_listSeen_17 rfl hl (by decide) rfl (fun ls hl => ?_)
  refine lv_aload_n hx hb dX11_listSeen_18 rfl (lv_at hl 2 rfl) ?_
  refine xg_X11 11 C h (by decide) tb_2_20 rfl rfl dX11_listSeen_19 ?_
  refine lv_iload_n hx hb dX11_listSeen_22 rfl (lv_at hl 0 rfl) ?_
  refine lv_aload_n hx hb dX11_listSeen_23 rfl (lv_at hl 1 rfl) ?_
  refine lv_aload_n hx hb dX11_listSeen_24 rfl (lv_at hl 2 rfl) ?_
  refine xg_X11 5 C h (by decide) tb_2_3 rfl rfl dX11_listSeen_25 ?_
  refine xg_X6 1 (by simp [okS, okT, ok6]) C h (by decide) tb_43_11 rfl rfl dX11_listSeen_28 ?_
  replace hf := bndc_some hf
  obtain ⟨x5, g6, hc, hf⟩ := hf
  refine m_callVi [.int (g4.1 30 1)] C h cv_X11_229 (qX9_aimsOf hn_o1 hc) rfl ⟨rfl, rfl⟩ ⟨Nat.le_of_ble_eq_true rfl, Nat.le_of_ble_eq_true rfl⟩ (rv_X9 hn_o1 C h) hl.1 rfl (Nat.le_of_ble_eq_true rfl) ⟨Nat.zero_le _, Nat.zero_le _⟩ dX11_listSeen_31 (fun H locs h => ?_)
  clear hc
  replace hf := bndv_some hf
  obtain ⟨g7, hc, hf⟩ := hf
  refine m_callVv [.int x3, .int x5] C h cv_X11_269 (qX5_list hc) rfl ⟨rfl, rfl⟩ ⟨Nat.le_of_ble_eq_true rfl, Nat.le_of_ble_eq_true rfl⟩ (rv_X5 C h) hl.1 rfl (Nat.le_of_ble_eq_true rfl) ⟨Nat.zero_le _, Nat.zero_le _⟩ dX11_listSeen_34 (fun H locs h => ?_)
  clear hc
  refine lv_iload_n hx hb dX11_listSeen_37 rfl (lv_at hl 0 rfl) ?_
  exact (xr_l hf).elim

set_option maxHeartbeats 4000000 in
set_option maxRecDepth 100000 in
theorem tX11_seen {l : Launch} {D : va_G} {cs : Nat → ClassId} {ad al adK adV : Nat → Nat} {P : PL} (hst : l.stackTraces = false) {kd : Nat} {g' : CS} {g : CS}  {a0 : Int32} (hf : fX11_seen P g a0 = some (Sum.inl kd, g')) : XCon l D cs ad al adK adV yX11_seen cX11_seen 2 (some .int) (rA 9 1 6) [.ref (ad 0), .int a0] P g kd g' := by
  refine XCon.of hst (by decide) (Nat.le_of_ble_eq_true rfl) ?_
  intro p e s m args below meth c A ls H locs C hT h hl
  have hx := C.1
  have hb := C.2.1
  have C : MCx p s m args meth c A RX11 cX11_seen 2 (some .int) D cs := C
  have hl : lv_has ls 2 [(0, .ref (ad 0)), (1, .int a0)] := hl
  unfold fX11_seen at hf
  refine lv_aload_n hx hb dX11_seen_0 rfl (lv_at hl 0 rfl) ?_
  refine lv_iload_n hx hb dX11_seen_1 rfl (lv_at hl 1 rfl) ?_
  replace hf := bndx_cases hf
  rcases hf with hc | hf
  · exact t_callV [.int a0] C hT h cv_X11_331 (tX11_listSeen hT.2.2.2.2 hc) rfl ⟨rfl, rfl⟩ ⟨Nat.le_of_ble_eq_true rfl, Nat.le_of_ble_eq_true rfl⟩ (rv_X11 C h) hl.1 rfl (Nat.le_of_ble_eq_true rfl) ⟨Nat.le_refl 1, Nat.le_refl 6⟩ dX11_seen_2
  obtain ⟨x1, g2, hc, hf⟩ := hf
  refine m_callVi [.int a0] C h cv_X11_331 (qX11_listSeen hc) rfl ⟨rfl, rfl⟩ ⟨Nat.le_of_ble_eq_true rfl, Nat.le_of_ble_eq_true rfl⟩ (rv_X11 C h) hl.1 rfl (Nat.le_of_ble_eq_true rfl) ⟨Nat.zero_le _, Nat.zero_le _⟩ dX11_seen_2 (fun H locs h => ?_)
  clear hc
  refine lv_pop hx hb dX11_seen_5 rfl ?_
  refine lv_aload_n hx hb dX11_seen_6 rfl (lv_at hl 0 rfl) ?_
  refine xg_X11 11 C h (by decide) tb_2_20 rfl rfl dX11_seen_7 ?_
  refine xg_X5 2 C h (by decide) tb_54_6 rfl rfl dX11_seen_10 ?_
  exact (xr_l hf).elim

set_option maxHeartbeats 4000000 in
set_option maxRecDepth 100000 in
theorem tX11_seenAt {l : Launch} {D : va_G} {cs : Nat → ClassId} {ad al adK adV : Nat → Nat} {P : PL} (hst : l.stackTraces = false) {kd : Nat} {g' : CS} {g : CS}  {a0 : Int32} {a1 : Int32} (hf : fX11_seenAt P g a0 a1 = some (Sum.inl kd, g')) : XCon l D cs ad al adK adV yX11_seenAt cX11_seenAt 4 (some .int) (rA 8 1 6) [.ref (ad 0), .int a0, .int a1] P g kd g' := by
  refine XCon.of hst (by decide) (Nat.le_of_ble_eq_true rfl) ?_
  intro p e s m args below meth c A ls H locs C hT h hl
  have hx := C.1
  have hb := C.2.1
  have C : MCx p s m args meth c A RX11 cX11_seenAt 4 (some .int) D cs := C
  have hl : lv_has ls 4 [(0, .ref (ad 0)), (1, .int a0), (2, .int a1)] := hl
  unfold fX11_seenAt at hf
  refine lv_aload_n hx hb dX11_seenAt_0 rfl (lv_at hl 0 rfl) ?_
  refine lv_iload_n hx hb dX11_seenAt_1 rfl (lv_at hl 1 rfl) ?_
  replace hf := bndx_cases hf
  rcases hf with hc | hf
  · exact t_callV [.int a0] C hT h cv_X11_217 (tX11_needLook hT.2.2.2.2 hc) rfl ⟨rfl, rfl⟩ ⟨Nat.le_of_ble_eq_true rfl, Nat.le_of_ble_eq_true rfl⟩ (rv_X11 C h) hl.1 rfl (Nat.le_of_ble_eq_true rfl) ⟨Nat.le_refl 1, Nat.le_refl 6⟩ dX11_seenAt_2
  obtain ⟨o1, g2, hc, hf⟩ := hf
  refine m_callVr [.int a0] C h cv_X11_217 (qX11_needLook hc) rfl ⟨rfl, rfl⟩ ⟨Nat.le_of_ble_eq_true rfl, Nat.le_of_ble_eq_true rfl⟩ (rv_X11 C h) hl.1 rfl (Nat.le_of_ble_eq_true rfl) ⟨Nat.zero_le _, Nat.zero_le _⟩ dX11_seenAt_2 (fun H locs h => ?_)
  clear hc
  replace hf := chk_some hf
  obtain ⟨hq, hf⟩ := hf
  have hn_o1 := okTb_t hq
  clear hq
  refine lv_astore_n (lv' := [(3, .ref (ad o1)), (0, .ref (ad 0)), (1, .int a0), (2, .int a1)]) hx hb dX11_seenAt_5 rfl hl (by decide) rfl (fun ls hl => ?_)
  refine lv_iload_n hx hb dX11_seenAt_6 rfl (lv_at hl 3 rfl) ?_
  refine lv_if_ge (tgt := 21) hx hb dX11_seenAt_7 (by decide) (fun hq => ?_) (fun hq => ?_)
  · replace hf := if_t hq hf
    clear hq
    refine lv_aload_n hx hb dX11_seenAt_21 rfl (lv_at hl 1 rfl) ?_
    refine xg_X11 11 C h (by decide) tb_2_20 rfl rfl dX11_seenAt_22 ?_
    refine lv_aload_n hx hb dX11_seenAt_25 rfl (lv_at hl 0 rfl) ?_
    refine lv_aload_n hx hb dX11_seenAt_26 rfl (lv_at hl 1 rfl) ?_
    refine xg_X11 5 C h (by decide) tb_2_3 rfl rfl dX11_seenAt_27 ?_
    refine xg_X6 1 (by simp [okS, okT, ok6]) C h (by decide) tb_43_11 rfl rfl dX11_seenAt_30 ?_
    replace hf := bndc_some hf
    obtain ⟨x3, g4, hc, hf⟩ := hf
    refine m_callVi [.int (g2.1 30 1)] C h cv_X11_226 (qX9_maskOf hn_o1 hc) rfl ⟨rfl, rfl⟩ ⟨Nat.le_of_ble_eq_true rfl, Nat.le_of_ble_eq_true rfl⟩ (rv_X9 hn_o1 C h) hl.1 rfl (Nat.le_of_ble_eq_true rfl) ⟨Nat.zero_le _, Nat.zero_le _⟩ dX11_seenAt_33 (fun H locs h => ?_)
    clear hc
    refine lv_aload_n hx hb dX11_seenAt_36 rfl (lv_at hl 0 rfl) ?_
    refine lv_aload_n hx hb dX11_seenAt_37 rfl (lv_at hl 1 rfl) ?_
    refine xg_X11 5 C h (by decide) tb_2_3 rfl rfl dX11_seenAt_38 ?_
    refine xg_X6 1 (by simp [okS, okT, ok6]) C h (by decide) tb_43_11 rfl rfl dX11_seenAt_41 ?_
    replace hf := bndc_some hf
    obtain ⟨x5, g6, hc, hf⟩ := hf
    refine m_callVi [.int (g4.1 30 1)] C h cv_X11_229 (qX9_aimsOf hn_o1 hc) rfl ⟨rfl, rfl⟩ ⟨Nat.le_of_ble_eq_true rfl, Nat.le_of_ble_eq_true rfl⟩ (rv_X9 hn_o1 C h) hl.1 rfl (Nat.le_of_ble_eq_true rfl) ⟨Nat.zero_le _, Nat.zero_le _⟩ dX11_seenAt_44 (fun H locs h => ?_)
    clear hc
    replace hf := bndv_some hf
    obtain ⟨g7, hc, hf⟩ := hf
    refine m_callVv [.int x3, .int x5] C h cv_X11_269 (qX5_list hc) rfl ⟨rfl, rfl⟩ ⟨Nat.le_of_ble_eq_true rfl, Nat.le_of_ble_eq_true rfl⟩ (rv_X5 C h) hl.1 rfl (Nat.le_of_ble_eq_true rfl) ⟨Nat.zero_le _, Nat.zero_le _⟩ dX11_seenAt_47 (fun H locs h => ?_)
    clear hc
    refine lv_iload_n hx hb dX11_seenAt_50 rfl (lv_at hl 3 rfl) ?_
    refine lv_aload_n hx hb dX11_seenAt_51 rfl (lv_at hl 1 rfl) ?_
    refine xg_X11 11 C h (by decide) tb_2_20 rfl rfl dX11_seenAt_52 ?_
    refine xg_X5 2 C h (by decide) tb_54_6 rfl rfl dX11_seenAt_55 ?_
    refine lv_icmp_ge (tgt := 73) hx hb dX11_seenAt_58 (by decide) (fun hq => ?_) (fun hq => ?_)
    · replace hf := if_t hq hf
      clear hq
      refine lv_iconst (v := (-1 : Int32)) hx hb dX11_seenAt_73 (by decide) ?_
      exact (xr_l hf).elim
    · replace hf := if_f hq hf
      clear hq
      refine lv_aload_n hx hb dX11_seenAt_61 rfl (lv_at hl 1 rfl) ?_
      refine xg_X11 11 C h (by decide) tb_2_20 rfl rfl dX11_seenAt_62 ?_
      refine xg_X5 3 C h (by decide) tb_54_8 rfl rfl dX11_seenAt_65 ?_
      refine lv_iload_n hx hb dX11_seenAt_68 rfl (lv_at hl 3 rfl) ?_
      replace hf := chk_some hf
      obtain ⟨hq, hf⟩ := hf
      refine yl_23 C h hq dX11_seenAt_69 ?_
      clear hq
      refine lv_goto (tgt := 74) hx hb dX11_seenAt_70 (by decide) ?_
      exact (xr_l hf).elim
  · replace hf := if_f hq hf
    clear hq
    obtain ⟨e1, e2⟩ := xl_inj hf
    subst e1 e2
    exact t_throwW (i := 30) 1 (by decide) (by decide) C hT h tb_9_4 tb_9_5 (by decide) rfl rfl hl.1 dX11_seenAt_10 dX11_seenAt_13 dX11_seenAt_14 dX11_seenAt_17 dX11_seenAt_20 (Nat.le_of_ble_eq_true rfl) (Nat.le_of_ble_eq_true rfl) (Nat.le_refl 1) (Nat.le_refl 6)

set_option maxHeartbeats 4000000 in
set_option maxRecDepth 100000 in
theorem uX11_ask_34 (C : MCx p s m args meth c A RX11 cX11_ask 7 (some .int) D cs) (hT : TC l s args c adK adV A)  {kd : Nat} {g' : CS}  : ∀ (n : Nat) (g : CS) (y2 : Int32) (y3 : Int32) (y4 : Int32) (y5 : Int32), fX11_ask_34 P n g y2 y3 y4 y5 = some (Sum.inl kd, g') → ∀ (H : Heap) (locs : List Loc) (ls : Array Slot), MH D (SW cs ad al P g) A s H locs → lv_has ls 7 [(0, .ref (ad 0)), (2, .int y2), (3, .int y3), (4, .int y4), (5, .int y5)] → W p l e (rA 9 1 6) s m args below meth c H locs 0 0 (vx_MQ below QF (XP D cs ad al P kd g' A) args s 1 6 A) (F0 m 34 ls []) := by
  have hx := C.1
  have hb := C.2.1
  intro n
  induction n with
  | zero =>
    intro g y2 y3 y4 y5 hf
    exact absurd hf (by simp [fX11_ask_34])
  | succ n ih =>
    intro g y2 y3 y4 y5 hf H locs ls h hl
    rw [fX11_ask_34] at hf
    refine lv_iload hx hb dX11_ask_34 (lv_at hl 4 rfl) ?_
    refine lv_aload_n hx hb dX11_ask_36 rfl (lv_at hl 0 rfl) ?_
    refine xg_X11 5 C h (by decide) tb_2_3 rfl rfl dX11_ask_37 ?_
    refine xg_X6 1 (by simp [okS, okT, ok6]) C h (by decide) tb_43_11 rfl rfl dX11_ask_40 ?_
    refine lv_icmp_ge (tgt := 86) hx hb dX11_ask_43 (by decide) (fun hq => ?_) (fun hq => ?_)
    · replace hf := if_t hq hf
      clear hq
      refine lv_iload_n hx hb dX11_ask_86 rfl (lv_at hl 2 rfl) ?_
      exact (xr_l hf).elim
    · replace hf := if_f hq hf
      clear hq
      refine lv_iload_n hx hb dX11_ask_46 rfl (lv_at hl 1 rfl) ?_
      refine lv_iload hx hb dX11_ask_47 (lv_at hl 4 rfl) ?_
      replace hf := bndv_some hf
      obtain ⟨x1, hc, hf⟩ := hf
      refine m_callSi [.int y2, .int y5] C h cs_X11_119 (qX1_at hc) rfl ⟨rfl, rfl⟩ ⟨Nat.le_of_ble_eq_true rfl, Nat.le_of_ble_eq_true rfl⟩ hl.1 rfl (Nat.le_of_ble_eq_true rfl) ⟨Nat.zero_le _, Nat.zero_le _⟩ dX11_ask_49 (fun H locs h => ?_)
      clear hc
      refine lv_if_ne (tgt := 80) hx hb dX11_ask_52 (by decide) (fun hq => ?_) (fun hq => ?_)
      · replace hf := if_tn hq hf
        clear hq
        obtain ⟨x2, ex2⟩ : ∃ z : Int32, z = y5 + (1 : Int32) := ⟨_, rfl⟩
        replace hf := bnd_at ex2 hf
        refine lv_iinc (v := x2) (lv' := [(5, .int x2), (0, .ref (ad 0)), (2, .int y2), (3, .int y3), (4, .int y4)]) hx hb dX11_ask_80 hl (k := 4) rfl (by rw [ex2]; rfl) (by decide) rfl (fun ls hl => ?_)
        clear ex2
        refine lv_goto (tgt := 34) hx hb dX11_ask_83 (by decide) ?_
        exact ih g y2 y3 y4 x2 hf H locs ls h (lv_sub hl [1, 2, 3, 4, 0] rfl)
      · replace hf := if_t hq hf
        clear hq
        refine lv_aload_n hx hb dX11_ask_55 rfl (lv_at hl 0 rfl) ?_
        refine xg_X11 11 C h (by decide) tb_2_20 rfl rfl dX11_ask_56 ?_
        refine lv_iload hx hb dX11_ask_59 (lv_at hl 4 rfl) ?_
        replace hf := bndc_some hf
        obtain ⟨x3, g4, hc, hf⟩ := hf
        refine m_callVi [.int y5] C h cv_X11_336 (qX5_mostAlike hc) rfl ⟨rfl, rfl⟩ ⟨Nat.le_of_ble_eq_true rfl, Nat.le_of_ble_eq_true rfl⟩ (rv_X5 C h) hl.1 rfl (Nat.le_of_ble_eq_true rfl) ⟨Nat.zero_le _, Nat.zero_le _⟩ dX11_ask_61 (fun H locs h => ?_)
        clear hc
        refine lv_istore (lv' := [(6, .int x3), (0, .ref (ad 0)), (2, .int y2), (3, .int y3), (4, .int y4), (5, .int y5)]) hx hb dX11_ask_64 hl (by decide) rfl (fun ls hl => ?_)
        refine lv_iload hx hb dX11_ask_66 (lv_at hl 0 rfl) ?_
        refine lv_iload hx hb dX11_ask_68 (lv_at hl 4 rfl) ?_
        refine lv_icmp_ge (tgt := 80) hx hb dX11_ask_70 (by decide) (fun hq => ?_) (fun hq => ?_)
        · replace hf := if_t hq hf
          clear hq
          obtain ⟨x5, ex5⟩ : ∃ z : Int32, z = y5 + (1 : Int32) := ⟨_, rfl⟩
          replace hf := bnd_at ex5 hf
          refine lv_iinc (v := x5) (lv' := [(5, .int x5), (6, .int x3), (0, .ref (ad 0)), (2, .int y2), (3, .int y3), (4, .int y4)]) hx hb dX11_ask_80 hl (k := 5) rfl (by rw [ex5]; rfl) (by decide) rfl (fun ls hl => ?_)
          clear ex5
          refine lv_goto (tgt := 34) hx hb dX11_ask_83 (by decide) ?_
          exact ih g4 y2 y3 y4 x5 hf H locs ls h (lv_sub hl [2, 3, 4, 5, 0] rfl)
        · replace hf := if_f hq hf
          clear hq
          refine lv_iload hx hb dX11_ask_73 (lv_at hl 0 rfl) ?_
          refine lv_istore (lv' := [(4, .int x3), (6, .int x3), (0, .ref (ad 0)), (2, .int y2), (3, .int y3), (5, .int y5)]) hx hb dX11_ask_75 hl (by decide) rfl (fun ls hl => ?_)
          refine lv_iload hx hb dX11_ask_77 (lv_at hl 5 rfl) ?_
          refine lv_istore_n (lv' := [(3, .int y5), (4, .int x3), (6, .int x3), (0, .ref (ad 0)), (2, .int y2), (5, .int y5)]) hx hb dX11_ask_79 rfl hl (by decide) rfl (fun ls hl => ?_)
          obtain ⟨x6, ex6⟩ : ∃ z : Int32, z = y5 + (1 : Int32) := ⟨_, rfl⟩
          replace hf := bnd_at ex6 hf
          refine lv_iinc (v := x6) (lv' := [(5, .int x6), (3, .int y5), (4, .int x3), (6, .int x3), (0, .ref (ad 0)), (2, .int y2)]) hx hb dX11_ask_80 hl (k := 5) rfl (by rw [ex6]; rfl) (by decide) rfl (fun ls hl => ?_)
          clear ex6
          refine lv_goto (tgt := 34) hx hb dX11_ask_83 (by decide) ?_
          exact ih g4 y2 y5 x3 x6 hf H locs ls h (lv_sub hl [4, 5, 1, 2, 0] rfl)

set_option maxHeartbeats 4000000 in
set_option maxRecDepth 100000 in
theorem tX11_ask {l : Launch} {D : va_G} {cs : Nat → ClassId} {ad al adK adV : Nat → Nat} {P : PL} (hst : l.stackTraces = false) {kd : Nat} {g' : CS} {g : CS}  {a0 : Int32} (hf : fX11_ask P g a0 = some (Sum.inl kd, g')) : XCon l D cs ad al adK adV yX11_ask cX11_ask 7 (some .int) (rA 9 1 6) [.ref (ad 0), .int a0] P g kd g' := by
  refine XCon.of hst (by decide) (Nat.le_of_ble_eq_true rfl) ?_
  intro p e s m args below meth c A ls H locs C hT h hl
  have hx := C.1
  have hb := C.2.1
  have C : MCx p s m args meth c A RX11 cX11_ask 7 (some .int) D cs := C
  have hl : lv_has ls 7 [(0, .ref (ad 0)), (1, .int a0)] := hl
  unfold fX11_ask at hf
  refine lv_aload_n hx hb dX11_ask_0 rfl (lv_at hl 0 rfl) ?_
  refine lv_iload_n hx hb dX11_ask_1 rfl (lv_at hl 1 rfl) ?_
  replace hf := bndx_cases hf
  rcases hf with hc | hf
  · exact t_callV [.int a0] C hT h cv_X11_331 (tX11_listSeen hT.2.2.2.2 hc) rfl ⟨rfl, rfl⟩ ⟨Nat.le_of_ble_eq_true rfl, Nat.le_of_ble_eq_true rfl⟩ (rv_X11 C h) hl.1 rfl (Nat.le_of_ble_eq_true rfl) ⟨Nat.le_refl 1, Nat.le_refl 6⟩ dX11_ask_2
  obtain ⟨x7, g8, hc, hf⟩ := hf
  refine m_callVi [.int a0] C h cv_X11_331 (qX11_listSeen hc) rfl ⟨rfl, rfl⟩ ⟨Nat.le_of_ble_eq_true rfl, Nat.le_of_ble_eq_true rfl⟩ (rv_X11 C h) hl.1 rfl (Nat.le_of_ble_eq_true rfl) ⟨Nat.zero_le _, Nat.zero_le _⟩ dX11_ask_2 (fun H locs h => ?_)
  clear hc
  refine lv_istore_n (lv' := [(2, .int x7), (0, .ref (ad 0)), (1, .int a0)]) hx hb dX11_ask_5 rfl hl (by decide) rfl (fun ls hl => ?_)
  refine lv_aload_n hx hb dX11_ask_6 rfl (lv_at hl 1 rfl) ?_
  refine xg_X11 11 C h (by decide) tb_2_20 rfl rfl dX11_ask_7 ?_
  refine xg_X5 2 C h (by decide) tb_54_6 rfl rfl dX11_ask_10 ?_
  refine lv_if_ne (tgt := 18) hx hb dX11_ask_13 (by decide) (fun hq => ?_) (fun hq => ?_)
  · replace hf := if_tn hq hf
    clear hq
    refine lv_iconst (v := (-1 : Int32)) hx hb dX11_ask_18 (by decide) ?_
    refine lv_istore_n (lv' := [(3, .int (-1 : Int32)), (2, .int x7), (0, .ref (ad 0)), (1, .int a0)]) hx hb dX11_ask_19 rfl hl (by decide) rfl (fun ls hl => ?_)
    refine lv_aload_n hx hb dX11_ask_20 rfl (lv_at hl 2 rfl) ?_
    refine xg_X11 11 C h (by decide) tb_2_20 rfl rfl dX11_ask_21 ?_
    refine xg_X5 2 C h (by decide) tb_54_6 rfl rfl dX11_ask_24 ?_
    refine lv_iconst (v := (1 : Int32)) hx hb dX11_ask_27 (by decide) ?_
    refine lv_iadd hx hb dX11_ask_28 ?_
    refine lv_topi (fun x9 ex9 => ?_)
    replace hf := bnd_at ex9 hf
    clear ex9
    refine lv_istore (lv' := [(4, .int x9), (3, .int (-1 : Int32)), (2, .int x7), (0, .ref (ad 0)), (1, .int a0)]) hx hb dX11_ask_29 hl (by decide) rfl (fun ls hl => ?_)
    refine lv_iconst (v := (0 : Int32)) hx hb dX11_ask_31 (by decide) ?_
    refine lv_istore (lv' := [(5, .int (0 : Int32)), (4, .int x9), (3, .int (-1 : Int32)), (2, .int x7), (0, .ref (ad 0)), (1, .int a0)]) hx hb dX11_ask_32 hl (by decide) rfl (fun ls hl => ?_)
    exact uX11_ask_34 (P := P) C hT fuel g8 x7 (-1 : Int32) x9 (0 : Int32) hf H locs ls h (lv_sub hl [4, 3, 2, 1, 0] rfl)
  · replace hf := if_t hq hf
    clear hq
    refine lv_iconst (v := (-1 : Int32)) hx hb dX11_ask_16 (by decide) ?_
    exact (xr_l hf).elim

set_option maxHeartbeats 4000000 in
set_option maxRecDepth 100000 in
theorem tX11_needChances {l : Launch} {D : va_G} {cs : Nat → ClassId} {ad al adK adV : Nat → Nat} {P : PL} (hst : l.stackTraces = false) {kd : Nat} {g' : CS} {g : CS}  {a0 : Int32} (hf : fX11_needChances P g a0 = some (Sum.inl kd, g')) : XCon l D cs ad al adK adV yX11_needChances cX11_needChances 2 none (rA 6 1 6) [.ref (ad 0), .int a0] P g kd g' := by
  refine XCon.of hst (by decide) (Nat.le_of_ble_eq_true rfl) ?_
  intro p e s m args below meth c A ls H locs C hT h hl
  have hx := C.1
  have hb := C.2.1
  have C : MCx p s m args meth c A RX11 cX11_needChances 2 none D cs := C
  have hl : lv_has ls 2 [(0, .ref (ad 0)), (1, .int a0)] := hl
  unfold fX11_needChances at hf
  refine lv_iload_n hx hb dX11_needChances_0 rfl (lv_at hl 1 rfl) ?_
  refine lv_if_lt (tgt := 10) hx hb dX11_needChances_1 (by decide) (fun hq => ?_) (fun hq => ?_)
  · replace hf := if_t hq hf
    clear hq
    obtain ⟨e1, e2⟩ := xl_inj hf
    subst e1 e2
    exact t_throwW (i := 31) 1 (by decide) (by decide) C hT h tb_9_4 tb_9_5 (by decide) rfl rfl hl.1 dX11_needChances_10 dX11_needChances_13 dX11_needChances_14 dX11_needChances_17 dX11_needChances_20 (Nat.le_of_ble_eq_true rfl) (Nat.le_of_ble_eq_true rfl) (Nat.le_refl 1) (Nat.le_refl 6)
  · replace hf := if_f hq hf
    clear hq
    refine lv_iload_n hx hb dX11_needChances_4 rfl (lv_at hl 1 rfl) ?_
    refine lv_bipush (v := (6 : Int32)) hx hb dX11_needChances_5 (by decide) ?_
    refine lv_icmp_le (tgt := 21) hx hb dX11_needChances_7 (by decide) (fun hq => ?_) (fun hq => ?_)
    · replace hf := if_t hq hf
      clear hq
      exact (xr_l hf).elim
    · replace hf := if_f hq hf
      clear hq
      obtain ⟨e1, e2⟩ := xl_inj hf
      subst e1 e2
      exact t_throwW (i := 31) 1 (by decide) (by decide) C hT h tb_9_4 tb_9_5 (by decide) rfl rfl hl.1 dX11_needChances_10 dX11_needChances_13 dX11_needChances_14 dX11_needChances_17 dX11_needChances_20 (Nat.le_of_ble_eq_true rfl) (Nat.le_of_ble_eq_true rfl) (Nat.le_refl 1) (Nat.le_refl 6)

set_option maxHeartbeats 4000000 in
set_option maxRecDepth 100000 in
theorem uX11_chance_30 (C : MCx p s m args meth c A RX11 cX11_chance 7 (some .int) D cs) (hT : TC l s args c adK adV A)  {kd : Nat} {g' : CS}  : ∀ (g : CS) (y1 : Int32) (y2 : Int32) (y3 : Int32), fX11_chance_30 P g y1 y2 y3 = some (Sum.inl kd, g') → ∀ (H : Heap) (locs : List Loc) (ls : Array Slot), MH D (SW cs ad al P g) A s H locs → lv_has ls 7 [(0, .ref (ad 0)), (1, .int y1), (2, .int y2), (3, .int y3)] → W p l e (rA 14 1 6) s m args below meth c H locs 0 0 (vx_MQ below QF (XP D cs ad al P kd g' A) args s 1 6 A) (F0 m 30 ls []) := by
  have hx := C.1
  have hb := C.2.1
  intro g y1 y2 y3 hf H locs ls h hl
  unfold fX11_chance_30 at hf
  refine lv_aload_n hx hb dX11_chance_30 rfl (lv_at hl 0 rfl) ?_
  refine xg_X11 11 C h (by decide) tb_2_20 rfl rfl dX11_chance_31 ?_
  refine lv_iload_n hx hb dX11_chance_34 rfl (lv_at hl 2 rfl) ?_
  replace hf := bndv_some hf
  obtain ⟨g1, hc, hf⟩ := hf
  refine m_callVv [.int y2] C h cv_X11_344 (qX5_scatter hc) rfl ⟨rfl, rfl⟩ ⟨Nat.le_of_ble_eq_true rfl, Nat.le_of_ble_eq_true rfl⟩ (rv_X5 C h) hl.1 rfl (Nat.le_of_ble_eq_true rfl) ⟨Nat.zero_le _, Nat.zero_le _⟩ dX11_chance_35 (fun H locs h => ?_)
  clear hc
  refine lv_aload_n hx hb dX11_chance_38 rfl (lv_at hl 0 rfl) ?_
  refine xg_X11 11 C h (by decide) tb_2_20 rfl rfl dX11_chance_39 ?_
  refine xg_X5 6 C h (by decide) tb_65_4 rfl rfl dX11_chance_42 ?_
  refine lv_iload_n hx hb dX11_chance_45 rfl (lv_at hl 1 rfl) ?_
  replace hf := chk_some hf
  obtain ⟨hq, hf⟩ := hf
  refine yl_26 C h hq dX11_chance_46 ?_
  clear hq
  refine lv_topi (fun x2 ex2 => ?_)
  replace hf := bnd_at ex2 hf
  clear ex2
  refine lv_istore (lv' := [(4, .int x2), (0, .ref (ad 0)), (1, .int y1), (2, .int y2), (3, .int y3)]) hx hb dX11_chance_47 hl (by decide) rfl (fun ls hl => ?_)
  refine lv_aload_n hx hb dX11_chance_49 rfl (lv_at hl 1 rfl) ?_
  refine xg_X11 11 C h (by decide) tb_2_20 rfl rfl dX11_chance_50 ?_
  refine xg_X5 7 C h (by decide) tb_65_5 rfl rfl dX11_chance_53 ?_
  refine lv_topi (fun x3 ex3 => ?_)
  replace hf := bnd_at ex3 hf
  clear ex3
  refine lv_istore (lv' := [(5, .int x3), (4, .int x2), (0, .ref (ad 0)), (1, .int y1), (2, .int y2), (3, .int y3)]) hx hb dX11_chance_56 hl (by decide) rfl (fun ls hl => ?_)
  refine lv_iload hx hb dX11_chance_58 (lv_at hl 1 rfl) ?_
  refine lv_iload hx hb dX11_chance_60 (lv_at hl 0 rfl) ?_
  replace hf := bndv_some hf
  obtain ⟨x4, hc, hf⟩ := hf
  refine m_callSi [.int x2, .int x3] C h cs_X11_353 (qX11_commonMeasure hc) rfl ⟨rfl, rfl⟩ ⟨Nat.le_of_ble_eq_true rfl, Nat.le_of_ble_eq_true rfl⟩ hl.1 rfl (Nat.le_of_ble_eq_true rfl) ⟨Nat.zero_le _, Nat.zero_le _⟩ dX11_chance_62 (fun H locs h => ?_)
  clear hc
  refine lv_istore (lv' := [(6, .int x4), (5, .int x3), (4, .int x2), (0, .ref (ad 0)), (1, .int y1), (2, .int y2), (3, .int y3)]) hx hb dX11_chance_65 hl (by decide) rfl (fun ls hl => ?_)
  refine lv_iload hx hb dX11_chance_67 (lv_at hl 0 rfl) ?_
  refine lv_iconst (v := (1 : Int32)) hx hb dX11_chance_69 (by decide) ?_
  refine lv_icmp_ge (tgt := 75) hx hb dX11_chance_70 (by decide) (fun hq => ?_) (fun hq => ?_)
  · replace hf := if_t hq hf
    clear hq
    refine lv_iload_n hx hb dX11_chance_75 rfl (lv_at hl 6 rfl) ?_
    refine lv_if_ne (tgt := 84) hx hb dX11_chance_76 (by decide) (fun hq => ?_) (fun hq => ?_)
    · replace hf := if_tn hq hf
      clear hq
      refine lv_iload hx hb dX11_chance_84 (lv_at hl 1 rfl) ?_
      refine lv_iload hx hb dX11_chance_86 (lv_at hl 0 rfl) ?_
      replace hf := chk_some hf
      obtain ⟨hq, hf⟩ := hf
      refine lv_idiv hx hb dX11_chance_88 (nz_ne hq) ?_
      clear hq
      exact (xr_l hf).elim
    · replace hf := if_t hq hf
      clear hq
      refine lv_iload hx hb dX11_chance_79 (lv_at hl 2 rfl) ?_
      refine lv_goto (tgt := 86) hx hb dX11_chance_81 (by decide) ?_
      refine lv_iload hx hb dX11_chance_86 (lv_at hl 0 rfl) ?_
      replace hf := chk_some hf
      obtain ⟨hq, hf⟩ := hf
      refine lv_idiv hx hb dX11_chance_88 (nz_ne hq) ?_
      clear hq
      exact (xr_l hf).elim
  · replace hf := if_f hq hf
    clear hq
    refine lv_iconst (v := (0 : Int32)) hx hb dX11_chance_73 (by decide) ?_
    exact (xr_l hf).elim

set_option maxHeartbeats 4000000 in
set_option maxRecDepth 100000 in
theorem tX11_chance {l : Launch} {D : va_G} {cs : Nat → ClassId} {ad al adK adV : Nat → Nat} {P : PL} (hst : l.stackTraces = false) {kd : Nat} {g' : CS} {g : CS}  {a0 : Int32} {a1 : Int32} {a2 : Int32} (hf : fX11_chance P g a0 a1 a2 = some (Sum.inl kd, g')) : XCon l D cs ad al adK adV yX11_chance cX11_chance 7 (some .int) (rA 14 1 6) [.ref (ad 0), .int a0, .int a1, .int a2] P g kd g' := by
  refine XCon.of hst (by decide) (Nat.le_of_ble_eq_true rfl) ?_
  intro p e s m args below meth c A ls H locs C hT h hl
  have hx := C.1
  have hb := C.2.1
  have C : MCx p s m args meth c A RX11 cX11_chance 7 (some .int) D cs := C
  have hl : lv_has ls 7 [(0, .ref (ad 0)), (1, .int a0), (2, .int a1), (3, .int a2)] := hl
  unfold fX11_chance at hf
  refine lv_aload_n hx hb dX11_chance_0 rfl (lv_at hl 0 rfl) ?_
  refine lv_iload_n hx hb dX11_chance_1 rfl (lv_at hl 1 rfl) ?_
  replace hf := bndx_cases hf
  rcases hf with hc | hf
  · exact t_callV [.int a0] C hT h cv_X11_113 (tX11_needMember hT.2.2.2.2 hc) rfl ⟨rfl, rfl⟩ ⟨Nat.le_of_ble_eq_true rfl, Nat.le_of_ble_eq_true rfl⟩ (rv_X11 C h) hl.1 rfl (Nat.le_of_ble_eq_true rfl) ⟨Nat.le_refl 1, Nat.le_refl 6⟩ dX11_chance_2
  obtain ⟨x5, g6, hc, hf⟩ := hf
  refine m_callVv [.int a0] C h cv_X11_113 (qX11_needMember hc) rfl ⟨rfl, rfl⟩ ⟨Nat.le_of_ble_eq_true rfl, Nat.le_of_ble_eq_true rfl⟩ (rv_X11 C h) hl.1 rfl (Nat.le_of_ble_eq_true rfl) ⟨Nat.zero_le _, Nat.zero_le _⟩ dX11_chance_2 (fun H locs h => ?_)
  clear hc
  refine lv_aload_n hx hb dX11_chance_5 rfl (lv_at hl 0 rfl) ?_
  refine lv_iload_n hx hb dX11_chance_6 rfl (lv_at hl 2 rfl) ?_
  replace hf := bndx_cases hf
  rcases hf with hc | hf
  · exact t_callV [.int a1] C hT h cv_X11_339 (tX11_needChances hT.2.2.2.2 hc) rfl ⟨rfl, rfl⟩ ⟨Nat.le_of_ble_eq_true rfl, Nat.le_of_ble_eq_true rfl⟩ (rv_X11 C h) hl.1 rfl (Nat.le_of_ble_eq_true rfl) ⟨Nat.le_refl 1, Nat.le_refl 6⟩ dX11_chance_7
  obtain ⟨x7, g8, hc, hf⟩ := hf
  refine m_callVv [.int a1] C h cv_X11_339 (qX11_needChances hc) rfl ⟨rfl, rfl⟩ ⟨Nat.le_of_ble_eq_true rfl, Nat.le_of_ble_eq_true rfl⟩ (rv_X11 C h) hl.1 rfl (Nat.le_of_ble_eq_true rfl) ⟨Nat.zero_le _, Nat.zero_le _⟩ dX11_chance_7 (fun H locs h => ?_)
  clear hc
  refine lv_iload_n hx hb dX11_chance_10 rfl (lv_at hl 3 rfl) ?_
  refine lv_if_eq (tgt := 30) hx hb dX11_chance_11 (by decide) (fun hq => ?_) (fun hq => ?_)
  · replace hf := if_t hq hf
    clear hq
    exact uX11_chance_30 (P := P) C hT g8 a0 a1 a2 hf H locs ls h (lv_sub hl [0, 1, 2, 3] rfl)
  · replace hf := if_f hq hf
    clear hq
    refine lv_iload_n hx hb dX11_chance_14 rfl (lv_at hl 3 rfl) ?_
    refine lv_iconst (v := (1 : Int32)) hx hb dX11_chance_15 (by decide) ?_
    refine lv_icmp_eq (tgt := 30) hx hb dX11_chance_16 (by decide) (fun hq => ?_) (fun hq => ?_)
    · replace hf := if_t hq hf
      clear hq
      exact uX11_chance_30 (P := P) C hT g8 a0 a1 a2 hf H locs ls h (lv_sub hl [0, 1, 2, 3] rfl)
    · replace hf := if_f hq hf
      clear hq
      obtain ⟨e1, e2⟩ := xl_inj hf
      subst e1 e2
      exact t_throwW (i := 32) 1 (by decide) (by decide) C hT h tb_9_4 tb_9_5 (by decide) rfl rfl hl.1 dX11_chance_19 dX11_chance_22 dX11_chance_23 dX11_chance_26 dX11_chance_29 (Nat.le_of_ble_eq_true rfl) (Nat.le_of_ble_eq_true rfl) (Nat.le_refl 1) (Nat.le_refl 6)

set_option maxHeartbeats 4000000 in
set_option maxRecDepth 100000 in
theorem uX11_likeliest_20 (C : MCx p s m args meth c A RX11 cX11_likeliest 5 (some .int) D cs) (hT : TC l s args c adK adV A)  {kd : Nat} {g' : CS}  : ∀ (n : Nat) (g : CS) (y2 : Int32) (y3 : Int32) (y4 : Int32), fX11_likeliest_20 P n g y2 y3 y4 = some (Sum.inl kd, g') → ∀ (H : Heap) (locs : List Loc) (ls : Array Slot), MH D (SW cs ad al P g) A s H locs → lv_has ls 5 [(0, .ref (ad 0)), (2, .int y2), (3, .int y3), (4, .int y4)] → W p l e (rA 14 1 6) s m args below meth c H locs 0 0 (vx_MQ below QF (XP D cs ad al P kd g' A) args s 1 6 A) (F0 m 20 ls []) := by
  have hx := C.1
  have hb := C.2.1
  intro n
  induction n with
  | zero =>
    intro g y2 y3 y4 hf
    exact absurd hf (by simp [fX11_likeliest_20])
  | succ n ih =>
    intro g y2 y3 y4 hf H locs ls h hl
    rw [fX11_likeliest_20] at hf
    refine lv_iload hx hb dX11_likeliest_20 (lv_at hl 3 rfl) ?_
    refine lv_aload_n hx hb dX11_likeliest_22 rfl (lv_at hl 0 rfl) ?_
    refine xg_X11 5 C h (by decide) tb_2_3 rfl rfl dX11_likeliest_23 ?_
    refine xg_X6 1 (by simp [okS, okT, ok6]) C h (by decide) tb_43_11 rfl rfl dX11_likeliest_26 ?_
    refine lv_icmp_ge (tgt := 66) hx hb dX11_likeliest_29 (by decide) (fun hq => ?_) (fun hq => ?_)
    · replace hf := if_t hq hf
      clear hq
      refine lv_iload_n hx hb dX11_likeliest_66 rfl (lv_at hl 1 rfl) ?_
      exact (xr_l hf).elim
    · replace hf := if_f hq hf
      clear hq
      refine lv_aload_n hx hb dX11_likeliest_32 rfl (lv_at hl 0 rfl) ?_
      refine xg_X11 11 C h (by decide) tb_2_20 rfl rfl dX11_likeliest_33 ?_
      refine xg_X5 6 C h (by decide) tb_65_4 rfl rfl dX11_likeliest_36 ?_
      refine lv_iload hx hb dX11_likeliest_39 (lv_at hl 3 rfl) ?_
      replace hf := chk_some hf
      obtain ⟨hq, hf⟩ := hf
      refine yl_26 C h hq dX11_likeliest_41 ?_
      clear hq
      refine lv_iload_n hx hb dX11_likeliest_42 rfl (lv_at hl 2 rfl) ?_
      refine lv_icmp_le (tgt := 60) hx hb dX11_likeliest_43 (by decide) (fun hq => ?_) (fun hq => ?_)
      · replace hf := if_t hq hf
        clear hq
        obtain ⟨x1, ex1⟩ : ∃ z : Int32, z = y4 + (1 : Int32) := ⟨_, rfl⟩
        replace hf := bnd_at ex1 hf
        refine lv_iinc (v := x1) (lv' := [(4, .int x1), (0, .ref (ad 0)), (2, .int y2), (3, .int y3)]) hx hb dX11_likeliest_60 hl (k := 3) rfl (by rw [ex1]; rfl) (by decide) rfl (fun ls hl => ?_)
        clear ex1
        refine lv_goto (tgt := 20) hx hb dX11_likeliest_63 (by decide) ?_
        exact ih g y2 y3 x1 hf H locs ls h (lv_sub hl [1, 2, 3, 0] rfl)
      · replace hf := if_f hq hf
        clear hq
        refine lv_aload_n hx hb dX11_likeliest_46 rfl (lv_at hl 0 rfl) ?_
        refine xg_X11 11 C h (by decide) tb_2_20 rfl rfl dX11_likeliest_47 ?_
        refine xg_X5 6 C h (by decide) tb_65_4 rfl rfl dX11_likeliest_50 ?_
        refine lv_iload hx hb dX11_likeliest_53 (lv_at hl 3 rfl) ?_
        replace hf := chk_some hf
        obtain ⟨hq, hf⟩ := hf
        refine yl_26 C h hq dX11_likeliest_55 ?_
        clear hq
        refine lv_topi (fun x2 ex2 => ?_)
        replace hf := bnd_at ex2 hf
        clear ex2
        refine lv_istore_n (lv' := [(3, .int x2), (0, .ref (ad 0)), (2, .int y2), (4, .int y4)]) hx hb dX11_likeliest_56 rfl hl (by decide) rfl (fun ls hl => ?_)
        refine lv_iload hx hb dX11_likeliest_57 (lv_at hl 3 rfl) ?_
        refine lv_istore_n (lv' := [(2, .int y4), (3, .int x2), (0, .ref (ad 0)), (4, .int y4)]) hx hb dX11_likeliest_59 rfl hl (by decide) rfl (fun ls hl => ?_)
        obtain ⟨x3, ex3⟩ : ∃ z : Int32, z = y4 + (1 : Int32) := ⟨_, rfl⟩
        replace hf := bnd_at ex3 hf
        refine lv_iinc (v := x3) (lv' := [(4, .int x3), (2, .int y4), (3, .int x2), (0, .ref (ad 0))]) hx hb dX11_likeliest_60 hl (k := 3) rfl (by rw [ex3]; rfl) (by decide) rfl (fun ls hl => ?_)
        clear ex3
        refine lv_goto (tgt := 20) hx hb dX11_likeliest_63 (by decide) ?_
        exact ih g y4 x2 x3 hf H locs ls h (lv_sub hl [3, 1, 2, 0] rfl)

set_option maxHeartbeats 4000000 in
set_option maxRecDepth 100000 in
theorem tX11_likeliest {l : Launch} {D : va_G} {cs : Nat → ClassId} {ad al adK adV : Nat → Nat} {P : PL} (hst : l.stackTraces = false) {kd : Nat} {g' : CS} {g : CS}  {a0 : Int32} (hf : fX11_likeliest P g a0 = some (Sum.inl kd, g')) : XCon l D cs ad al adK adV yX11_likeliest cX11_likeliest 5 (some .int) (rA 14 1 6) [.ref (ad 0), .int a0] P g kd g' := by
  refine XCon.of hst (by decide) (Nat.le_of_ble_eq_true rfl) ?_
  intro p e s m args below meth c A ls H locs C hT h hl
  have hx := C.1
  have hb := C.2.1
  have C : MCx p s m args meth c A RX11 cX11_likeliest 5 (some .int) D cs := C
  have hl : lv_has ls 5 [(0, .ref (ad 0)), (1, .int a0)] := hl
  unfold fX11_likeliest at hf
  refine lv_aload_n hx hb dX11_likeliest_0 rfl (lv_at hl 0 rfl) ?_
  refine lv_iload_n hx hb dX11_likeliest_1 rfl (lv_at hl 1 rfl) ?_
  replace hf := bndx_cases hf
  rcases hf with hc | hf
  · exact t_callV [.int a0] C hT h cv_X11_339 (tX11_needChances hT.2.2.2.2 hc) rfl ⟨rfl, rfl⟩ ⟨Nat.le_of_ble_eq_true rfl, Nat.le_of_ble_eq_true rfl⟩ (rv_X11 C h) hl.1 rfl (Nat.le_of_ble_eq_true rfl) ⟨Nat.le_refl 1, Nat.le_refl 6⟩ dX11_likeliest_2
  obtain ⟨x4, g5, hc, hf⟩ := hf
  refine m_callVv [.int a0] C h cv_X11_339 (qX11_needChances hc) rfl ⟨rfl, rfl⟩ ⟨Nat.le_of_ble_eq_true rfl, Nat.le_of_ble_eq_true rfl⟩ (rv_X11 C h) hl.1 rfl (Nat.le_of_ble_eq_true rfl) ⟨Nat.zero_le _, Nat.zero_le _⟩ dX11_likeliest_2 (fun H locs h => ?_)
  clear hc
  refine lv_aload_n hx hb dX11_likeliest_5 rfl (lv_at hl 0 rfl) ?_
  refine xg_X11 11 C h (by decide) tb_2_20 rfl rfl dX11_likeliest_6 ?_
  refine lv_iload_n hx hb dX11_likeliest_9 rfl (lv_at hl 1 rfl) ?_
  replace hf := bndv_some hf
  obtain ⟨g6, hc, hf⟩ := hf
  refine m_callVv [.int a0] C h cv_X11_344 (qX5_scatter hc) rfl ⟨rfl, rfl⟩ ⟨Nat.le_of_ble_eq_true rfl, Nat.le_of_ble_eq_true rfl⟩ (rv_X5 C h) hl.1 rfl (Nat.le_of_ble_eq_true rfl) ⟨Nat.zero_le _, Nat.zero_le _⟩ dX11_likeliest_10 (fun H locs h => ?_)
  clear hc
  refine lv_iconst (v := (-1 : Int32)) hx hb dX11_likeliest_13 (by decide) ?_
  refine lv_istore_n (lv' := [(2, .int (-1 : Int32)), (0, .ref (ad 0)), (1, .int a0)]) hx hb dX11_likeliest_14 rfl hl (by decide) rfl (fun ls hl => ?_)
  refine lv_iconst (v := (0 : Int32)) hx hb dX11_likeliest_15 (by decide) ?_
  refine lv_istore_n (lv' := [(3, .int (0 : Int32)), (2, .int (-1 : Int32)), (0, .ref (ad 0)), (1, .int a0)]) hx hb dX11_likeliest_16 rfl hl (by decide) rfl (fun ls hl => ?_)
  refine lv_iconst (v := (0 : Int32)) hx hb dX11_likeliest_17 (by decide) ?_
  refine lv_istore (lv' := [(4, .int (0 : Int32)), (3, .int (0 : Int32)), (2, .int (-1 : Int32)), (0, .ref (ad 0)), (1, .int a0)]) hx hb dX11_likeliest_18 hl (by decide) rfl (fun ls hl => ?_)
  exact uX11_likeliest_20 (P := P) C hT fuel g6 (-1 : Int32) (0 : Int32) (0 : Int32) hf H locs ls h (lv_sub hl [3, 2, 1, 0] rfl)

set_option maxHeartbeats 4000000 in
set_option maxRecDepth 100000 in
theorem tX11_tray {l : Launch} {D : va_G} {cs : Nat → ClassId} {ad al adK adV : Nat → Nat} {P : PL} (hst : l.stackTraces = false) {kd : Nat} {g' : CS} {g : CS}  {a0 : Int32} {a1 : Int32} {a2 : Int32} (hf : fX11_tray P g a0 a1 a2 = some (Sum.inl kd, g')) : XCon l D cs ad al adK adV yX11_tray cX11_tray 4 none (rA 6 1 6) [.ref (ad 0), .int a0, .int a1, .int a2] P g kd g' := by
  refine XCon.of hst (by decide) (Nat.le_of_ble_eq_true rfl) ?_
  intro p e s m args below meth c A ls H locs C hT h hl
  have hx := C.1
  have hb := C.2.1
  have C : MCx p s m args meth c A RX11 cX11_tray 4 none D cs := C
  have hl : lv_has ls 4 [(0, .ref (ad 0)), (1, .int a0), (2, .int a1), (3, .int a2)] := hl
  unfold fX11_tray at hf
  refine lv_iload_n hx hb dX11_tray_0 rfl (lv_at hl 1 rfl) ?_
  refine lv_if_lt (tgt := 9) hx hb dX11_tray_1 (by decide) (fun hq => ?_) (fun hq => ?_)
  · replace hf := if_t hq hf
    clear hq
    obtain ⟨e1, e2⟩ := xl_inj hf
    subst e1 e2
    exact t_throwW (i := 22) 2 (by decide) (by decide) C hT h tb_26_0 tb_26_1 (by decide) rfl rfl hl.1 dX11_tray_9 dX11_tray_12 dX11_tray_13 dX11_tray_16 dX11_tray_19 (Nat.le_of_ble_eq_true rfl) (Nat.le_of_ble_eq_true rfl) (Nat.le_refl 1) (Nat.le_refl 6)
  · replace hf := if_f hq hf
    clear hq
    refine lv_iload_n hx hb dX11_tray_4 rfl (lv_at hl 1 rfl) ?_
    refine lv_iconst (v := (4 : Int32)) hx hb dX11_tray_5 (by decide) ?_
    refine lv_icmp_lt (tgt := 20) hx hb dX11_tray_6 (by decide) (fun hq => ?_) (fun hq => ?_)
    · replace hf := if_t hq hf
      clear hq
      refine lv_iload_n hx hb dX11_tray_20 rfl (lv_at hl 2 rfl) ?_
      refine lv_if_lt (tgt := 39) hx hb dX11_tray_21 (by decide) (fun hq => ?_) (fun hq => ?_)
      · replace hf := if_t hq hf
        clear hq
        obtain ⟨e1, e2⟩ := xl_inj hf
        subst e1 e2
        exact t_throwW (i := 33) 1 (by decide) (by decide) C hT h tb_9_4 tb_9_5 (by decide) rfl rfl hl.1 dX11_tray_39 dX11_tray_42 dX11_tray_43 dX11_tray_46 dX11_tray_49 (Nat.le_of_ble_eq_true rfl) (Nat.le_of_ble_eq_true rfl) (Nat.le_refl 1) (Nat.le_refl 6)
      · replace hf := if_f hq hf
        clear hq
        refine lv_iload_n hx hb dX11_tray_24 rfl (lv_at hl 2 rfl) ?_
        refine lv_iconst (v := (3 : Int32)) hx hb dX11_tray_25 (by decide) ?_
        refine lv_icmp_gt (tgt := 39) hx hb dX11_tray_26 (by decide) (fun hq => ?_) (fun hq => ?_)
        · replace hf := if_t hq hf
          clear hq
          obtain ⟨e1, e2⟩ := xl_inj hf
          subst e1 e2
          exact t_throwW (i := 33) 1 (by decide) (by decide) C hT h tb_9_4 tb_9_5 (by decide) rfl rfl hl.1 dX11_tray_39 dX11_tray_42 dX11_tray_43 dX11_tray_46 dX11_tray_49 (Nat.le_of_ble_eq_true rfl) (Nat.le_of_ble_eq_true rfl) (Nat.le_refl 1) (Nat.le_refl 6)
        · replace hf := if_f hq hf
          clear hq
          refine lv_iload_n hx hb dX11_tray_29 rfl (lv_at hl 3 rfl) ?_
          refine lv_if_lt (tgt := 39) hx hb dX11_tray_30 (by decide) (fun hq => ?_) (fun hq => ?_)
          · replace hf := if_t hq hf
            clear hq
            obtain ⟨e1, e2⟩ := xl_inj hf
            subst e1 e2
            exact t_throwW (i := 33) 1 (by decide) (by decide) C hT h tb_9_4 tb_9_5 (by decide) rfl rfl hl.1 dX11_tray_39 dX11_tray_42 dX11_tray_43 dX11_tray_46 dX11_tray_49 (Nat.le_of_ble_eq_true rfl) (Nat.le_of_ble_eq_true rfl) (Nat.le_refl 1) (Nat.le_refl 6)
          · replace hf := if_f hq hf
            clear hq
            refine lv_iload_n hx hb dX11_tray_33 rfl (lv_at hl 3 rfl) ?_
            refine lv_bipush (v := (30 : Int32)) hx hb dX11_tray_34 (by decide) ?_
            refine lv_icmp_le (tgt := 50) hx hb dX11_tray_36 (by decide) (fun hq => ?_) (fun hq => ?_)
            · replace hf := if_t hq hf
              clear hq
              refine lv_aload_n hx hb dX11_tray_50 rfl (lv_at hl 0 rfl) ?_
              refine xg_X11 8 C h (by decide) tb_2_7 rfl rfl dX11_tray_51 ?_
              refine lv_iload_n hx hb dX11_tray_54 rfl (lv_at hl 1 rfl) ?_
              replace hf := chk_some hf
              obtain ⟨hq, hf⟩ := hf
              refine yr_3 C h hq dX11_tray_55 ?_
              clear hq
              obtain ⟨o1, eo1⟩ : ∃ z : Nat, z = 50 + ix a0 := ⟨_, rfl⟩
              replace hf := bnd_at eo1 hf
              rw [← eo1]
              clear eo1
              replace hf := chk_some hf
              obtain ⟨hq, hf⟩ := hf
              have hn_o1 := okTb_t hq
              clear hq
              refine lv_iload_n hx hb dX11_tray_56 rfl (lv_at hl 2 rfl) ?_
              refine lv_iload_n hx hb dX11_tray_57 rfl (lv_at hl 3 rfl) ?_
              replace hf := bndv_some hf
              obtain ⟨g2, hc, hf⟩ := hf
              refine m_callVv [.int a1, .int a2] C h cv_X11_363 (qX9_clearTo hn_o1 hc) rfl ⟨rfl, rfl⟩ ⟨Nat.le_of_ble_eq_true rfl, Nat.le_of_ble_eq_true rfl⟩ (rv_X9 hn_o1 C h) hl.1 rfl (Nat.le_of_ble_eq_true rfl) ⟨Nat.zero_le _, Nat.zero_le _⟩ dX11_tray_58 (fun H locs h => ?_)
              clear hc
              exact (xr_l hf).elim
            · replace hf := if_f hq hf
              clear hq
              obtain ⟨e1, e2⟩ := xl_inj hf
              subst e1 e2
              exact t_throwW (i := 33) 1 (by decide) (by decide) C hT h tb_9_4 tb_9_5 (by decide) rfl rfl hl.1 dX11_tray_39 dX11_tray_42 dX11_tray_43 dX11_tray_46 dX11_tray_49 (Nat.le_of_ble_eq_true rfl) (Nat.le_of_ble_eq_true rfl) (Nat.le_refl 1) (Nat.le_refl 6)
    · replace hf := if_f hq hf
      clear hq
      obtain ⟨e1, e2⟩ := xl_inj hf
      subst e1 e2
      exact t_throwW (i := 22) 2 (by decide) (by decide) C hT h tb_26_0 tb_26_1 (by decide) rfl rfl hl.1 dX11_tray_9 dX11_tray_12 dX11_tray_13 dX11_tray_16 dX11_tray_19 (Nat.le_of_ble_eq_true rfl) (Nat.le_of_ble_eq_true rfl) (Nat.le_refl 1) (Nat.le_refl 6)

set_option maxHeartbeats 4000000 in
set_option maxRecDepth 100000 in
theorem tX11_write {l : Launch} {D : va_G} {cs : Nat → ClassId} {ad al adK adV : Nat → Nat} {P : PL} (hst : l.stackTraces = false) {kd : Nat} {g' : CS} {g : CS}  {a0 : Int32} {a1 : Int32} {a2 : Int64} (hf : fX11_write P g a0 a1 a2 = some (Sum.inl kd, g')) : XCon l D cs ad al adK adV yX11_write cX11_write 6 (some .long) (rA 7 1 6) [.ref (ad 0), .int a0, .int a1, .long a2] P g kd g' := by
  refine XCon.of hst (by decide) (Nat.le_of_ble_eq_true rfl) ?_
  intro p e s m args below meth c A ls H locs C hT h hl
  have hx := C.1
  have hb := C.2.1
  have C : MCx p s m args meth c A RX11 cX11_write 6 (some .long) D cs := C
  have hl : lv_has ls 6 [(0, .ref (ad 0)), (1, .int a0), (2, .int a1), (3, .long a2)] := hl
  unfold fX11_write at hf
  refine lv_aload_n hx hb dX11_write_0 rfl (lv_at hl 0 rfl) ?_
  refine lv_iload_n hx hb dX11_write_1 rfl (lv_at hl 1 rfl) ?_
  replace hf := bndx_cases hf
  rcases hf with hc | hf
  · exact t_callV [.int a0] C hT h cv_X11_187 (tX11_needTray hT.2.2.2.2 hc) rfl ⟨rfl, rfl⟩ ⟨Nat.le_of_ble_eq_true rfl, Nat.le_of_ble_eq_true rfl⟩ (rv_X11 C h) hl.1 rfl (Nat.le_of_ble_eq_true rfl) ⟨Nat.le_refl 1, Nat.le_refl 6⟩ dX11_write_2
  obtain ⟨o1, g2, hc, hf⟩ := hf
  refine m_callVr [.int a0] C h cv_X11_187 (qX11_needTray hc) rfl ⟨rfl, rfl⟩ ⟨Nat.le_of_ble_eq_true rfl, Nat.le_of_ble_eq_true rfl⟩ (rv_X11 C h) hl.1 rfl (Nat.le_of_ble_eq_true rfl) ⟨Nat.zero_le _, Nat.zero_le _⟩ dX11_write_2 (fun H locs h => ?_)
  clear hc
  replace hf := chk_some hf
  obtain ⟨hq, hf⟩ := hf
  have hn_o1 := okTb_t hq
  clear hq
  refine lv_astore (lv' := [(5, .ref (ad o1)), (0, .ref (ad 0)), (1, .int a0), (2, .int a1), (3, .long a2)]) hx hb dX11_write_5 hl (by decide) rfl (fun ls hl => ?_)
  refine lv_iload_n hx hb dX11_write_7 rfl (lv_at hl 3 rfl) ?_
  refine lv_if_lt (tgt := 20) hx hb dX11_write_8 (by decide) (fun hq => ?_) (fun hq => ?_)
  · replace hf := if_t hq hf
    clear hq
    obtain ⟨e1, e2⟩ := xl_inj hf
    subst e1 e2
    exact t_throwW (i := 34) 4 (by decide) (by decide) C hT h tb_68_8 tb_68_9 (by decide) rfl rfl hl.1 dX11_write_20 dX11_write_23 dX11_write_24 dX11_write_27 dX11_write_30 (Nat.le_of_ble_eq_true rfl) (Nat.le_of_ble_eq_true rfl) (Nat.le_refl 1) (Nat.le_refl 6)
  · replace hf := if_f hq hf
    clear hq
    refine lv_iload_n hx hb dX11_write_11 rfl (lv_at hl 3 rfl) ?_
    refine lv_aload hx hb dX11_write_12 (lv_at hl 0 rfl) ?_
    refine xg_X9 0 hn_o1 C h (by decide) tb_38_23 rfl rfl dX11_write_14 ?_
    refine lv_icmp_lt (tgt := 31) hx hb dX11_write_17 (by decide) (fun hq => ?_) (fun hq => ?_)
    · replace hf := if_t hq hf
      clear hq
      refine lv_aload hx hb dX11_write_31 (lv_at hl 0 rfl) ?_
      refine lv_iload_n hx hb dX11_write_33 rfl (lv_at hl 3 rfl) ?_
      refine lv_lload_n hx hb dX11_write_34 rfl (lv_at hl 4 rfl) ?_
      replace hf := bndc_some hf
      obtain ⟨x3, g4, hc, hf⟩ := hf
      refine m_callVl [.int a1, .long a2] C h cv_X11_371 (qX9_put hn_o1 hc) rfl ⟨rfl, rfl⟩ ⟨Nat.le_of_ble_eq_true rfl, Nat.le_of_ble_eq_true rfl⟩ (rv_X9 hn_o1 C h) hl.1 rfl (Nat.le_of_ble_eq_true rfl) ⟨Nat.zero_le _, Nat.zero_le _⟩ dX11_write_35 (fun H locs h => ?_)
      clear hc
      exact (xr_l hf).elim
    · replace hf := if_f hq hf
      clear hq
      obtain ⟨e1, e2⟩ := xl_inj hf
      subst e1 e2
      exact t_throwW (i := 34) 4 (by decide) (by decide) C hT h tb_68_8 tb_68_9 (by decide) rfl rfl hl.1 dX11_write_20 dX11_write_23 dX11_write_24 dX11_write_27 dX11_write_30 (Nat.le_of_ble_eq_true rfl) (Nat.le_of_ble_eq_true rfl) (Nat.le_refl 1) (Nat.le_refl 6)

set_option maxHeartbeats 4000000 in
set_option maxRecDepth 100000 in
theorem uX11_copy_43 (C : MCx p s m args meth c A RX11 cX11_copy 7 (some .int) D cs) (hT : TC l s args c adK adV A)  {kd : Nat} {g' : CS}  : ∀ (n : Nat) (g : CS) (y3 : Nat) (y4 : Int32) (y5 : Int32) (y6 : Int32), okT y3 → fX11_copy_43 P n g y3 y4 y5 y6 = some (Sum.inl kd, g') → ∀ (H : Heap) (locs : List Loc) (ls : Array Slot), MH D (SW cs ad al P g) A s H locs → lv_has ls 7 [(3, .ref (ad y3)), (4, .int y4), (5, .int y5), (6, .int y6)] → W p l e (rA 7 1 6) s m args below meth c H locs 0 0 (vx_MQ below QF (XP D cs ad al P kd g' A) args s 1 6 A) (F0 m 43 ls []) := by
  have hx := C.1
  have hb := C.2.1
  intro n
  induction n with
  | zero =>
    intro g y3 y4 y5 y6 hn_y3 hf
    exact absurd hf (by simp [fX11_copy_43])
  | succ n ih =>
    intro g y3 y4 y5 y6 hn_y3 hf H locs ls h hl
    rw [fX11_copy_43] at hf
    refine lv_iload hx hb dX11_copy_43 (lv_at hl 3 rfl) ?_
    refine lv_iload hx hb dX11_copy_45 (lv_at hl 2 rfl) ?_
    refine lv_icmp_ge (tgt := 71) hx hb dX11_copy_47 (by decide) (fun hq => ?_) (fun hq => ?_)
    · replace hf := if_t hq hf
      clear hq
      refine lv_iload hx hb dX11_copy_71 (lv_at hl 2 rfl) ?_
      exact (xr_l hf).elim
    · replace hf := if_f hq hf
      clear hq
      refine lv_aload_n hx hb dX11_copy_50 rfl (lv_at hl 0 rfl) ?_
      refine lv_iload hx hb dX11_copy_51 (lv_at hl 3 rfl) ?_
      refine lv_iload hx hb dX11_copy_53 (lv_at hl 1 rfl) ?_
      refine lv_iload hx hb dX11_copy_55 (lv_at hl 3 rfl) ?_
      replace hf := bndv_some hf
      obtain ⟨x1, hc, hf⟩ := hf
      refine m_callSi [.int y4, .int y6] C h cs_X11_119 (qX1_at hc) rfl ⟨rfl, rfl⟩ ⟨Nat.le_of_ble_eq_true rfl, Nat.le_of_ble_eq_true rfl⟩ hl.1 rfl (Nat.le_of_ble_eq_true rfl) ⟨Nat.zero_le _, Nat.zero_le _⟩ dX11_copy_57 (fun H locs h => ?_)
      clear hc
      refine lv_i2l hx hb dX11_copy_60 rfl ?_
      replace hf := bndc_some hf
      obtain ⟨x2, g3, hc, hf⟩ := hf
      refine m_callVl [.int y6, .long x1.toInt64] C h cv_X11_371 (qX9_put hn_y3 hc) rfl ⟨rfl, rfl⟩ ⟨Nat.le_of_ble_eq_true rfl, Nat.le_of_ble_eq_true rfl⟩ (rv_X9 hn_y3 C h) hl.1 rfl (Nat.le_of_ble_eq_true rfl) ⟨Nat.zero_le _, Nat.zero_le _⟩ dX11_copy_61 (fun H locs h => ?_)
      clear hc
      refine lv_pop2_2 hx hb dX11_copy_64 rfl ?_
      obtain ⟨x4, ex4⟩ : ∃ z : Int32, z = y6 + (1 : Int32) := ⟨_, rfl⟩
      replace hf := bnd_at ex4 hf
      refine lv_iinc (v := x4) (lv' := [(6, .int x4), (3, .ref (ad y3)), (4, .int y4), (5, .int y5)]) hx hb dX11_copy_65 hl (k := 3) rfl (by rw [ex4]; rfl) (by decide) rfl (fun ls hl => ?_)
      clear ex4
      refine lv_goto (tgt := 43) hx hb dX11_copy_68 (by decide) ?_
      exact ih g3 y3 y4 y5 x4 hn_y3 hf H locs ls h (lv_sub hl [1, 2, 3, 0] rfl)

set_option maxHeartbeats 4000000 in
set_option maxRecDepth 100000 in
theorem tX11_copy {l : Launch} {D : va_G} {cs : Nat → ClassId} {ad al adK adV : Nat → Nat} {P : PL} (hst : l.stackTraces = false) {kd : Nat} {g' : CS} {g : CS}  {a0 : Int32} {a1 : Int32} (hf : fX11_copy P g a0 a1 = some (Sum.inl kd, g')) : XCon l D cs ad al adK adV yX11_copy cX11_copy 7 (some .int) (rA 7 1 6) [.ref (ad 0), .int a0, .int a1] P g kd g' := by
  refine XCon.of hst (by decide) (Nat.le_of_ble_eq_true rfl) ?_
  intro p e s m args below meth c A ls H locs C hT h hl
  have hx := C.1
  have hb := C.2.1
  have C : MCx p s m args meth c A RX11 cX11_copy 7 (some .int) D cs := C
  have hl : lv_has ls 7 [(0, .ref (ad 0)), (1, .int a0), (2, .int a1)] := hl
  unfold fX11_copy at hf
  refine lv_aload_n hx hb dX11_copy_0 rfl (lv_at hl 0 rfl) ?_
  refine lv_iload_n hx hb dX11_copy_1 rfl (lv_at hl 1 rfl) ?_
  replace hf := bndx_cases hf
  rcases hf with hc | hf
  · exact t_callV [.int a0] C hT h cv_X11_187 (tX11_needTray hT.2.2.2.2 hc) rfl ⟨rfl, rfl⟩ ⟨Nat.le_of_ble_eq_true rfl, Nat.le_of_ble_eq_true rfl⟩ (rv_X11 C h) hl.1 rfl (Nat.le_of_ble_eq_true rfl) ⟨Nat.le_refl 1, Nat.le_refl 6⟩ dX11_copy_2
  obtain ⟨o5, g6, hc, hf⟩ := hf
  refine m_callVr [.int a0] C h cv_X11_187 (qX11_needTray hc) rfl ⟨rfl, rfl⟩ ⟨Nat.le_of_ble_eq_true rfl, Nat.le_of_ble_eq_true rfl⟩ (rv_X11 C h) hl.1 rfl (Nat.le_of_ble_eq_true rfl) ⟨Nat.zero_le _, Nat.zero_le _⟩ dX11_copy_2 (fun H locs h => ?_)
  clear hc
  replace hf := chk_some hf
  obtain ⟨hq, hf⟩ := hf
  have hn_o5 := okTb_t hq
  clear hq
  refine lv_astore_n (lv' := [(3, .ref (ad o5)), (0, .ref (ad 0)), (1, .int a0), (2, .int a1)]) hx hb dX11_copy_5 rfl hl (by decide) rfl (fun ls hl => ?_)
  refine lv_aload_n hx hb dX11_copy_6 rfl (lv_at hl 1 rfl) ?_
  refine lv_iload_n hx hb dX11_copy_7 rfl (lv_at hl 3 rfl) ?_
  refine lv_ldcw hx hb C.2.2.2.1 (C.2.2.2.2.1 _ tb_59_23) dX11_copy_8 ?_
  replace hf := bndx_cases hf
  rcases hf with hc | hf
  · exact t_callV [.int a1, .int (99999 : Int32)] C hT h cv_X11_319 (tX11_needMinutes hT.2.2.2.2 hc) rfl ⟨rfl, rfl⟩ ⟨Nat.le_of_ble_eq_true rfl, Nat.le_of_ble_eq_true rfl⟩ (rv_X11 C h) hl.1 rfl (Nat.le_of_ble_eq_true rfl) ⟨Nat.le_refl 1, Nat.le_refl 6⟩ dX11_copy_11
  obtain ⟨x7, g8, hc, hf⟩ := hf
  refine m_callVv [.int a1, .int (99999 : Int32)] C h cv_X11_319 (qX11_needMinutes hc) rfl ⟨rfl, rfl⟩ ⟨Nat.le_of_ble_eq_true rfl, Nat.le_of_ble_eq_true rfl⟩ (rv_X11 C h) hl.1 rfl (Nat.le_of_ble_eq_true rfl) ⟨Nat.zero_le _, Nat.zero_le _⟩ dX11_copy_11 (fun H locs h => ?_)
  clear hc
  refine lv_aload_n hx hb dX11_copy_14 rfl (lv_at hl 1 rfl) ?_
  refine xg_X11 12 C h (by decide) tb_3_0 rfl rfl dX11_copy_15 ?_
  refine lv_iload_n hx hb dX11_copy_18 rfl (lv_at hl 3 rfl) ?_
  replace hf := bndc_some hf
  obtain ⟨x9, g10, hc, hf⟩ := hf
  refine m_callVi [.int a1] C h cv_X11_322 (qX0_lookIn hc) rfl ⟨rfl, rfl⟩ ⟨Nat.le_of_ble_eq_true rfl, Nat.le_of_ble_eq_true rfl⟩ (rv_X0 C h) hl.1 rfl (Nat.le_of_ble_eq_true rfl) ⟨Nat.zero_le _, Nat.zero_le _⟩ dX11_copy_19 (fun H locs h => ?_)
  clear hc
  refine lv_istore (lv' := [(4, .int x9), (3, .ref (ad o5)), (0, .ref (ad 0)), (1, .int a0), (2, .int a1)]) hx hb dX11_copy_22 hl (by decide) rfl (fun ls hl => ?_)
  refine lv_aload_n hx hb dX11_copy_24 rfl (lv_at hl 1 rfl) ?_
  refine xg_X9 0 hn_o5 C h (by decide) tb_38_23 rfl rfl dX11_copy_25 ?_
  refine lv_aload_n hx hb dX11_copy_28 rfl (lv_at hl 2 rfl) ?_
  refine xg_X11 5 C h (by decide) tb_2_3 rfl rfl dX11_copy_29 ?_
  refine xg_X6 1 (by simp [okS, okT, ok6]) C h (by decide) tb_43_11 rfl rfl dX11_copy_32 ?_
  refine x_min tb_69_9 C hl.1 (Nat.le_of_ble_eq_true rfl) (Nat.le_of_ble_eq_true rfl) (Nat.zero_le _) (Nat.zero_le _) dX11_copy_35 ?_
  refine lv_topi (fun x11 ex11 => ?_)
  replace hf := bnd_at ex11 hf
  clear ex11
  refine lv_istore (lv' := [(5, .int x11), (4, .int x9), (3, .ref (ad o5)), (0, .ref (ad 0)), (1, .int a0), (2, .int a1)]) hx hb dX11_copy_38 hl (by decide) rfl (fun ls hl => ?_)
  refine lv_iconst (v := (0 : Int32)) hx hb dX11_copy_40 (by decide) ?_
  refine lv_istore (lv' := [(6, .int (0 : Int32)), (5, .int x11), (4, .int x9), (3, .ref (ad o5)), (0, .ref (ad 0)), (1, .int a0), (2, .int a1)]) hx hb dX11_copy_41 hl (by decide) rfl (fun ls hl => ?_)
  exact uX11_copy_43 (P := P) C hT fuel g10 o5 x9 x11 (0 : Int32) hn_o5 hf H locs ls h (lv_sub hl [3, 2, 1, 0] rfl)

set_option maxHeartbeats 4000000 in
set_option maxRecDepth 100000 in
theorem tX11_needImage {l : Launch} {D : va_G} {cs : Nat → ClassId} {ad al adK adV : Nat → Nat} {P : PL} (hst : l.stackTraces = false) {kd : Nat} {g' : CS} {g : CS}  {a0 : Int32} (hf : fX11_needImage P g a0 = some (Sum.inl kd, g')) : XCon l D cs ad al adK adV yX11_needImage cX11_needImage 2 none (rA 6 1 6) [.ref (ad 0), .int a0] P g kd g' := by
  refine XCon.of hst (by decide) (Nat.le_of_ble_eq_true rfl) ?_
  intro p e s m args below meth c A ls H locs C hT h hl
  have hx := C.1
  have hb := C.2.1
  have C : MCx p s m args meth c A RX11 cX11_needImage 2 none D cs := C
  have hl : lv_has ls 2 [(0, .ref (ad 0)), (1, .int a0)] := hl
  unfold fX11_needImage at hf
  refine lv_iload_n hx hb dX11_needImage_0 rfl (lv_at hl 1 rfl) ?_
  refine lv_if_lt (tgt := 9) hx hb dX11_needImage_1 (by decide) (fun hq => ?_) (fun hq => ?_)
  · replace hf := if_t hq hf
    clear hq
    obtain ⟨e1, e2⟩ := xl_inj hf
    subst e1 e2
    exact t_throwW (i := 35) 2 (by decide) (by decide) C hT h tb_26_0 tb_26_1 (by decide) rfl rfl hl.1 dX11_needImage_9 dX11_needImage_12 dX11_needImage_13 dX11_needImage_16 dX11_needImage_19 (Nat.le_of_ble_eq_true rfl) (Nat.le_of_ble_eq_true rfl) (Nat.le_refl 1) (Nat.le_refl 6)
  · replace hf := if_f hq hf
    clear hq
    refine lv_iload_n hx hb dX11_needImage_4 rfl (lv_at hl 1 rfl) ?_
    refine lv_iconst (v := (3 : Int32)) hx hb dX11_needImage_5 (by decide) ?_
    refine lv_icmp_lt (tgt := 20) hx hb dX11_needImage_6 (by decide) (fun hq => ?_) (fun hq => ?_)
    · replace hf := if_t hq hf
      clear hq
      exact (xr_l hf).elim
    · replace hf := if_f hq hf
      clear hq
      obtain ⟨e1, e2⟩ := xl_inj hf
      subst e1 e2
      exact t_throwW (i := 35) 2 (by decide) (by decide) C hT h tb_26_0 tb_26_1 (by decide) rfl rfl hl.1 dX11_needImage_9 dX11_needImage_12 dX11_needImage_13 dX11_needImage_16 dX11_needImage_19 (Nat.le_of_ble_eq_true rfl) (Nat.le_of_ble_eq_true rfl) (Nat.le_refl 1) (Nat.le_refl 6)

set_option maxHeartbeats 4000000 in
set_option maxRecDepth 100000 in
theorem tX11_image {l : Launch} {D : va_G} {cs : Nat → ClassId} {ad al adK adV : Nat → Nat} {P : PL} (hst : l.stackTraces = false) {kd : Nat} {g' : CS} {g : CS}  {a0 : Int32} (hf : fX11_image P g a0 = some (Sum.inl kd, g')) : XCon l D cs ad al adK adV yX11_image cX11_image 2 none (rA 7 1 6) [.ref (ad 0), .int a0] P g kd g' := by
  refine XCon.of hst (by decide) (Nat.le_of_ble_eq_true rfl) ?_
  intro p e s m args below meth c A ls H locs C hT h hl
  have hx := C.1
  have hb := C.2.1
  have C : MCx p s m args meth c A RX11 cX11_image 2 none D cs := C
  have hl : lv_has ls 2 [(0, .ref (ad 0)), (1, .int a0)] := hl
  unfold fX11_image at hf
  refine lv_aload_n hx hb dX11_image_0 rfl (lv_at hl 0 rfl) ?_
  refine lv_iload_n hx hb dX11_image_1 rfl (lv_at hl 1 rfl) ?_
  replace hf := bndx_cases hf
  rcases hf with hc | hf
  · exact t_callV [.int a0] C hT h cv_X11_380 (tX11_needImage hT.2.2.2.2 hc) rfl ⟨rfl, rfl⟩ ⟨Nat.le_of_ble_eq_true rfl, Nat.le_of_ble_eq_true rfl⟩ (rv_X11 C h) hl.1 rfl (Nat.le_of_ble_eq_true rfl) ⟨Nat.le_refl 1, Nat.le_refl 6⟩ dX11_image_2
  obtain ⟨x1, g2, hc, hf⟩ := hf
  refine m_callVv [.int a0] C h cv_X11_380 (qX11_needImage hc) rfl ⟨rfl, rfl⟩ ⟨Nat.le_of_ble_eq_true rfl, Nat.le_of_ble_eq_true rfl⟩ (rv_X11 C h) hl.1 rfl (Nat.le_of_ble_eq_true rfl) ⟨Nat.zero_le _, Nat.zero_le _⟩ dX11_image_2 (fun H locs h => ?_)
  clear hc
  refine lv_aload_n hx hb dX11_image_5 rfl (lv_at hl 0 rfl) ?_
  refine xg_X11 7 C h (by decide) tb_2_5 rfl rfl dX11_image_6 ?_
  refine lv_iload_n hx hb dX11_image_9 rfl (lv_at hl 1 rfl) ?_
  replace hf := chk_some hf
  obtain ⟨hq, hf⟩ := hf
  refine yr_2 C h hq dX11_image_10 ?_
  clear hq
  obtain ⟨o3, eo3⟩ : ∃ z : Nat, z = 32 + ix a0 := ⟨_, rfl⟩
  replace hf := bnd_at eo3 hf
  rw [← eo3]
  clear eo3
  replace hf := chk_some hf
  obtain ⟨hq, hf⟩ := hf
  have hn_o3 := okSb_t hq
  clear hq
  refine lv_aload_n hx hb dX11_image_11 rfl (lv_at hl 0 rfl) ?_
  refine xg_X11 5 C h (by decide) tb_2_3 rfl rfl dX11_image_12 ?_
  replace hf := bndv_some hf
  obtain ⟨g4, hc, hf⟩ := hf
  refine m_callVv [.ref (ad 30)] C h cv_X11_193 (qX6_become hn_o3 (by simp [okS, okT, ok6]) hc) rfl ⟨rfl, rfl⟩ ⟨Nat.le_of_ble_eq_true rfl, Nat.le_of_ble_eq_true rfl⟩ (rv_X6 hn_o3 C h) hl.1 rfl (Nat.le_of_ble_eq_true rfl) ⟨Nat.zero_le _, Nat.zero_le _⟩ dX11_image_15 (fun H locs h => ?_)
  clear hc
  refine lv_aload_n hx hb dX11_image_18 rfl (lv_at hl 0 rfl) ?_
  refine lv_dup hx hb dX11_image_19 rfl ?_
  refine xg_X11 4 C h (by decide) tb_69_21 rfl rfl dX11_image_20 ?_
  refine lv_iconst (v := (1 : Int32)) hx hb dX11_image_23 (by decide) ?_
  refine lv_iload_n hx hb dX11_image_24 rfl (lv_at hl 1 rfl) ?_
  refine x_ishl hx hb dX11_image_25 ?_
  refine lv_ior hx hb dX11_image_26 ?_
  replace hf := bnd_ex hf
  obtain ⟨g5, eg5, hf⟩ := hf
  refine xp_X11_4 C h tb_69_21 dX11_image_27 (fun H locs h => ?_)
  rw [← eg5] at h
  clear eg5
  exact (xr_l hf).elim

set_option maxHeartbeats 4000000 in
set_option maxRecDepth 100000 in
theorem tX11_restore {l : Launch} {D : va_G} {cs : Nat → ClassId} {ad al adK adV : Nat → Nat} {P : PL} (hst : l.stackTraces = false) {kd : Nat} {g' : CS} {g : CS}  {a0 : Int32} (hf : fX11_restore P g a0 = some (Sum.inl kd, g')) : XCon l D cs ad al adK adV yX11_restore cX11_restore 2 none (rA 7 1 6) [.ref (ad 0), .int a0] P g kd g' := by
  refine XCon.of hst (by decide) (Nat.le_of_ble_eq_true rfl) ?_
  intro p e s m args below meth c A ls H locs C hT h hl
  have hx := C.1
  have hb := C.2.1
  have C : MCx p s m args meth c A RX11 cX11_restore 2 none D cs := C
  have hl : lv_has ls 2 [(0, .ref (ad 0)), (1, .int a0)] := hl
  unfold fX11_restore at hf
  refine lv_aload_n hx hb dX11_restore_0 rfl (lv_at hl 0 rfl) ?_
  refine lv_iload_n hx hb dX11_restore_1 rfl (lv_at hl 1 rfl) ?_
  replace hf := bndx_cases hf
  rcases hf with hc | hf
  · exact t_callV [.int a0] C hT h cv_X11_380 (tX11_needImage hT.2.2.2.2 hc) rfl ⟨rfl, rfl⟩ ⟨Nat.le_of_ble_eq_true rfl, Nat.le_of_ble_eq_true rfl⟩ (rv_X11 C h) hl.1 rfl (Nat.le_of_ble_eq_true rfl) ⟨Nat.le_refl 1, Nat.le_refl 6⟩ dX11_restore_2
  obtain ⟨x1, g2, hc, hf⟩ := hf
  refine m_callVv [.int a0] C h cv_X11_380 (qX11_needImage hc) rfl ⟨rfl, rfl⟩ ⟨Nat.le_of_ble_eq_true rfl, Nat.le_of_ble_eq_true rfl⟩ (rv_X11 C h) hl.1 rfl (Nat.le_of_ble_eq_true rfl) ⟨Nat.zero_le _, Nat.zero_le _⟩ dX11_restore_2 (fun H locs h => ?_)
  clear hc
  refine lv_aload_n hx hb dX11_restore_5 rfl (lv_at hl 0 rfl) ?_
  refine xg_X11 4 C h (by decide) tb_69_21 rfl rfl dX11_restore_6 ?_
  refine lv_iload_n hx hb dX11_restore_9 rfl (lv_at hl 1 rfl) ?_
  refine x_ishr hx hb dX11_restore_10 ?_
  refine lv_iconst (v := (1 : Int32)) hx hb dX11_restore_11 (by decide) ?_
  refine lv_iand hx hb dX11_restore_12 ?_
  refine lv_if_ne (tgt := 27) hx hb dX11_restore_13 (by decide) (fun hq => ?_) (fun hq => ?_)
  · replace hf := if_tn hq hf
    clear hq
    refine lv_aload_n hx hb dX11_restore_27 rfl (lv_at hl 0 rfl) ?_
    refine xg_X11 5 C h (by decide) tb_2_3 rfl rfl dX11_restore_28 ?_
    refine lv_aload_n hx hb dX11_restore_31 rfl (lv_at hl 0 rfl) ?_
    refine xg_X11 7 C h (by decide) tb_2_5 rfl rfl dX11_restore_32 ?_
    refine lv_iload_n hx hb dX11_restore_35 rfl (lv_at hl 1 rfl) ?_
    replace hf := chk_some hf
    obtain ⟨hq, hf⟩ := hf
    refine yr_2 C h hq dX11_restore_36 ?_
    clear hq
    obtain ⟨o3, eo3⟩ : ∃ z : Nat, z = 32 + ix a0 := ⟨_, rfl⟩
    replace hf := bnd_at eo3 hf
    rw [← eo3]
    clear eo3
    replace hf := chk_some hf
    obtain ⟨hq, hf⟩ := hf
    have hn_o3 := okSb_t hq
    clear hq
    replace hf := bndv_some hf
    obtain ⟨g4, hc, hf⟩ := hf
    refine m_callVv [.ref (ad o3)] C h cv_X11_193 (qX6_become (by simp [okS, okT, ok6]) hn_o3 hc) rfl ⟨rfl, rfl⟩ ⟨Nat.le_of_ble_eq_true rfl, Nat.le_of_ble_eq_true rfl⟩ (rv_X6 (by simp [okS, okT, ok6]) C h) hl.1 rfl (Nat.le_of_ble_eq_true rfl) ⟨Nat.zero_le _, Nat.zero_le _⟩ dX11_restore_37 (fun H locs h => ?_)
    clear hc
    exact (xr_l hf).elim
  · replace hf := if_t hq hf
    clear hq
    obtain ⟨e1, e2⟩ := xl_inj hf
    subst e1 e2
    exact t_throwW (i := 36) 3 (by decide) (by decide) C hT h tb_39_5 tb_39_6 (by decide) rfl rfl hl.1 dX11_restore_16 dX11_restore_19 dX11_restore_20 dX11_restore_23 dX11_restore_26 (Nat.le_of_ble_eq_true rfl) (Nat.le_of_ble_eq_true rfl) (Nat.le_refl 1) (Nat.le_refl 6)
end
