section
variable {p : Program} {l : Launch} {e : Env} {s : State} {m : MethodId} {args : Array Value} {below : List Frame} {meth : Method} {c : Code} {D : va_G} {cs : Nat → ClassId} {ad al adK adV : Nat → Nat} {P : PL} {A : Nat → Prop}
set_option maxHeartbeats 4000000 in
set_option maxRecDepth 100000 in
theorem tX11_needMember {l : Launch} {D : va_G} {cs : Nat → ClassId} {ad al adK adV : Nat → Nat} {P : PL} (hst : l.stackTraces = false) {kd : Nat} {g' : CS} {g : CS}  {a0 : Int32} (hf : fX11_needMember P g a0 = some (Sum.inl kd, g')) : XCon l D cs ad al adK adV yX11_needMember cX11_needMember 2 none (rA 6 1 6) [.ref (ad 0), .int a0] P g kd g' := by
  refine XCon.of hst (by decide) (Nat.le_of_ble_eq_true rfl) ?_
  intro p e s m args below meth c A ls H locs C hT h hl
  have hx := C.1
  have hb := C.2.1
  have C : MCx p s m args meth c A RX11 cX11_needMember 2 none D cs := C
  have hl : lv_has ls 2 [(0, .ref (ad 0)), (1, .int a0)] := hl
  unfold fX11_needMember at hf
  refine lv_aload_n hx hb dX11_needMember_0 rfl (lv_at hl 0 rfl) ?_
  refine xg_X11 5 C h (by decide) tb_2_3 rfl rfl dX11_needMember_1 ?_
  refine lv_iload_n hx hb dX11_needMember_4 rfl (lv_at hl 1 rfl) ?_
  replace hf := bndc_some hf
  obtain ⟨x1, g2, hc, hf⟩ := hf
  refine m_callVi [.int a0] C h cv_X11_162 (qX6_has (by simp [okS, okT, ok6]) hc) rfl ⟨rfl, rfl⟩ ⟨Nat.le_of_ble_eq_true rfl, Nat.le_of_ble_eq_true rfl⟩ (rv_X6 (by simp [okS, okT, ok6]) C h) hl.1 rfl (Nat.le_of_ble_eq_true rfl) ⟨Nat.zero_le _, Nat.zero_le _⟩ dX11_needMember_5 (fun H locs h => ?_)
  clear hc
  refine lv_if_ne (tgt := 22) hx hb dX11_needMember_8 (by decide) (fun hq => ?_) (fun hq => ?_)
  · replace hf := if_tn hq hf
    clear hq
    exact (xr_l hf).elim
  · replace hf := if_t hq hf
    clear hq
    obtain ⟨e1, e2⟩ := xl_inj hf
    subst e1 e2
    exact t_throwW (i := 18) 2 (by decide) (by decide) C hT h tb_26_0 tb_26_1 (by decide) rfl rfl hl.1 dX11_needMember_11 dX11_needMember_14 dX11_needMember_15 dX11_needMember_18 dX11_needMember_21 (Nat.le_of_ble_eq_true rfl) (Nat.le_of_ble_eq_true rfl) (Nat.le_refl 1) (Nat.le_refl 6)

set_option maxHeartbeats 4000000 in
set_option maxRecDepth 100000 in
theorem tX11_member {l : Launch} {D : va_G} {cs : Nat → ClassId} {ad al adK adV : Nat → Nat} {P : PL} (hst : l.stackTraces = false) {kd : Nat} {g' : CS} {g : CS}  {a0 : Int32} {a1 : Int32} (hf : fX11_member P g a0 a1 = some (Sum.inl kd, g')) : XCon l D cs ad al adK adV yX11_member cX11_member 3 (some .int) (rA 7 1 6) [.ref (ad 0), .int a0, .int a1] P g kd g' := by
  refine XCon.of hst (by decide) (Nat.le_of_ble_eq_true rfl) ?_
  intro p e s m args below meth c A ls H locs C hT h hl
  have hx := C.1
  have hb := C.2.1
  have C : MCx p s m args meth c A RX11 cX11_member 3 (some .int) D cs := C
  have hl : lv_has ls 3 [(0, .ref (ad 0)), (1, .int a0), (2, .int a1)] := hl
  unfold fX11_member at hf
  refine lv_aload_n hx hb dX11_member_0 rfl (lv_at hl 0 rfl) ?_
  refine lv_iload_n hx hb dX11_member_1 rfl (lv_at hl 1 rfl) ?_
  replace hf := bndx_cases hf
  rcases hf with hc | hf
  · exact t_callV [.int a0] C hT h cv_X11_113 (tX11_needMember hT.2.2.2.2 hc) rfl ⟨rfl, rfl⟩ ⟨Nat.le_of_ble_eq_true rfl, Nat.le_of_ble_eq_true rfl⟩ (rv_X11 C h) hl.1 rfl (Nat.le_of_ble_eq_true rfl) ⟨Nat.le_refl 1, Nat.le_refl 6⟩ dX11_member_2
  obtain ⟨x1, g2, hc, hf⟩ := hf
  refine m_callVv [.int a0] C h cv_X11_113 (qX11_needMember hc) rfl ⟨rfl, rfl⟩ ⟨Nat.le_of_ble_eq_true rfl, Nat.le_of_ble_eq_true rfl⟩ (rv_X11 C h) hl.1 rfl (Nat.le_of_ble_eq_true rfl) ⟨Nat.zero_le _, Nat.zero_le _⟩ dX11_member_2 (fun H locs h => ?_)
  clear hc
  refine lv_iload_n hx hb dX11_member_5 rfl (lv_at hl 2 rfl) ?_
  rcases Decidable.em (a1 = (0 : Int32)) with hq | q0
  · replace hf := if_t hq hf
    subst hq
    refine lv_tableIn (off := 38) (tgt := 44) hx hb dX11_member_6 (by decide) (by decide) (by decide) (by decide) ?_
    refine lv_aload_n hx hb dX11_member_44 rfl (lv_at hl 0 rfl) ?_
    refine xg_X11 5 C h (by decide) tb_2_3 rfl rfl dX11_member_45 ?_
    refine xg_X6 3 (by simp [okS, okT, ok6]) C h (by decide) tb_25_18 rfl rfl dX11_member_48 ?_
    refine lv_iload_n hx hb dX11_member_51 rfl (lv_at hl 1 rfl) ?_
    replace hf := bndv_some hf
    obtain ⟨x4, hc, hf⟩ := hf
    refine m_callSi [.int (g2.1 30 3), .int a0] C h cs_X11_119 (qX1_at hc) rfl ⟨rfl, rfl⟩ ⟨Nat.le_of_ble_eq_true rfl, Nat.le_of_ble_eq_true rfl⟩ hl.1 rfl (Nat.le_of_ble_eq_true rfl) ⟨Nat.zero_le _, Nat.zero_le _⟩ dX11_member_52 (fun H locs h => ?_)
    clear hc
    exact (xr_l hf).elim
  replace hf := if_f q0 hf
  rcases Decidable.em (a1 = (1 : Int32)) with hq | q1
  · replace hf := if_t hq hf
    subst hq
    refine lv_tableIn (off := 50) (tgt := 56) hx hb dX11_member_6 (by decide) (by decide) (by decide) (by decide) ?_
    refine lv_aload_n hx hb dX11_member_56 rfl (lv_at hl 0 rfl) ?_
    refine xg_X11 5 C h (by decide) tb_2_3 rfl rfl dX11_member_57 ?_
    refine lv_iload_n hx hb dX11_member_60 rfl (lv_at hl 1 rfl) ?_
    replace hf := bndc_some hf
    obtain ⟨x7, g8, hc, hf⟩ := hf
    refine m_callVi [.int a0] C h cv_X11_125 (qX6_faced (by simp [okS, okT, ok6]) hc) rfl ⟨rfl, rfl⟩ ⟨Nat.le_of_ble_eq_true rfl, Nat.le_of_ble_eq_true rfl⟩ (rv_X6 (by simp [okS, okT, ok6]) C h) hl.1 rfl (Nat.le_of_ble_eq_true rfl) ⟨Nat.zero_le _, Nat.zero_le _⟩ dX11_member_61 (fun H locs h => ?_)
    clear hc
    exact (xr_l hf).elim
  replace hf := if_f q1 hf
  rcases Decidable.em (a1 = (2 : Int32)) with hq | q2
  · replace hf := if_t hq hf
    subst hq
    refine lv_tableIn (off := 59) (tgt := 65) hx hb dX11_member_6 (by decide) (by decide) (by decide) (by decide) ?_
    refine lv_aload_n hx hb dX11_member_65 rfl (lv_at hl 0 rfl) ?_
    refine xg_X11 5 C h (by decide) tb_2_3 rfl rfl dX11_member_66 ?_
    refine xg_X6 4 (by simp [okS, okT, ok6]) C h (by decide) tb_25_19 rfl rfl dX11_member_69 ?_
    refine lv_iload_n hx hb dX11_member_72 rfl (lv_at hl 1 rfl) ?_
    replace hf := bndv_some hf
    obtain ⟨x10, hc, hf⟩ := hf
    refine m_callSi [.int (g2.1 30 4), .int a0] C h cs_X11_119 (qX1_at hc) rfl ⟨rfl, rfl⟩ ⟨Nat.le_of_ble_eq_true rfl, Nat.le_of_ble_eq_true rfl⟩ hl.1 rfl (Nat.le_of_ble_eq_true rfl) ⟨Nat.zero_le _, Nat.zero_le _⟩ dX11_member_73 (fun H locs h => ?_)
    clear hc
    exact (xr_l hf).elim
  replace hf := if_f q2 hf
  rcases Decidable.em (a1 = (3 : Int32)) with hq | q3
  · replace hf := if_t hq hf
    subst hq
    refine lv_tableIn (off := 71) (tgt := 77) hx hb dX11_member_6 (by decide) (by decide) (by decide) (by decide) ?_
    refine lv_aload_n hx hb dX11_member_77 rfl (lv_at hl 0 rfl) ?_
    refine xg_X11 5 C h (by decide) tb_2_3 rfl rfl dX11_member_78 ?_
    refine lv_aload_n hx hb dX11_member_81 rfl (lv_at hl 0 rfl) ?_
    refine xg_X11 5 C h (by decide) tb_2_3 rfl rfl dX11_member_82 ?_
    refine xg_X6 3 (by simp [okS, okT, ok6]) C h (by decide) tb_25_18 rfl rfl dX11_member_85 ?_
    replace hf := bndc_some hf
    obtain ⟨x14, g15, hc, hf⟩ := hf
    refine m_callVl [.int (g2.1 30 3)] C h cv_X11_132 (qX6_votesIn (by simp [okS, okT, ok6]) hc) rfl ⟨rfl, rfl⟩ ⟨Nat.le_of_ble_eq_true rfl, Nat.le_of_ble_eq_true rfl⟩ (rv_X6 (by simp [okS, okT, ok6]) C h) hl.1 rfl (Nat.le_of_ble_eq_true rfl) ⟨Nat.zero_le _, Nat.zero_le _⟩ dX11_member_88 (fun H locs h => ?_)
    clear hc
    refine lv_iload_n hx hb dX11_member_91 rfl (lv_at hl 1 rfl) ?_
    replace hf := bndv_some hf
    obtain ⟨x16, hc, hf⟩ := hf
    refine m_callSi [.long x14, .int a0] C h cs_X11_136 (qX1_votesAt hc) rfl ⟨rfl, rfl⟩ ⟨Nat.le_of_ble_eq_true rfl, Nat.le_of_ble_eq_true rfl⟩ hl.1 rfl (Nat.le_of_ble_eq_true rfl) ⟨Nat.zero_le _, Nat.zero_le _⟩ dX11_member_92 (fun H locs h => ?_)
    clear hc
    exact (xr_l hf).elim
  replace hf := if_f q3 hf
  rcases Decidable.em (a1 = (4 : Int32)) with hq | q4
  · replace hf := if_t hq hf
    subst hq
    refine lv_tableIn (off := 90) (tgt := 96) hx hb dX11_member_6 (by decide) (by decide) (by decide) (by decide) ?_
    refine lv_aload_n hx hb dX11_member_96 rfl (lv_at hl 0 rfl) ?_
    refine xg_X11 5 C h (by decide) tb_2_3 rfl rfl dX11_member_97 ?_
    refine lv_iload_n hx hb dX11_member_100 rfl (lv_at hl 1 rfl) ?_
    replace hf := bndc_some hf
    obtain ⟨x19, g20, hc, hf⟩ := hf
    refine m_callVi [.int a0] C h cv_X11_140 (qX6_isStuck (by simp [okS, okT, ok6]) hc) rfl ⟨rfl, rfl⟩ ⟨Nat.le_of_ble_eq_true rfl, Nat.le_of_ble_eq_true rfl⟩ (rv_X6 (by simp [okS, okT, ok6]) C h) hl.1 rfl (Nat.le_of_ble_eq_true rfl) ⟨Nat.zero_le _, Nat.zero_le _⟩ dX11_member_101 (fun H locs h => ?_)
    clear hc
    refine lv_if_eq (tgt := 111) hx hb dX11_member_104 (by decide) (fun hq => ?_) (fun hq => ?_)
    · replace hf := if_t hq hf
      clear hq
      refine lv_iconst (v := (0 : Int32)) hx hb dX11_member_111 (by decide) ?_
      exact (xr_l hf).elim
    · replace hf := if_f hq hf
      clear hq
      refine lv_iconst (v := (1 : Int32)) hx hb dX11_member_107 (by decide) ?_
      refine lv_goto (tgt := 112) hx hb dX11_member_108 (by decide) ?_
      exact (xr_l hf).elim
  replace hf := if_f q4 hf
  rcases Decidable.em (a1 = (5 : Int32)) with hq | q5
  · replace hf := if_t hq hf
    subst hq
    refine lv_tableIn (off := 107) (tgt := 113) hx hb dX11_member_6 (by decide) (by decide) (by decide) (by decide) ?_
    refine lv_aload_n hx hb dX11_member_113 rfl (lv_at hl 0 rfl) ?_
    refine xg_X11 5 C h (by decide) tb_2_3 rfl rfl dX11_member_114 ?_
    refine lv_iload_n hx hb dX11_member_117 rfl (lv_at hl 1 rfl) ?_
    replace hf := bndc_some hf
    obtain ⟨x23, g24, hc, hf⟩ := hf
    refine m_callVi [.int a0] C h cv_X11_144 (qX6_price (by simp [okS, okT, ok6]) hc) rfl ⟨rfl, rfl⟩ ⟨Nat.le_of_ble_eq_true rfl, Nat.le_of_ble_eq_true rfl⟩ (rv_X6 (by simp [okS, okT, ok6]) C h) hl.1 rfl (Nat.le_of_ble_eq_true rfl) ⟨Nat.zero_le _, Nat.zero_le _⟩ dX11_member_118 (fun H locs h => ?_)
    clear hc
    exact (xr_l hf).elim
  replace hf := if_f q5 hf
  refine lv_tableOut (tgt := 122) hx hb dX11_member_6 (by
      have z0 := i32_ne q0
      have z1 := i32_ne q1
      have z2 := i32_ne q2
      have z3 := i32_ne q3
      have z4 := i32_ne q4
      have z5 := i32_ne q5
      simp only [i32v_0, i32v_1, i32v_2, i32v_3, i32v_4, i32v_5] at z0 z1 z2 z3 z4 z5
      omega) (by decide) ?_
  obtain ⟨e1, e2⟩ := xl_inj hf
  subst e1 e2
  exact t_throwS (i := 19) 1 (by decide) (by decide) C hT h tb_9_4 tb_9_5 (by decide) rfl rfl hl.1 dX11_member_122 dX11_member_125 dX11_member_126 dX11_member_128 dX11_member_131 (Nat.le_of_ble_eq_true rfl) (Nat.le_of_ble_eq_true rfl) (Nat.le_refl 1) (Nat.le_refl 6)

set_option maxHeartbeats 4000000 in
set_option maxRecDepth 100000 in
theorem tX11_drags {l : Launch} {D : va_G} {cs : Nat → ClassId} {ad al adK adV : Nat → Nat} {P : PL} (hst : l.stackTraces = false) {kd : Nat} {g' : CS} {g : CS}  {a0 : Int32} (hf : fX11_drags P g a0 = some (Sum.inl kd, g')) : XCon l D cs ad al adK adV yX11_drags cX11_drags 2 (some .int) (rA 7 1 6) [.ref (ad 0), .int a0] P g kd g' := by
  refine XCon.of hst (by decide) (Nat.le_of_ble_eq_true rfl) ?_
  intro p e s m args below meth c A ls H locs C hT h hl
  have hx := C.1
  have hb := C.2.1
  have C : MCx p s m args meth c A RX11 cX11_drags 2 (some .int) D cs := C
  have hl : lv_has ls 2 [(0, .ref (ad 0)), (1, .int a0)] := hl
  unfold fX11_drags at hf
  refine lv_aload_n hx hb dX11_drags_0 rfl (lv_at hl 0 rfl) ?_
  refine lv_iload_n hx hb dX11_drags_1 rfl (lv_at hl 1 rfl) ?_
  replace hf := bndx_cases hf
  rcases hf with hc | hf
  · exact t_callV [.int a0] C hT h cv_X11_113 (tX11_needMember hT.2.2.2.2 hc) rfl ⟨rfl, rfl⟩ ⟨Nat.le_of_ble_eq_true rfl, Nat.le_of_ble_eq_true rfl⟩ (rv_X11 C h) hl.1 rfl (Nat.le_of_ble_eq_true rfl) ⟨Nat.le_refl 1, Nat.le_refl 6⟩ dX11_drags_2
  obtain ⟨x1, g2, hc, hf⟩ := hf
  refine m_callVv [.int a0] C h cv_X11_113 (qX11_needMember hc) rfl ⟨rfl, rfl⟩ ⟨Nat.le_of_ble_eq_true rfl, Nat.le_of_ble_eq_true rfl⟩ (rv_X11 C h) hl.1 rfl (Nat.le_of_ble_eq_true rfl) ⟨Nat.zero_le _, Nat.zero_le _⟩ dX11_drags_2 (fun H locs h => ?_)
  clear hc
  refine lv_aload_n hx hb dX11_drags_5 rfl (lv_at hl 0 rfl) ?_
  refine xg_X11 5 C h (by decide) tb_2_3 rfl rfl dX11_drags_6 ?_
  refine lv_iload_n hx hb dX11_drags_9 rfl (lv_at hl 1 rfl) ?_
  replace hf := bndc_some hf
  obtain ⟨x3, g4, hc, hf⟩ := hf
  refine m_callVi [.int a0] C h cv_X11_152 (qX6_turningWith (by simp [okS, okT, ok6]) hc) rfl ⟨rfl, rfl⟩ ⟨Nat.le_of_ble_eq_true rfl, Nat.le_of_ble_eq_true rfl⟩ (rv_X6 (by simp [okS, okT, ok6]) C h) hl.1 rfl (Nat.le_of_ble_eq_true rfl) ⟨Nat.zero_le _, Nat.zero_le _⟩ dX11_drags_10 (fun H locs h => ?_)
  clear hc
  exact (xr_l hf).elim

set_option maxHeartbeats 4000000 in
set_option maxRecDepth 100000 in
theorem tX11_goes {l : Launch} {D : va_G} {cs : Nat → ClassId} {ad al adK adV : Nat → Nat} {P : PL} (hst : l.stackTraces = false) {kd : Nat} {g' : CS} {g : CS}  {a0 : Int32} (hf : fX11_goes P g a0 = some (Sum.inl kd, g')) : XCon l D cs ad al adK adV yX11_goes cX11_goes 3 (some .int) (rA 7 1 6) [.ref (ad 0), .int a0] P g kd g' := by
  refine XCon.of hst (by decide) (Nat.le_of_ble_eq_true rfl) ?_
  intro p e s m args below meth c A ls H locs C hT h hl
  have hx := C.1
  have hb := C.2.1
  have C : MCx p s m args meth c A RX11 cX11_goes 3 (some .int) D cs := C
  have hl : lv_has ls 3 [(0, .ref (ad 0)), (1, .int a0)] := hl
  unfold fX11_goes at hf
  refine lv_aload_n hx hb dX11_goes_0 rfl (lv_at hl 0 rfl) ?_
  refine lv_iload_n hx hb dX11_goes_1 rfl (lv_at hl 1 rfl) ?_
  replace hf := bndx_cases hf
  rcases hf with hc | hf
  · exact t_callV [.int a0] C hT h cv_X11_113 (tX11_needMember hT.2.2.2.2 hc) rfl ⟨rfl, rfl⟩ ⟨Nat.le_of_ble_eq_true rfl, Nat.le_of_ble_eq_true rfl⟩ (rv_X11 C h) hl.1 rfl (Nat.le_of_ble_eq_true rfl) ⟨Nat.le_refl 1, Nat.le_refl 6⟩ dX11_goes_2
  obtain ⟨x1, g2, hc, hf⟩ := hf
  refine m_callVv [.int a0] C h cv_X11_113 (qX11_needMember hc) rfl ⟨rfl, rfl⟩ ⟨Nat.le_of_ble_eq_true rfl, Nat.le_of_ble_eq_true rfl⟩ (rv_X11 C h) hl.1 rfl (Nat.le_of_ble_eq_true rfl) ⟨Nat.zero_le _, Nat.zero_le _⟩ dX11_goes_2 (fun H locs h => ?_)
  clear hc
  refine lv_aload_n hx hb dX11_goes_5 rfl (lv_at hl 0 rfl) ?_
  refine xg_X11 5 C h (by decide) tb_2_3 rfl rfl dX11_goes_6 ?_
  refine lv_iload_n hx hb dX11_goes_9 rfl (lv_at hl 1 rfl) ?_
  replace hf := bndc_some hf
  obtain ⟨x3, g4, hc, hf⟩ := hf
  refine m_callVi [.int a0] C h cv_X11_140 (qX6_isStuck (by simp [okS, okT, ok6]) hc) rfl ⟨rfl, rfl⟩ ⟨Nat.le_of_ble_eq_true rfl, Nat.le_of_ble_eq_true rfl⟩ (rv_X6 (by simp [okS, okT, ok6]) C h) hl.1 rfl (Nat.le_of_ble_eq_true rfl) ⟨Nat.zero_le _, Nat.zero_le _⟩ dX11_goes_10 (fun H locs h => ?_)
  clear hc
  refine lv_if_eq (tgt := 18) hx hb dX11_goes_13 (by decide) (fun hq => ?_) (fun hq => ?_)
  · replace hf := if_t hq hf
    clear hq
    refine lv_aload_n hx hb dX11_goes_18 rfl (lv_at hl 0 rfl) ?_
    refine xg_X11 5 C h (by decide) tb_2_3 rfl rfl dX11_goes_19 ?_
    refine lv_aload_n hx hb dX11_goes_22 rfl (lv_at hl 0 rfl) ?_
    refine xg_X11 5 C h (by decide) tb_2_3 rfl rfl dX11_goes_23 ?_
    refine xg_X6 3 (by simp [okS, okT, ok6]) C h (by decide) tb_25_18 rfl rfl dX11_goes_26 ?_
    replace hf := bndc_some hf
    obtain ⟨x5, g6, hc, hf⟩ := hf
    refine m_callVl [.int (g4.1 30 3)] C h cv_X11_132 (qX6_votesIn (by simp [okS, okT, ok6]) hc) rfl ⟨rfl, rfl⟩ ⟨Nat.le_of_ble_eq_true rfl, Nat.le_of_ble_eq_true rfl⟩ (rv_X6 (by simp [okS, okT, ok6]) C h) hl.1 rfl (Nat.le_of_ble_eq_true rfl) ⟨Nat.zero_le _, Nat.zero_le _⟩ dX11_goes_29 (fun H locs h => ?_)
    clear hc
    refine lv_iload_n hx hb dX11_goes_32 rfl (lv_at hl 1 rfl) ?_
    replace hf := bndv_some hf
    obtain ⟨x7, hc, hf⟩ := hf
    refine m_callSi [.long x5, .int a0] C h cs_X11_136 (qX1_votesAt hc) rfl ⟨rfl, rfl⟩ ⟨Nat.le_of_ble_eq_true rfl, Nat.le_of_ble_eq_true rfl⟩ hl.1 rfl (Nat.le_of_ble_eq_true rfl) ⟨Nat.zero_le _, Nat.zero_le _⟩ dX11_goes_33 (fun H locs h => ?_)
    clear hc
    refine lv_istore_n (lv' := [(2, .int x7), (0, .ref (ad 0)), (1, .int a0)]) hx hb dX11_goes_36 rfl hl (by decide) rfl (fun ls hl => ?_)
    refine lv_aload_n hx hb dX11_goes_37 rfl (lv_at hl 1 rfl) ?_
    refine xg_X11 5 C h (by decide) tb_2_3 rfl rfl dX11_goes_38 ?_
    refine lv_iload_n hx hb dX11_goes_41 rfl (lv_at hl 2 rfl) ?_
    refine lv_aload_n hx hb dX11_goes_42 rfl (lv_at hl 1 rfl) ?_
    refine xg_X11 5 C h (by decide) tb_2_3 rfl rfl dX11_goes_43 ?_
    refine xg_X6 3 (by simp [okS, okT, ok6]) C h (by decide) tb_25_18 rfl rfl dX11_goes_46 ?_
    refine lv_iload_n hx hb dX11_goes_49 rfl (lv_at hl 2 rfl) ?_
    replace hf := bndv_some hf
    obtain ⟨x8, hc, hf⟩ := hf
    refine m_callSi [.int (g6.1 30 3), .int a0] C h cs_X11_119 (qX1_at hc) rfl ⟨rfl, rfl⟩ ⟨Nat.le_of_ble_eq_true rfl, Nat.le_of_ble_eq_true rfl⟩ hl.1 rfl (Nat.le_of_ble_eq_true rfl) ⟨Nat.zero_le _, Nat.zero_le _⟩ dX11_goes_50 (fun H locs h => ?_)
    clear hc
    refine lv_iload_n hx hb dX11_goes_53 rfl (lv_at hl 0 rfl) ?_
    replace hf := bndc_some hf
    obtain ⟨x9, g10, hc, hf⟩ := hf
    refine m_callVi [.int a0, .int x8, .int x7] C h cv_X11_155 (qX6_pace (by simp [okS, okT, ok6]) hc) rfl ⟨rfl, rfl⟩ ⟨Nat.le_of_ble_eq_true rfl, Nat.le_of_ble_eq_true rfl⟩ (rv_X6 (by simp [okS, okT, ok6]) C h) hl.1 rfl (Nat.le_of_ble_eq_true rfl) ⟨Nat.zero_le _, Nat.zero_le _⟩ dX11_goes_54 (fun H locs h => ?_)
    clear hc
    exact (xr_l hf).elim
  · replace hf := if_f hq hf
    clear hq
    refine lv_iconst (v := (0 : Int32)) hx hb dX11_goes_16 (by decide) ?_
    exact (xr_l hf).elim

set_option maxHeartbeats 4000000 in
set_option maxRecDepth 100000 in
theorem uX11_minutes_86 (C : MCx p s m args meth c A RX11 cX11_minutes 6 (some .int) D cs) (hT : TC l s args c adK adV A)  {kd : Nat} {g' : CS}  {k48 : CS → Int32 → Int32 → Int32 → Int32 → Option ((Nat ⊕ Int32) × CS)} (hk48 : ∀ (g : CS) (y1 : Int32) (y2 : Int32) (y3 : Int32) (y4 : Int32), k48 g y1 y2 y3 y4 = some (Sum.inl kd, g') → ∀ (H : Heap) (locs : List Loc) (ls : Array Slot), MH D (SW cs ad al P g) A s H locs → lv_has ls 6 [(0, .ref (ad 0)), (1, .int y1), (2, .int y2), (3, .int y3), (4, .int y4)] → W p l e (rA 6 1 6) s m args below meth c H locs 0 0 (vx_MQ below QF (XP D cs ad al P kd g' A) args s 1 6 A) (F0 m 48 ls [])) : ∀ (g : CS) (y1 : Int32) (y2 : Int32) (y4 : Int32) (y5 : Int32), fX11_minutes_86 P k48 g y1 y2 y4 y5 = some (Sum.inl kd, g') → ∀ (H : Heap) (locs : List Loc) (ls : Array Slot), MH D (SW cs ad al P g) A s H locs → lv_has ls 6 [(0, .ref (ad 0)), (1, .int y1), (2, .int y2), (4, .int y4), (5, .int y5)] → W p l e (rA 6 1 6) s m args below meth c H locs 0 0 (vx_MQ below QF (XP D cs ad al P kd g' A) args s 1 6 A) (F0 m 86 ls []) := by
  have hx := C.1
  have hb := C.2.1
  intro g y1 y2 y4 y5 hf H locs ls h hl
  unfold fX11_minutes_86 at hf
  refine lv_iload hx hb dX11_minutes_86 (lv_at hl 4 rfl) ?_
  refine lv_istore_n (lv' := [(3, .int y5), (0, .ref (ad 0)), (1, .int y1), (2, .int y2), (4, .int y4), (5, .int y5)]) hx hb dX11_minutes_88 rfl hl (by decide) rfl (fun ls hl => ?_)
  obtain ⟨x1, ex1⟩ : ∃ z : Int32, z = y4 + (1 : Int32) := ⟨_, rfl⟩
  replace hf := bnd_at ex1 hf
  refine lv_iinc (v := x1) (lv' := [(4, .int x1), (3, .int y5), (0, .ref (ad 0)), (1, .int y1), (2, .int y2), (5, .int y5)]) hx hb dX11_minutes_89 hl (k := 4) rfl (by rw [ex1]; rfl) (by decide) rfl (fun ls hl => ?_)
  clear ex1
  refine lv_goto (tgt := 48) hx hb dX11_minutes_92 (by decide) ?_
  exact hk48 g y1 y2 y5 x1 hf H locs ls h (lv_sub hl [2, 3, 4, 1, 0] rfl)

set_option maxHeartbeats 4000000 in
set_option maxRecDepth 100000 in
theorem uX11_minutes_48 (C : MCx p s m args meth c A RX11 cX11_minutes 6 (some .int) D cs) (hT : TC l s args c adK adV A)  {kd : Nat} {g' : CS}  : ∀ (n : Nat) (g : CS) (y1 : Int32) (y2 : Int32) (y3 : Int32) (y4 : Int32), fX11_minutes_48 P n g y1 y2 y3 y4 = some (Sum.inl kd, g') → ∀ (H : Heap) (locs : List Loc) (ls : Array Slot), MH D (SW cs ad al P g) A s H locs → lv_has ls 6 [(0, .ref (ad 0)), (1, .int y1), (2, .int y2), (3, .int y3), (4, .int y4)] → W p l e (rA 6 1 6) s m args below meth c H locs 0 0 (vx_MQ below QF (XP D cs ad al P kd g' A) args s 1 6 A) (F0 m 48 ls []) := by
  have hx := C.1
  have hb := C.2.1
  intro n
  induction n with
  | zero =>
    intro g y1 y2 y3 y4 hf
    exact absurd hf (by simp [fX11_minutes_48])
  | succ n ih =>
    intro g y1 y2 y3 y4 hf H locs ls h hl
    rw [fX11_minutes_48] at hf
    refine lv_iload hx hb dX11_minutes_48 (lv_at hl 4 rfl) ?_
    refine lv_iload_n hx hb dX11_minutes_50 rfl (lv_at hl 1 rfl) ?_
    refine lv_icmp_ge (tgt := 95) hx hb dX11_minutes_51 (by decide) (fun hq => ?_) (fun hq => ?_)
    · replace hf := if_t hq hf
      clear hq
      refine lv_iload_n hx hb dX11_minutes_95 rfl (lv_at hl 2 rfl) ?_
      exact (xr_l hf).elim
    · replace hf := if_f hq hf
      clear hq
      refine lv_aload_n hx hb dX11_minutes_54 rfl (lv_at hl 0 rfl) ?_
      refine xg_X11 5 C h (by decide) tb_2_3 rfl rfl dX11_minutes_55 ?_
      replace hf := bndv_some hf
      obtain ⟨g2, hc, hf⟩ := hf
      refine m_callVv [] C h cv_X11_176 (qX6_passMinute (by simp [okS, okT, ok6]) hc) rfl ⟨rfl, rfl⟩ ⟨Nat.le_of_ble_eq_true rfl, Nat.le_of_ble_eq_true rfl⟩ (rv_X6 (by simp [okS, okT, ok6]) C h) hl.1 rfl (Nat.le_of_ble_eq_true rfl) ⟨Nat.zero_le _, Nat.zero_le _⟩ dX11_minutes_58 (fun H locs h => ?_)
      clear hc
      refine lv_aload_n hx hb dX11_minutes_61 rfl (lv_at hl 0 rfl) ?_
      refine xg_X11 5 C h (by decide) tb_2_3 rfl rfl dX11_minutes_62 ?_
      refine lv_aload_n hx hb dX11_minutes_65 rfl (lv_at hl 0 rfl) ?_
      refine xg_X11 5 C h (by decide) tb_2_3 rfl rfl dX11_minutes_66 ?_
      refine xg_X6 3 (by simp [okS, okT, ok6]) C h (by decide) tb_25_18 rfl rfl dX11_minutes_69 ?_
      replace hf := bndc_some hf
      obtain ⟨x3, g4, hc, hf⟩ := hf
      refine m_callVi [.int (g2.1 30 3)] C h cv_X11_149 (qX6_chairOf (by simp [okS, okT, ok6]) hc) rfl ⟨rfl, rfl⟩ ⟨Nat.le_of_ble_eq_true rfl, Nat.le_of_ble_eq_true rfl⟩ (rv_X6 (by simp [okS, okT, ok6]) C h) hl.1 rfl (Nat.le_of_ble_eq_true rfl) ⟨Nat.zero_le _, Nat.zero_le _⟩ dX11_minutes_72 (fun H locs h => ?_)
      clear hc
      refine lv_istore (lv' := [(5, .int x3), (0, .ref (ad 0)), (1, .int y1), (2, .int y2), (3, .int y3), (4, .int y4)]) hx hb dX11_minutes_75 hl (by decide) rfl (fun ls hl => ?_)
      refine lv_iload hx hb dX11_minutes_77 (lv_at hl 0 rfl) ?_
      refine lv_iload_n hx hb dX11_minutes_79 rfl (lv_at hl 4 rfl) ?_
      refine lv_icmp_eq (tgt := 86) hx hb dX11_minutes_80 (by decide) (fun hq => ?_) (fun hq => ?_)
      · replace hf := if_t hq hf
        clear hq
        exact uX11_minutes_86 (P := P) C hT ih g4 y1 y2 y4 x3 hf H locs ls h (lv_sub hl [1, 2, 3, 5, 0] rfl)
      · replace hf := if_f hq hf
        clear hq
        obtain ⟨x5, ex5⟩ : ∃ z : Int32, z = y2 + (1 : Int32) := ⟨_, rfl⟩
        replace hf := bnd_at ex5 hf
        refine lv_iinc (v := x5) (lv' := [(2, .int x5), (5, .int x3), (0, .ref (ad 0)), (1, .int y1), (3, .int y3), (4, .int y4)]) hx hb dX11_minutes_83 hl (k := 3) rfl (by rw [ex5]; rfl) (by decide) rfl (fun ls hl => ?_)
        clear ex5
        exact uX11_minutes_86 (P := P) C hT ih g4 y1 x5 y4 x3 hf H locs ls h (lv_sub hl [2, 3, 0, 5, 1] rfl)

set_option maxHeartbeats 4000000 in
set_option maxRecDepth 100000 in
theorem tX11_minutes {l : Launch} {D : va_G} {cs : Nat → ClassId} {ad al adK adV : Nat → Nat} {P : PL} (hst : l.stackTraces = false) {kd : Nat} {g' : CS} {g : CS}  {a0 : Int32} (hf : fX11_minutes P g a0 = some (Sum.inl kd, g')) : XCon l D cs ad al adK adV yX11_minutes cX11_minutes 6 (some .int) (rA 6 1 6) [.ref (ad 0), .int a0] P g kd g' := by
  refine XCon.of hst (by decide) (Nat.le_of_ble_eq_true rfl) ?_
  intro p e s m args below meth c A ls H locs C hT h hl
  have hx := C.1
  have hb := C.2.1
  have C : MCx p s m args meth c A RX11 cX11_minutes 6 (some .int) D cs := C
  have hl : lv_has ls 6 [(0, .ref (ad 0)), (1, .int a0)] := hl
  unfold fX11_minutes at hf
  refine lv_iload_n hx hb dX11_minutes_0 rfl (lv_at hl 1 rfl) ?_
  refine lv_iconst (v := (1 : Int32)) hx hb dX11_minutes_1 (by decide) ?_
  refine lv_icmp_lt (tgt := 11) hx hb dX11_minutes_2 (by decide) (fun hq => ?_) (fun hq => ?_)
  · replace hf := if_t hq hf
    clear hq
    obtain ⟨e1, e2⟩ := xl_inj hf
    subst e1 e2
    exact t_throwS (i := 20) 1 (by decide) (by decide) C hT h tb_9_4 tb_9_5 (by decide) rfl rfl hl.1 dX11_minutes_11 dX11_minutes_14 dX11_minutes_15 dX11_minutes_17 dX11_minutes_20 (Nat.le_of_ble_eq_true rfl) (Nat.le_of_ble_eq_true rfl) (Nat.le_refl 1) (Nat.le_refl 6)
  · replace hf := if_f hq hf
    clear hq
    refine lv_iload_n hx hb dX11_minutes_5 rfl (lv_at hl 1 rfl) ?_
    refine lv_bipush (v := (99 : Int32)) hx hb dX11_minutes_6 (by decide) ?_
    refine lv_icmp_le (tgt := 21) hx hb dX11_minutes_8 (by decide) (fun hq => ?_) (fun hq => ?_)
    · replace hf := if_t hq hf
      clear hq
      refine lv_aload_n hx hb dX11_minutes_21 rfl (lv_at hl 0 rfl) ?_
      refine xg_X11 5 C h (by decide) tb_2_3 rfl rfl dX11_minutes_22 ?_
      replace hf := bndv_some hf
      obtain ⟨g6, hc, hf⟩ := hf
      refine m_callVv [] C h cv_X11_173 (qX6_remember (by simp [okS, okT, ok6]) hc) rfl ⟨rfl, rfl⟩ ⟨Nat.le_of_ble_eq_true rfl, Nat.le_of_ble_eq_true rfl⟩ (rv_X6 (by simp [okS, okT, ok6]) C h) hl.1 rfl (Nat.le_of_ble_eq_true rfl) ⟨Nat.zero_le _, Nat.zero_le _⟩ dX11_minutes_25 (fun H locs h => ?_)
      clear hc
      refine lv_iconst (v := (0 : Int32)) hx hb dX11_minutes_28 (by decide) ?_
      refine lv_istore_n (lv' := [(2, .int (0 : Int32)), (0, .ref (ad 0)), (1, .int a0)]) hx hb dX11_minutes_29 rfl hl (by decide) rfl (fun ls hl => ?_)
      refine lv_aload_n hx hb dX11_minutes_30 rfl (lv_at hl 1 rfl) ?_
      refine xg_X11 5 C h (by decide) tb_2_3 rfl rfl dX11_minutes_31 ?_
      refine lv_aload_n hx hb dX11_minutes_34 rfl (lv_at hl 1 rfl) ?_
      refine xg_X11 5 C h (by decide) tb_2_3 rfl rfl dX11_minutes_35 ?_
      refine xg_X6 3 (by simp [okS, okT, ok6]) C h (by decide) tb_25_18 rfl rfl dX11_minutes_38 ?_
      replace hf := bndc_some hf
      obtain ⟨x7, g8, hc, hf⟩ := hf
      refine m_callVi [.int (g6.1 30 3)] C h cv_X11_149 (qX6_chairOf (by simp [okS, okT, ok6]) hc) rfl ⟨rfl, rfl⟩ ⟨Nat.le_of_ble_eq_true rfl, Nat.le_of_ble_eq_true rfl⟩ (rv_X6 (by simp [okS, okT, ok6]) C h) hl.1 rfl (Nat.le_of_ble_eq_true rfl) ⟨Nat.zero_le _, Nat.zero_le _⟩ dX11_minutes_41 (fun H locs h => ?_)
      clear hc
      refine lv_istore_n (lv' := [(3, .int x7), (2, .int (0 : Int32)), (0, .ref (ad 0)), (1, .int a0)]) hx hb dX11_minutes_44 rfl hl (by decide) rfl (fun ls hl => ?_)
      refine lv_iconst (v := (0 : Int32)) hx hb dX11_minutes_45 (by decide) ?_
      refine lv_istore (lv' := [(4, .int (0 : Int32)), (3, .int x7), (2, .int (0 : Int32)), (0, .ref (ad 0)), (1, .int a0)]) hx hb dX11_minutes_46 hl (by decide) rfl (fun ls hl => ?_)
      exact uX11_minutes_48 (P := P) C hT fuel g8 a0 (0 : Int32) x7 (0 : Int32) hf H locs ls h (lv_sub hl [3, 4, 2, 1, 0] rfl)
    · replace hf := if_f hq hf
      clear hq
      obtain ⟨e1, e2⟩ := xl_inj hf
      subst e1 e2
      exact t_throwS (i := 20) 1 (by decide) (by decide) C hT h tb_9_4 tb_9_5 (by decide) rfl rfl hl.1 dX11_minutes_11 dX11_minutes_14 dX11_minutes_15 dX11_minutes_17 dX11_minutes_20 (Nat.le_of_ble_eq_true rfl) (Nat.le_of_ble_eq_true rfl) (Nat.le_refl 1) (Nat.le_refl 6)

set_option maxHeartbeats 4000000 in
set_option maxRecDepth 100000 in
theorem uX11_undo_34 (C : MCx p s m args meth c A RX11 cX11_undo 3 (some .int) D cs) (hT : TC l s args c adK adV A)  {kd : Nat} {g' : CS}  : ∀ (n : Nat) (g : CS) (y1 : Int32) (y2 : Int32), fX11_undo_34 P n g y1 y2 = some (Sum.inl kd, g') → ∀ (H : Heap) (locs : List Loc) (ls : Array Slot), MH D (SW cs ad al P g) A s H locs → lv_has ls 3 [(0, .ref (ad 0)), (1, .int y1), (2, .int y2)] → W p l e (rA 6 1 6) s m args below meth c H locs 0 0 (vx_MQ below QF (XP D cs ad al P kd g' A) args s 1 6 A) (F0 m 34 ls []) := by
  have hx := C.1
  have hb := C.2.1
  intro n
  induction n with
  | zero =>
    intro g y1 y2 hf
    exact absurd hf (by simp [fX11_undo_34])
  | succ n ih =>
    intro g y1 y2 hf H locs ls h hl
    rw [fX11_undo_34] at hf
    refine lv_iload_n hx hb dX11_undo_34 rfl (lv_at hl 2 rfl) ?_
    refine lv_iload_n hx hb dX11_undo_35 rfl (lv_at hl 1 rfl) ?_
    refine lv_icmp_ge (tgt := 52) hx hb dX11_undo_36 (by decide) (fun hq => ?_) (fun hq => ?_)
    · replace hf := if_t hq hf
      clear hq
      refine lv_aload_n hx hb dX11_undo_52 rfl (lv_at hl 0 rfl) ?_
      refine xg_X11 5 C h (by decide) tb_2_3 rfl rfl dX11_undo_53 ?_
      refine xg_X6 6 (by simp [okS, okT, ok6]) C h (by decide) tb_38_4 rfl rfl dX11_undo_56 ?_
      exact (xr_l hf).elim
    · replace hf := if_f hq hf
      clear hq
      refine lv_aload_n hx hb dX11_undo_39 rfl (lv_at hl 0 rfl) ?_
      refine xg_X11 5 C h (by decide) tb_2_3 rfl rfl dX11_undo_40 ?_
      replace hf := bndv_some hf
      obtain ⟨g1, hc, hf⟩ := hf
      refine m_callVv [] C h cv_X11_184 (qX6_takeBack (by simp [okS, okT, ok6]) hc) rfl ⟨rfl, rfl⟩ ⟨Nat.le_of_ble_eq_true rfl, Nat.le_of_ble_eq_true rfl⟩ (rv_X6 (by simp [okS, okT, ok6]) C h) hl.1 rfl (Nat.le_of_ble_eq_true rfl) ⟨Nat.zero_le _, Nat.zero_le _⟩ dX11_undo_43 (fun H locs h => ?_)
      clear hc
      obtain ⟨x2, ex2⟩ : ∃ z : Int32, z = y2 + (1 : Int32) := ⟨_, rfl⟩
      replace hf := bnd_at ex2 hf
      refine lv_iinc (v := x2) (lv' := [(2, .int x2), (0, .ref (ad 0)), (1, .int y1)]) hx hb dX11_undo_46 hl (k := 2) rfl (by rw [ex2]; rfl) (by decide) rfl (fun ls hl => ?_)
      clear ex2
      refine lv_goto (tgt := 34) hx hb dX11_undo_49 (by decide) ?_
      exact ih g1 y1 x2 hf H locs ls h (lv_sub hl [1, 2, 0] rfl)

set_option maxHeartbeats 4000000 in
set_option maxRecDepth 100000 in
theorem tX11_undo {l : Launch} {D : va_G} {cs : Nat → ClassId} {ad al adK adV : Nat → Nat} {P : PL} (hst : l.stackTraces = false) {kd : Nat} {g' : CS} {g : CS}  {a0 : Int32} (hf : fX11_undo P g a0 = some (Sum.inl kd, g')) : XCon l D cs ad al adK adV yX11_undo cX11_undo 3 (some .int) (rA 6 1 6) [.ref (ad 0), .int a0] P g kd g' := by
  refine XCon.of hst (by decide) (Nat.le_of_ble_eq_true rfl) ?_
  intro p e s m args below meth c A ls H locs C hT h hl
  have hx := C.1
  have hb := C.2.1
  have C : MCx p s m args meth c A RX11 cX11_undo 3 (some .int) D cs := C
  have hl : lv_has ls 3 [(0, .ref (ad 0)), (1, .int a0)] := hl
  unfold fX11_undo at hf
  refine lv_iload_n hx hb dX11_undo_0 rfl (lv_at hl 1 rfl) ?_
  refine lv_iconst (v := (1 : Int32)) hx hb dX11_undo_1 (by decide) ?_
  refine lv_icmp_lt (tgt := 22) hx hb dX11_undo_2 (by decide) (fun hq => ?_) (fun hq => ?_)
  · replace hf := if_t hq hf
    clear hq
    obtain ⟨e1, e2⟩ := xl_inj hf
    subst e1 e2
    exact t_throwS (i := 21) 1 (by decide) (by decide) C hT h tb_9_4 tb_9_5 (by decide) rfl rfl hl.1 dX11_undo_22 dX11_undo_25 dX11_undo_26 dX11_undo_28 dX11_undo_31 (Nat.le_of_ble_eq_true rfl) (Nat.le_of_ble_eq_true rfl) (Nat.le_refl 1) (Nat.le_refl 6)
  · replace hf := if_f hq hf
    clear hq
    refine lv_iload_n hx hb dX11_undo_5 rfl (lv_at hl 1 rfl) ?_
    refine lv_bipush (v := (10 : Int32)) hx hb dX11_undo_6 (by decide) ?_
    refine lv_icmp_gt (tgt := 22) hx hb dX11_undo_8 (by decide) (fun hq => ?_) (fun hq => ?_)
    · replace hf := if_t hq hf
      clear hq
      obtain ⟨e1, e2⟩ := xl_inj hf
      subst e1 e2
      exact t_throwS (i := 21) 1 (by decide) (by decide) C hT h tb_9_4 tb_9_5 (by decide) rfl rfl hl.1 dX11_undo_22 dX11_undo_25 dX11_undo_26 dX11_undo_28 dX11_undo_31 (Nat.le_of_ble_eq_true rfl) (Nat.le_of_ble_eq_true rfl) (Nat.le_refl 1) (Nat.le_refl 6)
    · replace hf := if_f hq hf
      clear hq
      refine lv_iload_n hx hb dX11_undo_11 rfl (lv_at hl 1 rfl) ?_
      refine lv_aload_n hx hb dX11_undo_12 rfl (lv_at hl 0 rfl) ?_
      refine xg_X11 5 C h (by decide) tb_2_3 rfl rfl dX11_undo_13 ?_
      refine xg_X6 6 (by simp [okS, okT, ok6]) C h (by decide) tb_38_4 rfl rfl dX11_undo_16 ?_
      refine lv_icmp_le (tgt := 32) hx hb dX11_undo_19 (by decide) (fun hq => ?_) (fun hq => ?_)
      · replace hf := if_t hq hf
        clear hq
        refine lv_iconst (v := (0 : Int32)) hx hb dX11_undo_32 (by decide) ?_
        refine lv_istore_n (lv' := [(2, .int (0 : Int32)), (0, .ref (ad 0)), (1, .int a0)]) hx hb dX11_undo_33 rfl hl (by decide) rfl (fun ls hl => ?_)
        exact uX11_undo_34 (P := P) C hT fuel g a0 (0 : Int32) hf H locs ls h (lv_sub hl [1, 2, 0] rfl)
      · replace hf := if_f hq hf
        clear hq
        obtain ⟨e1, e2⟩ := xl_inj hf
        subst e1 e2
        exact t_throwS (i := 21) 1 (by decide) (by decide) C hT h tb_9_4 tb_9_5 (by decide) rfl rfl hl.1 dX11_undo_22 dX11_undo_25 dX11_undo_26 dX11_undo_28 dX11_undo_31 (Nat.le_of_ble_eq_true rfl) (Nat.le_of_ble_eq_true rfl) (Nat.le_refl 1) (Nat.le_refl 6)

set_option maxHeartbeats 4000000 in
set_option maxRecDepth 100000 in
theorem tX11_needTray {l : Launch} {D : va_G} {cs : Nat → ClassId} {ad al adK adV : Nat → Nat} {P : PL} (hst : l.stackTraces = false) {kd : Nat} {g' : CS} {g : CS}  {a0 : Int32} (hf : fX11_needTray P g a0 = some (Sum.inl kd, g')) : XCon l D cs ad al adK adV yX11_needTray cX11_needTray 3 (some (.object "SwivelBoard$Tray")) (rA 6 1 6) [.ref (ad 0), .int a0] P g kd g' := by
  refine XCon.of hst (by decide) (Nat.le_of_ble_eq_true rfl) ?_
  intro p e s m args below meth c A ls H locs C hT h hl
  have hx := C.1
  have hb := C.2.1
  have C : MCx p s m args meth c A RX11 cX11_needTray 3 (some (.object "SwivelBoard$Tray")) D cs := C
  have hl : lv_has ls 3 [(0, .ref (ad 0)), (1, .int a0)] := hl
  unfold fX11_needTray at hf
  refine lv_iload_n hx hb dX11_needTray_0 rfl (lv_at hl 1 rfl) ?_
  refine lv_if_lt (tgt := 9) hx hb dX11_needTray_1 (by decide) (fun hq => ?_) (fun hq => ?_)
  · replace hf := if_t hq hf
    clear hq
    obtain ⟨e1, e2⟩ := xl_inj hf
    subst e1 e2
    exact t_throwW (i := 22) 2 (by decide) (by decide) C hT h tb_26_0 tb_26_1 (by decide) rfl rfl hl.1 dX11_needTray_9 dX11_needTray_12 dX11_needTray_13 dX11_needTray_16 dX11_needTray_19 (Nat.le_of_ble_eq_true rfl) (Nat.le_of_ble_eq_true rfl) (Nat.le_refl 1) (Nat.le_refl 6)
  · replace hf := if_f hq hf
    clear hq
    refine lv_iload_n hx hb dX11_needTray_4 rfl (lv_at hl 1 rfl) ?_
    refine lv_iconst (v := (4 : Int32)) hx hb dX11_needTray_5 (by decide) ?_
    refine lv_icmp_lt (tgt := 20) hx hb dX11_needTray_6 (by decide) (fun hq => ?_) (fun hq => ?_)
    · replace hf := if_t hq hf
      clear hq
      refine lv_aload_n hx hb dX11_needTray_20 rfl (lv_at hl 0 rfl) ?_
      refine xg_X11 8 C h (by decide) tb_2_7 rfl rfl dX11_needTray_21 ?_
      refine lv_iload_n hx hb dX11_needTray_24 rfl (lv_at hl 1 rfl) ?_
      replace hf := chk_some hf
      obtain ⟨hq, hf⟩ := hf
      refine yr_3 C h hq dX11_needTray_25 ?_
      clear hq
      obtain ⟨o1, eo1⟩ : ∃ z : Nat, z = 50 + ix a0 := ⟨_, rfl⟩
      replace hf := bnd_at eo1 hf
      rw [← eo1]
      clear eo1
      replace hf := chk_some hf
      obtain ⟨hq, hf⟩ := hf
      have hn_o1 := okTb_t hq
      clear hq
      refine lv_astore_n (lv' := [(2, .ref (ad o1)), (0, .ref (ad 0)), (1, .int a0)]) hx hb dX11_needTray_26 rfl hl (by decide) rfl (fun ls hl => ?_)
      refine lv_aload_n hx hb dX11_needTray_27 rfl (lv_at hl 0 rfl) ?_
      refine xg_X9 0 hn_o1 C h (by decide) tb_38_23 rfl rfl dX11_needTray_28 ?_
      refine lv_iconst (v := (-1 : Int32)) hx hb dX11_needTray_31 (by decide) ?_
      refine lv_icmp_ne (tgt := 46) hx hb dX11_needTray_32 (by decide) (fun hq => ?_) (fun hq => ?_)
      · replace hf := if_tn hq hf
        clear hq
        refine lv_aload_n hx hb dX11_needTray_46 rfl (lv_at hl 0 rfl) ?_
        exact (xr_l hf).elim
      · replace hf := if_t hq hf
        clear hq
        obtain ⟨e1, e2⟩ := xl_inj hf
        subst e1 e2
        exact t_throwW (i := 23) 3 (by decide) (by decide) C hT h tb_39_5 tb_39_6 (by decide) rfl rfl hl.1 dX11_needTray_35 dX11_needTray_38 dX11_needTray_39 dX11_needTray_42 dX11_needTray_45 (Nat.le_of_ble_eq_true rfl) (Nat.le_of_ble_eq_true rfl) (Nat.le_refl 1) (Nat.le_refl 6)
    · replace hf := if_f hq hf
      clear hq
      obtain ⟨e1, e2⟩ := xl_inj hf
      subst e1 e2
      exact t_throwW (i := 22) 2 (by decide) (by decide) C hT h tb_26_0 tb_26_1 (by decide) rfl rfl hl.1 dX11_needTray_9 dX11_needTray_12 dX11_needTray_13 dX11_needTray_16 dX11_needTray_19 (Nat.le_of_ble_eq_true rfl) (Nat.le_of_ble_eq_true rfl) (Nat.le_refl 1) (Nat.le_refl 6)

set_option maxHeartbeats 4000000 in
set_option maxRecDepth 100000 in
theorem uX11_judge_93 (C : MCx p s m args meth c A RX11 cX11_judge 7 (some .int) D cs) (hT : TC l s args c adK adV A)  {kd : Nat} {g' : CS}  : ∀ (g : CS) (y2 : Int32) (y4 : Int32) (y5 : Int32), fX11_judge_93 P g y2 y4 y5 = some (Sum.inl kd, g') → ∀ (H : Heap) (locs : List Loc) (ls : Array Slot), MH D (SW cs ad al P g) A s H locs → lv_has ls 7 [(0, .ref (ad 0)), (2, .int y2), (4, .int y4), (5, .int y5)] → W p l e (rA 7 1 6) s m args below meth c H locs 0 0 (vx_MQ below QF (XP D cs ad al P kd g' A) args s 1 6 A) (F0 m 93 ls []) := by
  have hx := C.1
  have hb := C.2.1
  intro g y2 y4 y5 hf H locs ls h hl
  unfold fX11_judge_93 at hf
  refine lv_iload_n hx hb dX11_judge_93 rfl (lv_at hl 1 rfl) ?_
  rcases Decidable.em (y2 = (0 : Int32)) with hq | q0
  · replace hf := if_t hq hf
    subst hq
    refine lv_tableIn (off := 26) (tgt := 120) hx hb dX11_judge_94 (by decide) (by decide) (by decide) (by decide) ?_
    refine lv_iload hx hb dX11_judge_120 (lv_at hl 3 rfl) ?_
    exact (xr_l hf).elim
  replace hf := if_f q0 hf
  rcases Decidable.em (y2 = (1 : Int32)) with hq | q1
  · replace hf := if_t hq hf
    subst hq
    refine lv_tableIn (off := 29) (tgt := 123) hx hb dX11_judge_94 (by decide) (by decide) (by decide) (by decide) ?_
    refine lv_iload hx hb dX11_judge_123 (lv_at hl 2 rfl) ?_
    exact (xr_l hf).elim
  replace hf := if_f q1 hf
  rcases Decidable.em (y2 = (2 : Int32)) with hq | q2
  · replace hf := if_t hq hf
    subst hq
    refine lv_tableIn (off := 32) (tgt := 126) hx hb dX11_judge_94 (by decide) (by decide) (by decide) (by decide) ?_
    refine lv_aload_n hx hb dX11_judge_126 rfl (lv_at hl 0 rfl) ?_
    refine xg_X11 6 C h (by decide) tb_2_4 rfl rfl dX11_judge_127 ?_
    refine lv_aload_n hx hb dX11_judge_130 rfl (lv_at hl 0 rfl) ?_
    refine xg_X11 6 C h (by decide) tb_2_4 rfl rfl dX11_judge_131 ?_
    refine xg_X6 3 (by simp [okS, okT, ok6]) C h (by decide) tb_25_18 rfl rfl dX11_judge_134 ?_
    replace hf := bndc_some hf
    obtain ⟨x3, g4, hc, hf⟩ := hf
    refine m_callVi [.int (g.1 31 3)] C h cv_X11_149 (qX6_chairOf (by simp [okS, okT, ok6]) hc) rfl ⟨rfl, rfl⟩ ⟨Nat.le_of_ble_eq_true rfl, Nat.le_of_ble_eq_true rfl⟩ (rv_X6 (by simp [okS, okT, ok6]) C h) hl.1 rfl (Nat.le_of_ble_eq_true rfl) ⟨Nat.zero_le _, Nat.zero_le _⟩ dX11_judge_137 (fun H locs h => ?_)
    clear hc
    exact (xr_l hf).elim
  replace hf := if_f q2 hf
  refine lv_tableOut (tgt := 141) hx hb dX11_judge_94 (by
      have z0 := i32_ne q0
      have z1 := i32_ne q1
      have z2 := i32_ne q2
      simp only [i32v_0, i32v_1, i32v_2] at z0 z1 z2
      omega) (by decide) ?_
  refine lv_aload_n hx hb dX11_judge_141 rfl (lv_at hl 0 rfl) ?_
  refine xg_X11 6 C h (by decide) tb_2_4 rfl rfl dX11_judge_142 ?_
  refine xg_X6 5 (by simp [okS, okT, ok6]) C h (by decide) tb_39_0 rfl rfl dX11_judge_145 ?_
  exact (xr_l hf).elim

set_option maxHeartbeats 4000000 in
set_option maxRecDepth 100000 in
theorem uX11_judge_45 (C : MCx p s m args meth c A RX11 cX11_judge 7 (some .int) D cs) (hT : TC l s args c adK adV A)  {kd : Nat} {g' : CS}  : ∀ (n : Nat) (g : CS) (y2 : Int32) (y3 : Nat) (y4 : Int32) (y5 : Int32) (y6 : Int32), okT y3 → fX11_judge_45 P n g y2 y3 y4 y5 y6 = some (Sum.inl kd, g') → ∀ (H : Heap) (locs : List Loc) (ls : Array Slot), MH D (SW cs ad al P g) A s H locs → lv_has ls 7 [(0, .ref (ad 0)), (2, .int y2), (3, .ref (ad y3)), (4, .int y4), (5, .int y5), (6, .int y6)] → W p l e (rA 7 1 6) s m args below meth c H locs 0 0 (vx_MQ below QF (XP D cs ad al P kd g' A) args s 1 6 A) (F0 m 45 ls []) := by
  have hx := C.1
  have hb := C.2.1
  intro n
  induction n with
  | zero =>
    intro g y2 y3 y4 y5 y6 hn_y3 hf
    exact absurd hf (by simp [fX11_judge_45])
  | succ n ih =>
    intro g y2 y3 y4 y5 y6 hn_y3 hf H locs ls h hl
    rw [fX11_judge_45] at hf
    refine lv_iload hx hb dX11_judge_45 (lv_at hl 5 rfl) ?_
    refine lv_aload_n hx hb dX11_judge_47 rfl (lv_at hl 2 rfl) ?_
    refine xg_X9 0 hn_y3 C h (by decide) tb_38_23 rfl rfl dX11_judge_48 ?_
    refine lv_icmp_ge (tgt := 93) hx hb dX11_judge_51 (by decide) (fun hq => ?_) (fun hq => ?_)
    · replace hf := if_t hq hf
      clear hq
      exact uX11_judge_93 (P := P) C hT g y2 y4 y5 hf H locs ls h (lv_sub hl [0, 1, 3, 4] rfl)
    · replace hf := if_f hq hf
      clear hq
      refine lv_iload hx hb dX11_judge_54 (lv_at hl 3 rfl) ?_
      refine lv_if_ne (tgt := 93) hx hb dX11_judge_56 (by decide) (fun hq => ?_) (fun hq => ?_)
      · replace hf := if_tn hq hf
        clear hq
        exact uX11_judge_93 (P := P) C hT g y2 y4 y5 hf H locs ls h (lv_sub hl [0, 1, 3, 4] rfl)
      · replace hf := if_t hq hf
        clear hq
        refine lv_aload_n hx hb dX11_judge_59 rfl (lv_at hl 0 rfl) ?_
        refine xg_X11 6 C h (by decide) tb_2_4 rfl rfl dX11_judge_60 ?_
        refine lv_aload_n hx hb dX11_judge_63 rfl (lv_at hl 2 rfl) ?_
        refine lv_iload hx hb dX11_judge_64 (lv_at hl 5 rfl) ?_
        replace hf := bndc_some hf
        obtain ⟨x5, g6, hc, hf⟩ := hf
        refine m_callVl [.int y6] C h cv_X11_199 (qX9_get hn_y3 hc) rfl ⟨rfl, rfl⟩ ⟨Nat.le_of_ble_eq_true rfl, Nat.le_of_ble_eq_true rfl⟩ (rv_X9 hn_y3 C h) hl.1 rfl (Nat.le_of_ble_eq_true rfl) ⟨Nat.zero_le _, Nat.zero_le _⟩ dX11_judge_66 (fun H locs h => ?_)
        clear hc
        replace hf := bndc_some hf
        obtain ⟨x7, g8, hc, hf⟩ := hf
        refine m_callVi [.long x5] C h cv_X11_202 (qX6_enact (by simp [okS, okT, ok6]) hc) rfl ⟨rfl, rfl⟩ ⟨Nat.le_of_ble_eq_true rfl, Nat.le_of_ble_eq_true rfl⟩ (rv_X6 (by simp [okS, okT, ok6]) C h) hl.1 rfl (Nat.le_of_ble_eq_true rfl) ⟨Nat.zero_le _, Nat.zero_le _⟩ dX11_judge_69 (fun H locs h => ?_)
        clear hc
        refine lv_istore (lv' := [(4, .int x7), (0, .ref (ad 0)), (2, .int y2), (3, .ref (ad y3)), (5, .int y5), (6, .int y6)]) hx hb dX11_judge_72 hl (by decide) rfl (fun ls hl => ?_)
        refine lv_iload hx hb dX11_judge_74 (lv_at hl 0 rfl) ?_
        refine lv_if_ne (tgt := 83) hx hb dX11_judge_76 (by decide) (fun hq => ?_) (fun hq => ?_)
        · replace hf := if_tn hq hf
          clear hq
          refine lv_iload hx hb dX11_judge_83 (lv_at hl 5 rfl) ?_
          refine lv_istore (lv' := [(5, .int y6), (4, .int x7), (0, .ref (ad 0)), (2, .int y2), (3, .ref (ad y3)), (6, .int y6)]) hx hb dX11_judge_85 hl (by decide) rfl (fun ls hl => ?_)
          obtain ⟨x9, ex9⟩ : ∃ z : Int32, z = y6 + (1 : Int32) := ⟨_, rfl⟩
          replace hf := bnd_at ex9 hf
          refine lv_iinc (v := x9) (lv' := [(6, .int x9), (5, .int y6), (4, .int x7), (0, .ref (ad 0)), (2, .int y2), (3, .ref (ad y3))]) hx hb dX11_judge_87 hl (k := 5) rfl (by rw [ex9]; rfl) (by decide) rfl (fun ls hl => ?_)
          clear ex9
          refine lv_goto (tgt := 45) hx hb dX11_judge_90 (by decide) ?_
          exact ih g8 y2 y3 x7 y6 x9 hn_y3 hf H locs ls h (lv_sub hl [3, 4, 5, 2, 1, 0] rfl)
        · replace hf := if_t hq hf
          clear hq
          refine lv_iconst (v := (-1 : Int32)) hx hb dX11_judge_79 (by decide) ?_
          refine lv_goto (tgt := 85) hx hb dX11_judge_80 (by decide) ?_
          refine lv_istore (lv' := [(5, .int (-1 : Int32)), (4, .int x7), (0, .ref (ad 0)), (2, .int y2), (3, .ref (ad y3)), (6, .int y6)]) hx hb dX11_judge_85 hl (by decide) rfl (fun ls hl => ?_)
          obtain ⟨x10, ex10⟩ : ∃ z : Int32, z = y6 + (1 : Int32) := ⟨_, rfl⟩
          replace hf := bnd_at ex10 hf
          refine lv_iinc (v := x10) (lv' := [(6, .int x10), (5, .int (-1 : Int32)), (4, .int x7), (0, .ref (ad 0)), (2, .int y2), (3, .ref (ad y3))]) hx hb dX11_judge_87 hl (k := 5) rfl (by rw [ex10]; rfl) (by decide) rfl (fun ls hl => ?_)
          clear ex10
          refine lv_goto (tgt := 45) hx hb dX11_judge_90 (by decide) ?_
          exact ih g8 y2 y3 x7 (-1 : Int32) x10 hn_y3 hf H locs ls h (lv_sub hl [3, 4, 5, 2, 1, 0] rfl)

set_option maxHeartbeats 4000000 in
set_option maxRecDepth 100000 in
theorem tX11_judge {l : Launch} {D : va_G} {cs : Nat → ClassId} {ad al adK adV : Nat → Nat} {P : PL} (hst : l.stackTraces = false) {kd : Nat} {g' : CS} {g : CS}  {a0 : Int32} {a1 : Int32} (hf : fX11_judge P g a0 a1 = some (Sum.inl kd, g')) : XCon l D cs ad al adK adV yX11_judge cX11_judge 7 (some .int) (rA 7 1 6) [.ref (ad 0), .int a0, .int a1] P g kd g' := by
  refine XCon.of hst (by decide) (Nat.le_of_ble_eq_true rfl) ?_
  intro p e s m args below meth c A ls H locs C hT h hl
  have hx := C.1
  have hb := C.2.1
  have C : MCx p s m args meth c A RX11 cX11_judge 7 (some .int) D cs := C
  have hl : lv_has ls 7 [(0, .ref (ad 0)), (1, .int a0), (2, .int a1)] := hl
  unfold fX11_judge at hf
  refine lv_aload_n hx hb dX11_judge_0 rfl (lv_at hl 0 rfl) ?_
  refine lv_iload_n hx hb dX11_judge_1 rfl (lv_at hl 1 rfl) ?_
  replace hf := bndx_cases hf
  rcases hf with hc | hf
  · exact t_callV [.int a0] C hT h cv_X11_187 (tX11_needTray hT.2.2.2.2 hc) rfl ⟨rfl, rfl⟩ ⟨Nat.le_of_ble_eq_true rfl, Nat.le_of_ble_eq_true rfl⟩ (rv_X11 C h) hl.1 rfl (Nat.le_of_ble_eq_true rfl) ⟨Nat.le_refl 1, Nat.le_refl 6⟩ dX11_judge_2
  obtain ⟨o11, g12, hc, hf⟩ := hf
  refine m_callVr [.int a0] C h cv_X11_187 (qX11_needTray hc) rfl ⟨rfl, rfl⟩ ⟨Nat.le_of_ble_eq_true rfl, Nat.le_of_ble_eq_true rfl⟩ (rv_X11 C h) hl.1 rfl (Nat.le_of_ble_eq_true rfl) ⟨Nat.zero_le _, Nat.zero_le _⟩ dX11_judge_2 (fun H locs h => ?_)
  clear hc
  replace hf := chk_some hf
  obtain ⟨hq, hf⟩ := hf
  have hn_o11 := okTb_t hq
  clear hq
  refine lv_astore_n (lv' := [(3, .ref (ad o11)), (0, .ref (ad 0)), (1, .int a0), (2, .int a1)]) hx hb dX11_judge_5 rfl hl (by decide) rfl (fun ls hl => ?_)
  refine lv_iload_n hx hb dX11_judge_6 rfl (lv_at hl 3 rfl) ?_
  refine lv_if_lt (tgt := 15) hx hb dX11_judge_7 (by decide) (fun hq => ?_) (fun hq => ?_)
  · replace hf := if_t hq hf
    clear hq
    obtain ⟨e1, e2⟩ := xl_inj hf
    subst e1 e2
    exact t_throwS (i := 24) 1 (by decide) (by decide) C hT h tb_9_4 tb_9_5 (by decide) rfl rfl hl.1 dX11_judge_15 dX11_judge_18 dX11_judge_19 dX11_judge_21 dX11_judge_24 (Nat.le_of_ble_eq_true rfl) (Nat.le_of_ble_eq_true rfl) (Nat.le_refl 1) (Nat.le_refl 6)
  · replace hf := if_f hq hf
    clear hq
    refine lv_iload_n hx hb dX11_judge_10 rfl (lv_at hl 3 rfl) ?_
    refine lv_iconst (v := (3 : Int32)) hx hb dX11_judge_11 (by decide) ?_
    refine lv_icmp_le (tgt := 25) hx hb dX11_judge_12 (by decide) (fun hq => ?_) (fun hq => ?_)
    · replace hf := if_t hq hf
      clear hq
      refine lv_aload_n hx hb dX11_judge_25 rfl (lv_at hl 1 rfl) ?_
      refine xg_X11 6 C h (by decide) tb_2_4 rfl rfl dX11_judge_26 ?_
      refine lv_aload_n hx hb dX11_judge_29 rfl (lv_at hl 1 rfl) ?_
      refine xg_X11 5 C h (by decide) tb_2_3 rfl rfl dX11_judge_30 ?_
      replace hf := bndv_some hf
      obtain ⟨g13, hc, hf⟩ := hf
      refine m_callVv [.ref (ad 30)] C h cv_X11_193 (qX6_become (by simp [okS, okT, ok6]) (by simp [okS, okT, ok6]) hc) rfl ⟨rfl, rfl⟩ ⟨Nat.le_of_ble_eq_true rfl, Nat.le_of_ble_eq_true rfl⟩ (rv_X6 (by simp [okS, okT, ok6]) C h) hl.1 rfl (Nat.le_of_ble_eq_true rfl) ⟨Nat.zero_le _, Nat.zero_le _⟩ dX11_judge_33 (fun H locs h => ?_)
      clear hc
      refine lv_iconst (v := (0 : Int32)) hx hb dX11_judge_36 (by decide) ?_
      refine lv_istore (lv' := [(4, .int (0 : Int32)), (3, .ref (ad o11)), (0, .ref (ad 0)), (1, .int a0), (2, .int a1)]) hx hb dX11_judge_37 hl (by decide) rfl (fun ls hl => ?_)
      refine lv_iconst (v := (-1 : Int32)) hx hb dX11_judge_39 (by decide) ?_
      refine lv_istore (lv' := [(5, .int (-1 : Int32)), (4, .int (0 : Int32)), (3, .ref (ad o11)), (0, .ref (ad 0)), (1, .int a0), (2, .int a1)]) hx hb dX11_judge_40 hl (by decide) rfl (fun ls hl => ?_)
      refine lv_iconst (v := (0 : Int32)) hx hb dX11_judge_42 (by decide) ?_
      refine lv_istore (lv' := [(6, .int (0 : Int32)), (5, .int (-1 : Int32)), (4, .int (0 : Int32)), (3, .ref (ad o11)), (0, .ref (ad 0)), (1, .int a0), (2, .int a1)]) hx hb dX11_judge_43 hl (by decide) rfl (fun ls hl => ?_)
      exact uX11_judge_45 (P := P) C hT fuel g13 a1 o11 (0 : Int32) (-1 : Int32) (0 : Int32) hn_o11 hf H locs ls h (lv_sub hl [4, 6, 3, 2, 1, 0] rfl)
    · replace hf := if_f hq hf
      clear hq
      obtain ⟨e1, e2⟩ := xl_inj hf
      subst e1 e2
      exact t_throwS (i := 24) 1 (by decide) (by decide) C hT h tb_9_4 tb_9_5 (by decide) rfl rfl hl.1 dX11_judge_15 dX11_judge_18 dX11_judge_19 dX11_judge_21 dX11_judge_24 (Nat.le_of_ble_eq_true rfl) (Nat.le_of_ble_eq_true rfl) (Nat.le_refl 1) (Nat.le_refl 6)

set_option maxHeartbeats 4000000 in
set_option maxRecDepth 100000 in
theorem uX11_perform_8 (C : MCx p s m args meth c A RX11 cX11_perform 4 (some .int) D cs) (hT : TC l s args c adK adV A)  {kd : Nat} {g' : CS}  : ∀ (n : Nat) (g : CS) (y2 : Nat) (y3 : Int32), okT y2 → fX11_perform_8 P n g y2 y3 = some (Sum.inl kd, g') → ∀ (H : Heap) (locs : List Loc) (ls : Array Slot), MH D (SW cs ad al P g) A s H locs → lv_has ls 4 [(0, .ref (ad 0)), (2, .ref (ad y2)), (3, .int y3)] → W p l e (rA 7 1 6) s m args below meth c H locs 0 0 (vx_MQ below QF (XP D cs ad al P kd g' A) args s 1 6 A) (F0 m 8 ls []) := by
  have hx := C.1
  have hb := C.2.1
  intro n
  induction n with
  | zero =>
    intro g y2 y3 hn_y2 hf
    exact absurd hf (by simp [fX11_perform_8])
  | succ n ih =>
    intro g y2 y3 hn_y2 hf H locs ls h hl
    rw [fX11_perform_8] at hf
    refine lv_iload_n hx hb dX11_perform_8 rfl (lv_at hl 2 rfl) ?_
    refine lv_aload_n hx hb dX11_perform_9 rfl (lv_at hl 1 rfl) ?_
    refine xg_X9 0 hn_y2 C h (by decide) tb_38_23 rfl rfl dX11_perform_10 ?_
    refine lv_icmp_ge (tgt := 37) hx hb dX11_perform_13 (by decide) (fun hq => ?_) (fun hq => ?_)
    · replace hf := if_t hq hf
      clear hq
      refine lv_iload_n hx hb dX11_perform_37 rfl (lv_at hl 2 rfl) ?_
      exact (xr_l hf).elim
    · replace hf := if_f hq hf
      clear hq
      refine lv_aload_n hx hb dX11_perform_16 rfl (lv_at hl 0 rfl) ?_
      refine xg_X11 5 C h (by decide) tb_2_3 rfl rfl dX11_perform_17 ?_
      refine lv_aload_n hx hb dX11_perform_20 rfl (lv_at hl 1 rfl) ?_
      refine lv_iload_n hx hb dX11_perform_21 rfl (lv_at hl 2 rfl) ?_
      replace hf := bndc_some hf
      obtain ⟨x1, g2, hc, hf⟩ := hf
      refine m_callVl [.int y3] C h cv_X11_199 (qX9_get hn_y2 hc) rfl ⟨rfl, rfl⟩ ⟨Nat.le_of_ble_eq_true rfl, Nat.le_of_ble_eq_true rfl⟩ (rv_X9 hn_y2 C h) hl.1 rfl (Nat.le_of_ble_eq_true rfl) ⟨Nat.zero_le _, Nat.zero_le _⟩ dX11_perform_22 (fun H locs h => ?_)
      clear hc
      replace hf := bndc_some hf
      obtain ⟨x3, g4, hc, hf⟩ := hf
      refine m_callVi [.long x1] C h cv_X11_202 (qX6_enact (by simp [okS, okT, ok6]) hc) rfl ⟨rfl, rfl⟩ ⟨Nat.le_of_ble_eq_true rfl, Nat.le_of_ble_eq_true rfl⟩ (rv_X6 (by simp [okS, okT, ok6]) C h) hl.1 rfl (Nat.le_of_ble_eq_true rfl) ⟨Nat.zero_le _, Nat.zero_le _⟩ dX11_perform_25 (fun H locs h => ?_)
      clear hc
      refine lv_if_ne (tgt := 37) hx hb dX11_perform_28 (by decide) (fun hq => ?_) (fun hq => ?_)
      · replace hf := if_tn hq hf
        clear hq
        refine lv_iload_n hx hb dX11_perform_37 rfl (lv_at hl 2 rfl) ?_
        exact (xr_l hf).elim
      · replace hf := if_t hq hf
        clear hq
        obtain ⟨x5, ex5⟩ : ∃ z : Int32, z = y3 + (1 : Int32) := ⟨_, rfl⟩
        replace hf := bnd_at ex5 hf
        refine lv_iinc (v := x5) (lv' := [(3, .int x5), (0, .ref (ad 0)), (2, .ref (ad y2))]) hx hb dX11_perform_31 hl (k := 2) rfl (by rw [ex5]; rfl) (by decide) rfl (fun ls hl => ?_)
        clear ex5
        refine lv_goto (tgt := 8) hx hb dX11_perform_34 (by decide) ?_
        exact ih g4 y2 x5 hn_y2 hf H locs ls h (lv_sub hl [1, 2, 0] rfl)

set_option maxHeartbeats 4000000 in
set_option maxRecDepth 100000 in
theorem tX11_perform {l : Launch} {D : va_G} {cs : Nat → ClassId} {ad al adK adV : Nat → Nat} {P : PL} (hst : l.stackTraces = false) {kd : Nat} {g' : CS} {g : CS}  {a0 : Int32} (hf : fX11_perform P g a0 = some (Sum.inl kd, g')) : XCon l D cs ad al adK adV yX11_perform cX11_perform 4 (some .int) (rA 7 1 6) [.ref (ad 0), .int a0] P g kd g' := by
  refine XCon.of hst (by decide) (Nat.le_of_ble_eq_true rfl) ?_
  intro p e s m args below meth c A ls H locs C hT h hl
  have hx := C.1
  have hb := C.2.1
  have C : MCx p s m args meth c A RX11 cX11_perform 4 (some .int) D cs := C
  have hl : lv_has ls 4 [(0, .ref (ad 0)), (1, .int a0)] := hl
  unfold fX11_perform at hf
  refine lv_aload_n hx hb dX11_perform_0 rfl (lv_at hl 0 rfl) ?_
  refine lv_iload_n hx hb dX11_perform_1 rfl (lv_at hl 1 rfl) ?_
  replace hf := bndx_cases hf
  rcases hf with hc | hf
  · exact t_callV [.int a0] C hT h cv_X11_187 (tX11_needTray hT.2.2.2.2 hc) rfl ⟨rfl, rfl⟩ ⟨Nat.le_of_ble_eq_true rfl, Nat.le_of_ble_eq_true rfl⟩ (rv_X11 C h) hl.1 rfl (Nat.le_of_ble_eq_true rfl) ⟨Nat.le_refl 1, Nat.le_refl 6⟩ dX11_perform_2
  obtain ⟨o6, g7, hc, hf⟩ := hf
  refine m_callVr [.int a0] C h cv_X11_187 (qX11_needTray hc) rfl ⟨rfl, rfl⟩ ⟨Nat.le_of_ble_eq_true rfl, Nat.le_of_ble_eq_true rfl⟩ (rv_X11 C h) hl.1 rfl (Nat.le_of_ble_eq_true rfl) ⟨Nat.zero_le _, Nat.zero_le _⟩ dX11_perform_2 (fun H locs h => ?_)
  clear hc
  replace hf := chk_some hf
  obtain ⟨hq, hf⟩ := hf
  have hn_o6 := okTb_t hq
  clear hq
  refine lv_astore_n (lv' := [(2, .ref (ad o6)), (0, .ref (ad 0)), (1, .int a0)]) hx hb dX11_perform_5 rfl hl (by decide) rfl (fun ls hl => ?_)
  refine lv_iconst (v := (0 : Int32)) hx hb dX11_perform_6 (by decide) ?_
  refine lv_istore_n (lv' := [(3, .int (0 : Int32)), (2, .ref (ad o6)), (0, .ref (ad 0)), (1, .int a0)]) hx hb dX11_perform_7 rfl hl (by decide) rfl (fun ls hl => ?_)
  exact uX11_perform_8 (P := P) C hT fuel g7 o6 (0 : Int32) hn_o6 hf H locs ls h (lv_sub hl [2, 1, 0] rfl)

set_option maxHeartbeats 4000000 in
set_option maxRecDepth 100000 in
theorem uX11_session_111 (C : MCx p s m args meth c A RX11 cX11_session 9 (some .int) D cs) (hT : TC l s args c adK adV A)  {kd : Nat} {g' : CS}  {k29 : CS → Int32 → Int32 → Int32 → Int32 → Option ((Nat ⊕ Int32) × CS)} (hk29 : ∀ (g : CS) (y2 : Int32) (y3 : Int32) (y4 : Int32) (y5 : Int32), k29 g y2 y3 y4 y5 = some (Sum.inl kd, g') → ∀ (H : Heap) (locs : List Loc) (ls : Array Slot), MH D (SW cs ad al P g) A s H locs → lv_has ls 9 [(0, .ref (ad 0)), (2, .int y2), (3, .int y3), (4, .int y4), (5, .int y5)] → W p l e (rA 7 1 6) s m args below meth c H locs 0 0 (vx_MQ below QF (XP D cs ad al P kd g' A) args s 1 6 A) (F0 m 29 ls [])) : ∀ (g : CS) (y2 : Int32) (y3 : Int32) (y4 : Int32) (y5 : Int32) (y6 : Int32) (y7 : Int32) (y8 : Int32), fX11_session_111 P k29 g y2 y3 y4 y5 y6 y7 y8 = some (Sum.inl kd, g') → ∀ (H : Heap) (locs : List Loc) (ls : Array Slot), MH D (SW cs ad al P g) A s H locs → lv_has ls 9 [(0, .ref (ad 0)), (2, .int y2), (3, .int y3), (4, .int y4), (5, .int y5), (6, .int y6), (7, .int y7), (8, .int y8)] → W p l e (rA 7 1 6) s m args below meth c H locs 0 0 (vx_MQ below QF (XP D cs ad al P kd g' A) args s 1 6 A) (F0 m 111 ls []) := by
  have hx := C.1
  have hb := C.2.1
  intro g y2 y3 y4 y5 y6 y7 y8 hf H locs ls h hl
  unfold fX11_session_111 at hf
  refine lv_aload_n hx hb dX11_session_111 rfl (lv_at hl 0 rfl) ?_
  refine lv_iload hx hb dX11_session_112 (lv_at hl 5 rfl) ?_
  refine lv_iload hx hb dX11_session_114 (lv_at hl 6 rfl) ?_
  refine lv_iload hx hb dX11_session_116 (lv_at hl 7 rfl) ?_
  replace hf := bndc_some hf
  obtain ⟨x1, g2, hc, hf⟩ := hf
  refine m_callVi [.int y6, .int y7, .int y8] C h cv_X11_214 (qX11_enactDrawn hc) rfl ⟨rfl, rfl⟩ ⟨Nat.le_of_ble_eq_true rfl, Nat.le_of_ble_eq_true rfl⟩ (rv_X11 C h) hl.1 rfl (Nat.le_of_ble_eq_true rfl) ⟨Nat.zero_le _, Nat.zero_le _⟩ dX11_session_118 (fun H locs h => ?_)
  clear hc
  refine lv_if_ne (tgt := 127) hx hb dX11_session_121 (by decide) (fun hq => ?_) (fun hq => ?_)
  · replace hf := if_tn hq hf
    clear hq
    obtain ⟨x3, ex3⟩ : ∃ z : Int32, z = y5 + (1 : Int32) := ⟨_, rfl⟩
    replace hf := bnd_at ex3 hf
    refine lv_iinc (v := x3) (lv' := [(5, .int x3), (0, .ref (ad 0)), (2, .int y2), (3, .int y3), (4, .int y4), (6, .int y6), (7, .int y7), (8, .int y8)]) hx hb dX11_session_127 hl (k := 4) rfl (by rw [ex3]; rfl) (by decide) rfl (fun ls hl => ?_)
    clear ex3
    refine lv_goto (tgt := 29) hx hb dX11_session_130 (by decide) ?_
    exact hk29 g2 y2 y3 y4 x3 hf H locs ls h (lv_sub hl [1, 2, 3, 4, 0] rfl)
  · replace hf := if_t hq hf
    clear hq
    obtain ⟨x4, ex4⟩ : ∃ z : Int32, z = y4 + (1 : Int32) := ⟨_, rfl⟩
    replace hf := bnd_at ex4 hf
    refine lv_iinc (v := x4) (lv' := [(4, .int x4), (0, .ref (ad 0)), (2, .int y2), (3, .int y3), (5, .int y5), (6, .int y6), (7, .int y7), (8, .int y8)]) hx hb dX11_session_124 hl (k := 3) rfl (by rw [ex4]; rfl) (by decide) rfl (fun ls hl => ?_)
    clear ex4
    obtain ⟨x5, ex5⟩ : ∃ z : Int32, z = y5 + (1 : Int32) := ⟨_, rfl⟩
    replace hf := bnd_at ex5 hf
    refine lv_iinc (v := x5) (lv' := [(5, .int x5), (4, .int x4), (0, .ref (ad 0)), (2, .int y2), (3, .int y3), (6, .int y6), (7, .int y7), (8, .int y8)]) hx hb dX11_session_127 hl (k := 4) rfl (by rw [ex5]; rfl) (by decide) rfl (fun ls hl => ?_)
    clear ex5
    refine lv_goto (tgt := 29) hx hb dX11_session_130 (by decide) ?_
    exact hk29 g2 y2 y3 x4 x5 hf H locs ls h (lv_sub hl [2, 3, 4, 1, 0] rfl)

set_option maxHeartbeats 4000000 in
set_option maxRecDepth 100000 in
theorem uX11_session_107 (C : MCx p s m args meth c A RX11 cX11_session 9 (some .int) D cs) (hT : TC l s args c adK adV A)  {kd : Nat} {g' : CS}  {k29 : CS → Int32 → Int32 → Int32 → Int32 → Option ((Nat ⊕ Int32) × CS)} (hk29 : ∀ (g : CS) (y2 : Int32) (y3 : Int32) (y4 : Int32) (y5 : Int32), k29 g y2 y3 y4 y5 = some (Sum.inl kd, g') → ∀ (H : Heap) (locs : List Loc) (ls : Array Slot), MH D (SW cs ad al P g) A s H locs → lv_has ls 9 [(0, .ref (ad 0)), (2, .int y2), (3, .int y3), (4, .int y4), (5, .int y5)] → W p l e (rA 7 1 6) s m args below meth c H locs 0 0 (vx_MQ below QF (XP D cs ad al P kd g' A) args s 1 6 A) (F0 m 29 ls [])) : ∀ (g : CS) (y2 : Int32) (y3 : Int32) (y4 : Int32) (y5 : Int32) (y6 : Int32) (y7 : Int32) (t0 : Int32) (t1 : Int32) (t2 : Int32), fX11_session_107 P k29 g y2 y3 y4 y5 y6 y7 t0 t1 t2 = some (Sum.inl kd, g') → ∀ (H : Heap) (locs : List Loc) (ls : Array Slot), MH D (SW cs ad al P g) A s H locs → lv_has ls 9 [(0, .ref (ad 0)), (2, .int y2), (3, .int y3), (4, .int y4), (5, .int y5), (6, .int y6), (7, .int y7)] → W p l e (rA 7 1 6) s m args below meth c H locs 0 0 (vx_MQ below QF (XP D cs ad al P kd g' A) args s 1 6 A) (F0 m 107 ls [.int t2, .int t1, .int t0]) := by
  have hx := C.1
  have hb := C.2.1
  intro g y2 y3 y4 y5 y6 y7 t0 t1 t2 hf H locs ls h hl
  unfold fX11_session_107 at hf
  replace hf := chk_some hf
  obtain ⟨hq, hf⟩ := hf
  refine x_irem hx hb dX11_session_107 (nz_ne hq) ?_
  clear hq
  refine lv_iadd hx hb dX11_session_108 ?_
  refine lv_topi (fun x6 ex6 => ?_)
  replace hf := bnd_at ex6 hf
  clear ex6
  refine lv_istore (lv' := [(8, .int x6), (0, .ref (ad 0)), (2, .int y2), (3, .int y3), (4, .int y4), (5, .int y5), (6, .int y6), (7, .int y7)]) hx hb dX11_session_109 hl (by decide) rfl (fun ls hl => ?_)
  exact uX11_session_111 (P := P) C hT hk29 g y2 y3 y4 y5 y6 y7 x6 hf H locs ls h (lv_sub hl [1, 2, 3, 4, 5, 6, 7, 0] rfl)

set_option maxHeartbeats 4000000 in
set_option maxRecDepth 100000 in
theorem uX11_session_73 (C : MCx p s m args meth c A RX11 cX11_session 9 (some .int) D cs) (hT : TC l s args c adK adV A)  {kd : Nat} {g' : CS}  {k29 : CS → Int32 → Int32 → Int32 → Int32 → Option ((Nat ⊕ Int32) × CS)} (hk29 : ∀ (g : CS) (y2 : Int32) (y3 : Int32) (y4 : Int32) (y5 : Int32), k29 g y2 y3 y4 y5 = some (Sum.inl kd, g') → ∀ (H : Heap) (locs : List Loc) (ls : Array Slot), MH D (SW cs ad al P g) A s H locs → lv_has ls 9 [(0, .ref (ad 0)), (2, .int y2), (3, .int y3), (4, .int y4), (5, .int y5)] → W p l e (rA 7 1 6) s m args below meth c H locs 0 0 (vx_MQ below QF (XP D cs ad al P kd g' A) args s 1 6 A) (F0 m 29 ls [])) : ∀ (g : CS) (y2 : Int32) (y3 : Int32) (y4 : Int32) (y5 : Int32) (y6 : Int32) (y7 : Int32) (y8 : Int32), fX11_session_73 P k29 g y2 y3 y4 y5 y6 y7 y8 = some (Sum.inl kd, g') → ∀ (H : Heap) (locs : List Loc) (ls : Array Slot), MH D (SW cs ad al P g) A s H locs → lv_has ls 9 [(0, .ref (ad 0)), (2, .int y2), (3, .int y3), (4, .int y4), (5, .int y5), (6, .int y6), (7, .int y7), (8, .int y8)] → W p l e (rA 7 1 6) s m args below meth c H locs 0 0 (vx_MQ below QF (XP D cs ad al P kd g' A) args s 1 6 A) (F0 m 73 ls []) := by
  have hx := C.1
  have hb := C.2.1
  intro g y2 y3 y4 y5 y6 y7 y8 hf H locs ls h hl
  unfold fX11_session_73 at hf
  refine lv_iload hx hb dX11_session_73 (lv_at hl 5 rfl) ?_
  refine lv_iconst (v := (1 : Int32)) hx hb dX11_session_75 (by decide) ?_
  refine lv_icmp_lt (tgt := 111) hx hb dX11_session_76 (by decide) (fun hq => ?_) (fun hq => ?_)
  · replace hf := if_t hq hf
    clear hq
    exact uX11_session_111 (P := P) C hT hk29 g y2 y3 y4 y5 y6 y7 y8 hf H locs ls h (lv_sub hl [0, 1, 2, 3, 4, 5, 6, 7] rfl)
  · replace hf := if_f hq hf
    clear hq
    refine lv_iload hx hb dX11_session_79 (lv_at hl 5 rfl) ?_
    refine lv_iconst (v := (3 : Int32)) hx hb dX11_session_81 (by decide) ?_
    refine lv_icmp_gt (tgt := 111) hx hb dX11_session_82 (by decide) (fun hq => ?_) (fun hq => ?_)
    · replace hf := if_t hq hf
      clear hq
      exact uX11_session_111 (P := P) C hT hk29 g y2 y3 y4 y5 y6 y7 y8 hf H locs ls h (lv_sub hl [0, 1, 2, 3, 4, 5, 6, 7] rfl)
    · replace hf := if_f hq hf
      clear hq
      refine lv_iload_n hx hb dX11_session_85 rfl (lv_at hl 2 rfl) ?_
      replace hf := bndv_some hf
      obtain ⟨x7, hc, hf⟩ := hf
      refine m_callSi [.int y3] C h cs_X11_211 (qX11_drawnFrom hc) rfl ⟨rfl, rfl⟩ ⟨Nat.le_of_ble_eq_true rfl, Nat.le_of_ble_eq_true rfl⟩ hl.1 rfl (Nat.le_of_ble_eq_true rfl) ⟨Nat.zero_le _, Nat.zero_le _⟩ dX11_session_86 (fun H locs h => ?_)
      clear hc
      refine lv_istore_n (lv' := [(3, .int x7), (0, .ref (ad 0)), (2, .int y2), (4, .int y4), (5, .int y5), (6, .int y6), (7, .int y7), (8, .int y8)]) hx hb dX11_session_89 rfl hl (by decide) rfl (fun ls hl => ?_)
      refine lv_iconst (v := (1 : Int32)) hx hb dX11_session_90 (by decide) ?_
      refine lv_iload_n hx hb dX11_session_91 rfl (lv_at hl 0 rfl) ?_
      refine lv_bipush (v := (16 : Int32)) hx hb dX11_session_92 (by decide) ?_
      refine x_iushr hx hb dX11_session_94 ?_
      refine lv_iload hx hb dX11_session_95 (lv_at hl 5 rfl) ?_
      refine lv_iconst (v := (3 : Int32)) hx hb dX11_session_97 (by decide) ?_
      refine lv_icmp_ne (tgt := 106) hx hb dX11_session_98 (by decide) (fun hq => ?_) (fun hq => ?_)
      · replace hf := if_tn hq hf
        clear hq
        refine lv_iconst (v := (5 : Int32)) hx hb dX11_session_106 (by decide) ?_
        exact uX11_session_107 (P := P) C hT hk29 g y2 x7 y4 y5 y6 y7 (1 : Int32) (jush x7 (16 : Int32)) (5 : Int32) hf H locs ls h (lv_sub hl [1, 2, 0, 3, 4, 5, 6] rfl)
      · replace hf := if_t hq hf
        clear hq
        refine lv_bipush (v := (9 : Int32)) hx hb dX11_session_101 (by decide) ?_
        refine lv_goto (tgt := 107) hx hb dX11_session_103 (by decide) ?_
        exact uX11_session_107 (P := P) C hT hk29 g y2 x7 y4 y5 y6 y7 (1 : Int32) (jush x7 (16 : Int32)) (9 : Int32) hf H locs ls h (lv_sub hl [1, 2, 0, 3, 4, 5, 6] rfl)

set_option maxHeartbeats 4000000 in
set_option maxRecDepth 100000 in
theorem uX11_session_29 (C : MCx p s m args meth c A RX11 cX11_session 9 (some .int) D cs) (hT : TC l s args c adK adV A)  {kd : Nat} {g' : CS}  : ∀ (n : Nat) (g : CS) (y2 : Int32) (y3 : Int32) (y4 : Int32) (y5 : Int32), fX11_session_29 P n g y2 y3 y4 y5 = some (Sum.inl kd, g') → ∀ (H : Heap) (locs : List Loc) (ls : Array Slot), MH D (SW cs ad al P g) A s H locs → lv_has ls 9 [(0, .ref (ad 0)), (2, .int y2), (3, .int y3), (4, .int y4), (5, .int y5)] → W p l e (rA 7 1 6) s m args below meth c H locs 0 0 (vx_MQ below QF (XP D cs ad al P kd g' A) args s 1 6 A) (F0 m 29 ls []) := by
  have hx := C.1
  have hb := C.2.1
  intro n
  induction n with
  | zero =>
    intro g y2 y3 y4 y5 hf
    exact absurd hf (by simp [fX11_session_29])
  | succ n ih =>
    intro g y2 y3 y4 y5 hf H locs ls h hl
    rw [fX11_session_29] at hf
    refine lv_iload hx hb dX11_session_29 (lv_at hl 4 rfl) ?_
    refine lv_iload_n hx hb dX11_session_31 rfl (lv_at hl 1 rfl) ?_
    refine lv_icmp_ge (tgt := 133) hx hb dX11_session_32 (by decide) (fun hq => ?_) (fun hq => ?_)
    · replace hf := if_t hq hf
      clear hq
      refine lv_iload hx hb dX11_session_133 (lv_at hl 3 rfl) ?_
      exact (xr_l hf).elim
    · replace hf := if_f hq hf
      clear hq
      refine lv_iload_n hx hb dX11_session_35 rfl (lv_at hl 2 rfl) ?_
      replace hf := bndv_some hf
      obtain ⟨x8, hc, hf⟩ := hf
      refine m_callSi [.int y3] C h cs_X11_211 (qX11_drawnFrom hc) rfl ⟨rfl, rfl⟩ ⟨Nat.le_of_ble_eq_true rfl, Nat.le_of_ble_eq_true rfl⟩ hl.1 rfl (Nat.le_of_ble_eq_true rfl) ⟨Nat.zero_le _, Nat.zero_le _⟩ dX11_session_36 (fun H locs h => ?_)
      clear hc
      refine lv_istore_n (lv' := [(3, .int x8), (0, .ref (ad 0)), (2, .int y2), (4, .int y4), (5, .int y5)]) hx hb dX11_session_39 rfl hl (by decide) rfl (fun ls hl => ?_)
      refine lv_iload_n hx hb dX11_session_40 rfl (lv_at hl 0 rfl) ?_
      refine lv_bipush (v := (16 : Int32)) hx hb dX11_session_41 (by decide) ?_
      refine x_iushr hx hb dX11_session_43 ?_
      refine lv_iconst (v := (5 : Int32)) hx hb dX11_session_44 (by decide) ?_
      replace hf := chk_some hf
      obtain ⟨hq, hf⟩ := hf
      refine x_irem hx hb dX11_session_45 (nz_ne hq) ?_
      clear hq
      refine lv_topi (fun x9 ex9 => ?_)
      replace hf := bnd_at ex9 hf
      clear ex9
      refine lv_istore (lv' := [(6, .int x9), (3, .int x8), (0, .ref (ad 0)), (2, .int y2), (4, .int y4), (5, .int y5)]) hx hb dX11_session_46 hl (by decide) rfl (fun ls hl => ?_)
      refine lv_iconst (v := (0 : Int32)) hx hb dX11_session_48 (by decide) ?_
      refine lv_istore (lv' := [(7, .int (0 : Int32)), (6, .int x9), (3, .int x8), (0, .ref (ad 0)), (2, .int y2), (4, .int y4), (5, .int y5)]) hx hb dX11_session_49 hl (by decide) rfl (fun ls hl => ?_)
      refine lv_iconst (v := (0 : Int32)) hx hb dX11_session_51 (by decide) ?_
      refine lv_istore (lv' := [(8, .int (0 : Int32)), (7, .int (0 : Int32)), (6, .int x9), (3, .int x8), (0, .ref (ad 0)), (2, .int y2), (4, .int y4), (5, .int y5)]) hx hb dX11_session_52 hl (by decide) rfl (fun ls hl => ?_)
      refine lv_iload hx hb dX11_session_54 (lv_at hl 2 rfl) ?_
      refine lv_if_eq (tgt := 73) hx hb dX11_session_56 (by decide) (fun hq => ?_) (fun hq => ?_)
      · replace hf := if_t hq hf
        clear hq
        exact uX11_session_73 (P := P) C hT ih g y2 x8 y4 y5 x9 (0 : Int32) (0 : Int32) hf H locs ls h (lv_sub hl [4, 5, 3, 6, 7, 2, 1, 0] rfl)
      · replace hf := if_f hq hf
        clear hq
        refine lv_iload_n hx hb dX11_session_59 rfl (lv_at hl 3 rfl) ?_
        replace hf := bndv_some hf
        obtain ⟨x10, hc, hf⟩ := hf
        refine m_callSi [.int x8] C h cs_X11_211 (qX11_drawnFrom hc) rfl ⟨rfl, rfl⟩ ⟨Nat.le_of_ble_eq_true rfl, Nat.le_of_ble_eq_true rfl⟩ hl.1 rfl (Nat.le_of_ble_eq_true rfl) ⟨Nat.zero_le _, Nat.zero_le _⟩ dX11_session_60 (fun H locs h => ?_)
        clear hc
        refine lv_istore_n (lv' := [(3, .int x10), (8, .int (0 : Int32)), (7, .int (0 : Int32)), (6, .int x9), (0, .ref (ad 0)), (2, .int y2), (4, .int y4), (5, .int y5)]) hx hb dX11_session_63 rfl hl (by decide) rfl (fun ls hl => ?_)
        refine lv_iload_n hx hb dX11_session_64 rfl (lv_at hl 0 rfl) ?_
        refine lv_bipush (v := (16 : Int32)) hx hb dX11_session_65 (by decide) ?_
        refine x_iushr hx hb dX11_session_67 ?_
        refine lv_bipush (v := (6 : Int32)) hx hb dX11_session_68 (by decide) ?_
        replace hf := chk_some hf
        obtain ⟨hq, hf⟩ := hf
        refine x_irem hx hb dX11_session_70 (nz_ne hq) ?_
        clear hq
        refine lv_topi (fun x11 ex11 => ?_)
        replace hf := bnd_at ex11 hf
        clear ex11
        refine lv_istore (lv' := [(7, .int x11), (3, .int x10), (8, .int (0 : Int32)), (6, .int x9), (0, .ref (ad 0)), (2, .int y2), (4, .int y4), (5, .int y5)]) hx hb dX11_session_71 hl (by decide) rfl (fun ls hl => ?_)
        exact uX11_session_73 (P := P) C hT ih g y2 x10 y4 y5 x9 x11 (0 : Int32) hf H locs ls h (lv_sub hl [4, 5, 1, 6, 7, 3, 0, 2] rfl)

set_option maxHeartbeats 4000000 in
set_option maxRecDepth 100000 in
theorem tX11_session {l : Launch} {D : va_G} {cs : Nat → ClassId} {ad al adK adV : Nat → Nat} {P : PL} (hst : l.stackTraces = false) {kd : Nat} {g' : CS} {g : CS}  {a0 : Int32} {a1 : Int32} (hf : fX11_session P g a0 a1 = some (Sum.inl kd, g')) : XCon l D cs ad al adK adV yX11_session cX11_session 9 (some .int) (rA 7 1 6) [.ref (ad 0), .int a0, .int a1] P g kd g' := by
  refine XCon.of hst (by decide) (Nat.le_of_ble_eq_true rfl) ?_
  intro p e s m args below meth c A ls H locs C hT h hl
  have hx := C.1
  have hb := C.2.1
  have C : MCx p s m args meth c A RX11 cX11_session 9 (some .int) D cs := C
  have hl : lv_has ls 9 [(0, .ref (ad 0)), (1, .int a0), (2, .int a1)] := hl
  unfold fX11_session at hf
  refine lv_iload_n hx hb dX11_session_0 rfl (lv_at hl 2 rfl) ?_
  refine lv_iconst (v := (1 : Int32)) hx hb dX11_session_1 (by decide) ?_
  refine lv_icmp_lt (tgt := 11) hx hb dX11_session_2 (by decide) (fun hq => ?_) (fun hq => ?_)
  · replace hf := if_t hq hf
    clear hq
    obtain ⟨e1, e2⟩ := xl_inj hf
    subst e1 e2
    exact t_throwS (i := 25) 1 (by decide) (by decide) C hT h tb_9_4 tb_9_5 (by decide) rfl rfl hl.1 dX11_session_11 dX11_session_14 dX11_session_15 dX11_session_17 dX11_session_20 (Nat.le_of_ble_eq_true rfl) (Nat.le_of_ble_eq_true rfl) (Nat.le_refl 1) (Nat.le_refl 6)
  · replace hf := if_f hq hf
    clear hq
    refine lv_iload_n hx hb dX11_session_5 rfl (lv_at hl 2 rfl) ?_
    refine lv_bipush (v := (30 : Int32)) hx hb dX11_session_6 (by decide) ?_
    refine lv_icmp_le (tgt := 21) hx hb dX11_session_8 (by decide) (fun hq => ?_) (fun hq => ?_)
    · replace hf := if_t hq hf
      clear hq
      refine lv_iload_n hx hb dX11_session_21 rfl (lv_at hl 1 rfl) ?_
      refine lv_istore_n (lv' := [(3, .int a0), (0, .ref (ad 0)), (1, .int a0), (2, .int a1)]) hx hb dX11_session_22 rfl hl (by decide) rfl (fun ls hl => ?_)
      refine lv_iconst (v := (0 : Int32)) hx hb dX11_session_23 (by decide) ?_
      refine lv_istore (lv' := [(4, .int (0 : Int32)), (3, .int a0), (0, .ref (ad 0)), (1, .int a0), (2, .int a1)]) hx hb dX11_session_24 hl (by decide) rfl (fun ls hl => ?_)
      refine lv_iconst (v := (0 : Int32)) hx hb dX11_session_26 (by decide) ?_
      refine lv_istore (lv' := [(5, .int (0 : Int32)), (4, .int (0 : Int32)), (3, .int a0), (0, .ref (ad 0)), (1, .int a0), (2, .int a1)]) hx hb dX11_session_27 hl (by decide) rfl (fun ls hl => ?_)
      exact uX11_session_29 (P := P) C hT fuel g a1 a0 (0 : Int32) (0 : Int32) hf H locs ls h (lv_sub hl [3, 5, 2, 1, 0] rfl)
    · replace hf := if_f hq hf
      clear hq
      obtain ⟨e1, e2⟩ := xl_inj hf
      subst e1 e2
      exact t_throwS (i := 25) 1 (by decide) (by decide) C hT h tb_9_4 tb_9_5 (by decide) rfl rfl hl.1 dX11_session_11 dX11_session_14 dX11_session_15 dX11_session_17 dX11_session_20 (Nat.le_of_ble_eq_true rfl) (Nat.le_of_ble_eq_true rfl) (Nat.le_refl 1) (Nat.le_refl 6)

set_option maxHeartbeats 4000000 in
set_option maxRecDepth 100000 in
theorem tX11_needLook {l : Launch} {D : va_G} {cs : Nat → ClassId} {ad al adK adV : Nat → Nat} {P : PL} (hst : l.stackTraces = false) {kd : Nat} {g' : CS} {g : CS}  {a0 : Int32} (hf : fX11_needLook P g a0 = some (Sum.inl kd, g')) : XCon l D cs ad al adK adV yX11_needLook cX11_needLook 3 (some (.object "SwivelBoard$Tray")) (rA 7 1 6) [.ref (ad 0), .int a0] P g kd g' := by
  refine XCon.of hst (by decide) (Nat.le_of_ble_eq_true rfl) ?_
  intro p e s m args below meth c A ls H locs C hT h hl
  have hx := C.1
  have hb := C.2.1
  have C : MCx p s m args meth c A RX11 cX11_needLook 3 (some (.object "SwivelBoard$Tray")) D cs := C
  have hl : lv_has ls 3 [(0, .ref (ad 0)), (1, .int a0)] := hl
  unfold fX11_needLook at hf
  refine lv_aload_n hx hb dX11_needLook_0 rfl (lv_at hl 0 rfl) ?_
  refine lv_iload_n hx hb dX11_needLook_1 rfl (lv_at hl 1 rfl) ?_
  replace hf := bndx_cases hf
  rcases hf with hc | hf
  · exact t_callV [.int a0] C hT h cv_X11_187 (tX11_needTray hT.2.2.2.2 hc) rfl ⟨rfl, rfl⟩ ⟨Nat.le_of_ble_eq_true rfl, Nat.le_of_ble_eq_true rfl⟩ (rv_X11 C h) hl.1 rfl (Nat.le_of_ble_eq_true rfl) ⟨Nat.le_refl 1, Nat.le_refl 6⟩ dX11_needLook_2
  obtain ⟨o1, g2, hc, hf⟩ := hf
  refine m_callVr [.int a0] C h cv_X11_187 (qX11_needTray hc) rfl ⟨rfl, rfl⟩ ⟨Nat.le_of_ble_eq_true rfl, Nat.le_of_ble_eq_true rfl⟩ (rv_X11 C h) hl.1 rfl (Nat.le_of_ble_eq_true rfl) ⟨Nat.zero_le _, Nat.zero_le _⟩ dX11_needLook_2 (fun H locs h => ?_)
  clear hc
  replace hf := chk_some hf
  obtain ⟨hq, hf⟩ := hf
  have hn_o1 := okTb_t hq
  clear hq
  refine lv_astore_n (lv' := [(2, .ref (ad o1)), (0, .ref (ad 0)), (1, .int a0)]) hx hb dX11_needLook_5 rfl hl (by decide) rfl (fun ls hl => ?_)
  refine lv_aload_n hx hb dX11_needLook_6 rfl (lv_at hl 0 rfl) ?_
  refine lv_aload_n hx hb dX11_needLook_7 rfl (lv_at hl 1 rfl) ?_
  refine xg_X11 5 C h (by decide) tb_2_3 rfl rfl dX11_needLook_8 ?_
  refine xg_X6 1 (by simp [okS, okT, ok6]) C h (by decide) tb_43_11 rfl rfl dX11_needLook_11 ?_
  replace hf := bndc_some hf
  obtain ⟨x3, g4, hc, hf⟩ := hf
  refine m_callVi [.int (g2.1 30 1)] C h cv_X11_407 (qX9_tellsLook hn_o1 hc) rfl ⟨rfl, rfl⟩ ⟨Nat.le_of_ble_eq_true rfl, Nat.le_of_ble_eq_true rfl⟩ (rv_X9 hn_o1 C h) hl.1 rfl (Nat.le_of_ble_eq_true rfl) ⟨Nat.zero_le _, Nat.zero_le _⟩ dX11_needLook_14 (fun H locs h => ?_)
  clear hc
  refine lv_if_ne (tgt := 31) hx hb dX11_needLook_17 (by decide) (fun hq => ?_) (fun hq => ?_)
  · replace hf := if_tn hq hf
    clear hq
    refine lv_aload_n hx hb dX11_needLook_31 rfl (lv_at hl 0 rfl) ?_
    exact (xr_l hf).elim
  · replace hf := if_t hq hf
    clear hq
    obtain ⟨e1, e2⟩ := xl_inj hf
    subst e1 e2
    exact t_throwW (i := 26) 1 (by decide) (by decide) C hT h tb_9_4 tb_9_5 (by decide) rfl rfl hl.1 dX11_needLook_20 dX11_needLook_23 dX11_needLook_24 dX11_needLook_27 dX11_needLook_30 (Nat.le_of_ble_eq_true rfl) (Nat.le_of_ble_eq_true rfl) (Nat.le_refl 1) (Nat.le_refl 6)

set_option maxHeartbeats 4000000 in
set_option maxRecDepth 100000 in
theorem tX11_needPathQuestion {l : Launch} {D : va_G} {cs : Nat → ClassId} {ad al adK adV : Nat → Nat} {P : PL} (hst : l.stackTraces = false) {kd : Nat} {g' : CS} {g : CS}  {a0 : Int32} (hf : fX11_needPathQuestion P g a0 = some (Sum.inl kd, g')) : XCon l D cs ad al adK adV yX11_needPathQuestion cX11_needPathQuestion 2 none (rA 6 1 6) [.ref (ad 0), .int a0] P g kd g' := by
  refine XCon.of hst (by decide) (Nat.le_of_ble_eq_true rfl) ?_
  intro p e s m args below meth c A ls H locs C hT h hl
  have hx := C.1
  have hb := C.2.1
  have C : MCx p s m args meth c A RX11 cX11_needPathQuestion 2 none D cs := C
  have hl : lv_has ls 2 [(0, .ref (ad 0)), (1, .int a0)] := hl
  unfold fX11_needPathQuestion at hf
  refine lv_iload_n hx hb dX11_needPathQuestion_0 rfl (lv_at hl 1 rfl) ?_
  refine lv_if_eq (tgt := 27) hx hb dX11_needPathQuestion_1 (by decide) (fun hq => ?_) (fun hq => ?_)
  · replace hf := if_t hq hf
    clear hq
    exact (xr_l hf).elim
  · replace hf := if_f hq hf
    clear hq
    refine lv_iload_n hx hb dX11_needPathQuestion_4 rfl (lv_at hl 1 rfl) ?_
    refine lv_bipush (v := (10 : Int32)) hx hb dX11_needPathQuestion_5 (by decide) ?_
    refine lv_icmp_lt (tgt := 16) hx hb dX11_needPathQuestion_7 (by decide) (fun hq => ?_) (fun hq => ?_)
    · replace hf := if_t hq hf
      clear hq
      obtain ⟨e1, e2⟩ := xl_inj hf
      subst e1 e2
      exact t_throwW (i := 27) 1 (by decide) (by decide) C hT h tb_9_4 tb_9_5 (by decide) rfl rfl hl.1 dX11_needPathQuestion_16 dX11_needPathQuestion_19 dX11_needPathQuestion_20 dX11_needPathQuestion_23 dX11_needPathQuestion_26 (Nat.le_of_ble_eq_true rfl) (Nat.le_of_ble_eq_true rfl) (Nat.le_refl 1) (Nat.le_refl 6)
    · replace hf := if_f hq hf
      clear hq
      refine lv_iload_n hx hb dX11_needPathQuestion_10 rfl (lv_at hl 1 rfl) ?_
      refine lv_bipush (v := (16 : Int32)) hx hb dX11_needPathQuestion_11 (by decide) ?_
      refine lv_icmp_lt (tgt := 27) hx hb dX11_needPathQuestion_13 (by decide) (fun hq => ?_) (fun hq => ?_)
      · replace hf := if_t hq hf
        clear hq
        exact (xr_l hf).elim
      · replace hf := if_f hq hf
        clear hq
        obtain ⟨e1, e2⟩ := xl_inj hf
        subst e1 e2
        exact t_throwW (i := 27) 1 (by decide) (by decide) C hT h tb_9_4 tb_9_5 (by decide) rfl rfl hl.1 dX11_needPathQuestion_16 dX11_needPathQuestion_19 dX11_needPathQuestion_20 dX11_needPathQuestion_23 dX11_needPathQuestion_26 (Nat.le_of_ble_eq_true rfl) (Nat.le_of_ble_eq_true rfl) (Nat.le_refl 1) (Nat.le_refl 6)

set_option maxHeartbeats 4000000 in
set_option maxRecDepth 100000 in
theorem tX11_cheapest {l : Launch} {D : va_G} {cs : Nat → ClassId} {ad al adK adV : Nat → Nat} {P : PL} (hst : l.stackTraces = false) {kd : Nat} {g' : CS} {g : CS}  {a0 : Int32} {a1 : Int32} (hf : fX11_cheapest P g a0 a1 = some (Sum.inl kd, g')) : XCon l D cs ad al adK adV yX11_cheapest cX11_cheapest 4 (some .int) (rA 8 1 6) [.ref (ad 0), .int a0, .int a1] P g kd g' := by
  refine XCon.of hst (by decide) (Nat.le_of_ble_eq_true rfl) ?_
  intro p e s m args below meth c A ls H locs C hT h hl
  have hx := C.1
  have hb := C.2.1
  have C : MCx p s m args meth c A RX11 cX11_cheapest 4 (some .int) D cs := C
  have hl : lv_has ls 4 [(0, .ref (ad 0)), (1, .int a0), (2, .int a1)] := hl
  unfold fX11_cheapest at hf
  refine lv_aload_n hx hb dX11_cheapest_0 rfl (lv_at hl 0 rfl) ?_
  refine lv_iload_n hx hb dX11_cheapest_1 rfl (lv_at hl 1 rfl) ?_
  replace hf := bndx_cases hf
  rcases hf with hc | hf
  · exact t_callV [.int a0] C hT h cv_X11_217 (tX11_needLook hT.2.2.2.2 hc) rfl ⟨rfl, rfl⟩ ⟨Nat.le_of_ble_eq_true rfl, Nat.le_of_ble_eq_true rfl⟩ (rv_X11 C h) hl.1 rfl (Nat.le_of_ble_eq_true rfl) ⟨Nat.le_refl 1, Nat.le_refl 6⟩ dX11_cheapest_2
  obtain ⟨o1, g2, hc, hf⟩ := hf
  refine m_callVr [.int a0] C h cv_X11_217 (qX11_needLook hc) rfl ⟨rfl, rfl⟩ ⟨Nat.le_of_ble_eq_true rfl, Nat.le_of_ble_eq_true rfl⟩ (rv_X11 C h) hl.1 rfl (Nat.le_of_ble_eq_true rfl) ⟨Nat.zero_le _, Nat.zero_le _⟩ dX11_cheapest_2 (fun H locs h => ?_)
  clear hc
  replace hf := chk_some hf
  obtain ⟨hq, hf⟩ := hf
  have hn_o1 := okTb_t hq
  clear hq
  refine lv_astore_n (lv' := [(3, .ref (ad o1)), (0, .ref (ad 0)), (1, .int a0), (2, .int a1)]) hx hb dX11_cheapest_5 rfl hl (by decide) rfl (fun ls hl => ?_)
  refine lv_aload_n hx hb dX11_cheapest_6 rfl (lv_at hl 1 rfl) ?_
  refine lv_iload_n hx hb dX11_cheapest_7 rfl (lv_at hl 3 rfl) ?_
  replace hf := bndx_cases hf
  rcases hf with hc | hf
  · exact t_callV [.int a1] C hT h cv_X11_220 (tX11_needPathQuestion hT.2.2.2.2 hc) rfl ⟨rfl, rfl⟩ ⟨Nat.le_of_ble_eq_true rfl, Nat.le_of_ble_eq_true rfl⟩ (rv_X11 C h) hl.1 rfl (Nat.le_of_ble_eq_true rfl) ⟨Nat.le_refl 1, Nat.le_refl 6⟩ dX11_cheapest_8
  obtain ⟨x3, g4, hc, hf⟩ := hf
  refine m_callVv [.int a1] C h cv_X11_220 (qX11_needPathQuestion hc) rfl ⟨rfl, rfl⟩ ⟨Nat.le_of_ble_eq_true rfl, Nat.le_of_ble_eq_true rfl⟩ (rv_X11 C h) hl.1 rfl (Nat.le_of_ble_eq_true rfl) ⟨Nat.zero_le _, Nat.zero_le _⟩ dX11_cheapest_8 (fun H locs h => ?_)
  clear hc
  refine lv_aload_n hx hb dX11_cheapest_11 rfl (lv_at hl 1 rfl) ?_
  refine xg_X11 10 C h (by decide) tb_2_16 rfl rfl dX11_cheapest_12 ?_
  refine lv_aload_n hx hb dX11_cheapest_15 rfl (lv_at hl 0 rfl) ?_
  refine lv_aload_n hx hb dX11_cheapest_16 rfl (lv_at hl 1 rfl) ?_
  refine xg_X11 5 C h (by decide) tb_2_3 rfl rfl dX11_cheapest_17 ?_
  refine xg_X6 1 (by simp [okS, okT, ok6]) C h (by decide) tb_43_11 rfl rfl dX11_cheapest_20 ?_
  replace hf := bndc_some hf
  obtain ⟨x5, g6, hc, hf⟩ := hf
  refine m_callVi [.int (g4.1 30 1)] C h cv_X11_226 (qX9_maskOf hn_o1 hc) rfl ⟨rfl, rfl⟩ ⟨Nat.le_of_ble_eq_true rfl, Nat.le_of_ble_eq_true rfl⟩ (rv_X9 hn_o1 C h) hl.1 rfl (Nat.le_of_ble_eq_true rfl) ⟨Nat.zero_le _, Nat.zero_le _⟩ dX11_cheapest_23 (fun H locs h => ?_)
  clear hc
  refine lv_aload_n hx hb dX11_cheapest_26 rfl (lv_at hl 0 rfl) ?_
  refine lv_aload_n hx hb dX11_cheapest_27 rfl (lv_at hl 1 rfl) ?_
  refine xg_X11 5 C h (by decide) tb_2_3 rfl rfl dX11_cheapest_28 ?_
  refine xg_X6 1 (by simp [okS, okT, ok6]) C h (by decide) tb_43_11 rfl rfl dX11_cheapest_31 ?_
  replace hf := bndc_some hf
  obtain ⟨x7, g8, hc, hf⟩ := hf
  refine m_callVi [.int (g6.1 30 1)] C h cv_X11_229 (qX9_aimsOf hn_o1 hc) rfl ⟨rfl, rfl⟩ ⟨Nat.le_of_ble_eq_true rfl, Nat.le_of_ble_eq_true rfl⟩ (rv_X9 hn_o1 C h) hl.1 rfl (Nat.le_of_ble_eq_true rfl) ⟨Nat.zero_le _, Nat.zero_le _⟩ dX11_cheapest_34 (fun H locs h => ?_)
  clear hc
  replace hf := bndv_some hf
  obtain ⟨g9, hc, hf⟩ := hf
  refine m_callVv [.int x5, .int x7] C h cv_X11_232 (qX7_tell hc) rfl ⟨rfl, rfl⟩ ⟨Nat.le_of_ble_eq_true rfl, Nat.le_of_ble_eq_true rfl⟩ (rv_X7 C h) hl.1 rfl (Nat.le_of_ble_eq_true rfl) ⟨Nat.zero_le _, Nat.zero_le _⟩ dX11_cheapest_37 (fun H locs h => ?_)
  clear hc
  refine lv_aload_n hx hb dX11_cheapest_40 rfl (lv_at hl 1 rfl) ?_
  refine lv_aload_n hx hb dX11_cheapest_41 rfl (lv_at hl 1 rfl) ?_
  refine xg_X11 10 C h (by decide) tb_2_16 rfl rfl dX11_cheapest_42 ?_
  refine xg_X7 8 C h (by decide) tb_43_12 rfl rfl dX11_cheapest_45 ?_
  refine lv_aload_n hx hb dX11_cheapest_48 rfl (lv_at hl 1 rfl) ?_
  refine xg_X11 10 C h (by decide) tb_2_16 rfl rfl dX11_cheapest_49 ?_
  refine xg_X7 9 C h (by decide) tb_43_13 rfl rfl dX11_cheapest_52 ?_
  refine lv_iload_n hx hb dX11_cheapest_55 rfl (lv_at hl 3 rfl) ?_
  replace hf := bndc_some hf
  obtain ⟨x10, g11, hc, hf⟩ := hf
  refine m_callVi [.int (g9.1 17 8), .int (g9.1 17 9), .int a1] C h cv_X11_242 (qX11_pathAnswer hc) rfl ⟨rfl, rfl⟩ ⟨Nat.le_of_ble_eq_true rfl, Nat.le_of_ble_eq_true rfl⟩ (rv_X11 C h) hl.1 rfl (Nat.le_of_ble_eq_true rfl) ⟨Nat.zero_le _, Nat.zero_le _⟩ dX11_cheapest_56 (fun H locs h => ?_)
  clear hc
  exact (xr_l hf).elim

set_option maxHeartbeats 4000000 in
set_option maxRecDepth 100000 in
theorem tX11_ways {l : Launch} {D : va_G} {cs : Nat → ClassId} {ad al adK adV : Nat → Nat} {P : PL} (hst : l.stackTraces = false) {kd : Nat} {g' : CS} {g : CS}  {a0 : Int32} (hf : fX11_ways P g a0 = some (Sum.inl kd, g')) : XCon l D cs ad al adK adV yX11_ways cX11_ways 3 (some .int) (rA 8 1 6) [.ref (ad 0), .int a0] P g kd g' := by
  refine XCon.of hst (by decide) (Nat.le_of_ble_eq_true rfl) ?_
  intro p e s m args below meth c A ls H locs C hT h hl
  have hx := C.1
  have hb := C.2.1
  have C : MCx p s m args meth c A RX11 cX11_ways 3 (some .int) D cs := C
  have hl : lv_has ls 3 [(0, .ref (ad 0)), (1, .int a0)] := hl
  unfold fX11_ways at hf
  refine lv_aload_n hx hb dX11_ways_0 rfl (lv_at hl 0 rfl) ?_
  refine lv_iload_n hx hb dX11_ways_1 rfl (lv_at hl 1 rfl) ?_
  replace hf := bndx_cases hf
  rcases hf with hc | hf
  · exact t_callV [.int a0] C hT h cv_X11_217 (tX11_needLook hT.2.2.2.2 hc) rfl ⟨rfl, rfl⟩ ⟨Nat.le_of_ble_eq_true rfl, Nat.le_of_ble_eq_true rfl⟩ (rv_X11 C h) hl.1 rfl (Nat.le_of_ble_eq_true rfl) ⟨Nat.le_refl 1, Nat.le_refl 6⟩ dX11_ways_2
  obtain ⟨o1, g2, hc, hf⟩ := hf
  refine m_callVr [.int a0] C h cv_X11_217 (qX11_needLook hc) rfl ⟨rfl, rfl⟩ ⟨Nat.le_of_ble_eq_true rfl, Nat.le_of_ble_eq_true rfl⟩ (rv_X11 C h) hl.1 rfl (Nat.le_of_ble_eq_true rfl) ⟨Nat.zero_le _, Nat.zero_le _⟩ dX11_ways_2 (fun H locs h => ?_)
  clear hc
  replace hf := chk_some hf
  obtain ⟨hq, hf⟩ := hf
  have hn_o1 := okTb_t hq
  clear hq
  refine lv_astore_n (lv' := [(2, .ref (ad o1)), (0, .ref (ad 0)), (1, .int a0)]) hx hb dX11_ways_5 rfl hl (by decide) rfl (fun ls hl => ?_)
  refine lv_aload_n hx hb dX11_ways_6 rfl (lv_at hl 1 rfl) ?_
  refine xg_X11 10 C h (by decide) tb_2_16 rfl rfl dX11_ways_7 ?_
  refine lv_aload_n hx hb dX11_ways_10 rfl (lv_at hl 0 rfl) ?_
  refine lv_aload_n hx hb dX11_ways_11 rfl (lv_at hl 1 rfl) ?_
  refine xg_X11 5 C h (by decide) tb_2_3 rfl rfl dX11_ways_12 ?_
  refine xg_X6 1 (by simp [okS, okT, ok6]) C h (by decide) tb_43_11 rfl rfl dX11_ways_15 ?_
  replace hf := bndc_some hf
  obtain ⟨x3, g4, hc, hf⟩ := hf
  refine m_callVi [.int (g2.1 30 1)] C h cv_X11_226 (qX9_maskOf hn_o1 hc) rfl ⟨rfl, rfl⟩ ⟨Nat.le_of_ble_eq_true rfl, Nat.le_of_ble_eq_true rfl⟩ (rv_X9 hn_o1 C h) hl.1 rfl (Nat.le_of_ble_eq_true rfl) ⟨Nat.zero_le _, Nat.zero_le _⟩ dX11_ways_18 (fun H locs h => ?_)
  clear hc
  refine lv_aload_n hx hb dX11_ways_21 rfl (lv_at hl 0 rfl) ?_
  refine lv_aload_n hx hb dX11_ways_22 rfl (lv_at hl 1 rfl) ?_
  refine xg_X11 5 C h (by decide) tb_2_3 rfl rfl dX11_ways_23 ?_
  refine xg_X6 1 (by simp [okS, okT, ok6]) C h (by decide) tb_43_11 rfl rfl dX11_ways_26 ?_
  replace hf := bndc_some hf
  obtain ⟨x5, g6, hc, hf⟩ := hf
  refine m_callVi [.int (g4.1 30 1)] C h cv_X11_229 (qX9_aimsOf hn_o1 hc) rfl ⟨rfl, rfl⟩ ⟨Nat.le_of_ble_eq_true rfl, Nat.le_of_ble_eq_true rfl⟩ (rv_X9 hn_o1 C h) hl.1 rfl (Nat.le_of_ble_eq_true rfl) ⟨Nat.zero_le _, Nat.zero_le _⟩ dX11_ways_29 (fun H locs h => ?_)
  clear hc
  replace hf := bndv_some hf
  obtain ⟨g7, hc, hf⟩ := hf
  refine m_callVv [.int x3, .int x5] C h cv_X11_232 (qX7_tell hc) rfl ⟨rfl, rfl⟩ ⟨Nat.le_of_ble_eq_true rfl, Nat.le_of_ble_eq_true rfl⟩ (rv_X7 C h) hl.1 rfl (Nat.le_of_ble_eq_true rfl) ⟨Nat.zero_le _, Nat.zero_le _⟩ dX11_ways_32 (fun H locs h => ?_)
  clear hc
  refine lv_aload_n hx hb dX11_ways_35 rfl (lv_at hl 1 rfl) ?_
  refine xg_X11 10 C h (by decide) tb_2_16 rfl rfl dX11_ways_36 ?_
  refine xg_X7 7 C h (by decide) tb_50_8 rfl rfl dX11_ways_39 ?_
  exact (xr_l hf).elim

set_option maxHeartbeats 4000000 in
set_option maxRecDepth 100000 in
theorem tX11_throne {l : Launch} {D : va_G} {cs : Nat → ClassId} {ad al adK adV : Nat → Nat} {P : PL} (hst : l.stackTraces = false) {kd : Nat} {g' : CS} {g : CS}  {a0 : Int32} {a1 : Int32} (hf : fX11_throne P g a0 a1 = some (Sum.inl kd, g')) : XCon l D cs ad al adK adV yX11_throne cX11_throne 3 (some .int) (rA 7 1 6) [.ref (ad 0), .int a0, .int a1] P g kd g' := by
  refine XCon.of hst (by decide) (Nat.le_of_ble_eq_true rfl) ?_
  intro p e s m args below meth c A ls H locs C hT h hl
  have hx := C.1
  have hb := C.2.1
  have C : MCx p s m args meth c A RX11 cX11_throne 3 (some .int) D cs := C
  have hl : lv_has ls 3 [(0, .ref (ad 0)), (1, .int a0), (2, .int a1)] := hl
  unfold fX11_throne at hf
  refine lv_aload_n hx hb dX11_throne_0 rfl (lv_at hl 0 rfl) ?_
  refine lv_iload_n hx hb dX11_throne_1 rfl (lv_at hl 1 rfl) ?_
  replace hf := bndx_cases hf
  rcases hf with hc | hf
  · exact t_callV [.int a0] C hT h cv_X11_113 (tX11_needMember hT.2.2.2.2 hc) rfl ⟨rfl, rfl⟩ ⟨Nat.le_of_ble_eq_true rfl, Nat.le_of_ble_eq_true rfl⟩ (rv_X11 C h) hl.1 rfl (Nat.le_of_ble_eq_true rfl) ⟨Nat.le_refl 1, Nat.le_refl 6⟩ dX11_throne_2
  obtain ⟨x1, g2, hc, hf⟩ := hf
  refine m_callVv [.int a0] C h cv_X11_113 (qX11_needMember hc) rfl ⟨rfl, rfl⟩ ⟨Nat.le_of_ble_eq_true rfl, Nat.le_of_ble_eq_true rfl⟩ (rv_X11 C h) hl.1 rfl (Nat.le_of_ble_eq_true rfl) ⟨Nat.zero_le _, Nat.zero_le _⟩ dX11_throne_2 (fun H locs h => ?_)
  clear hc
  refine lv_aload_n hx hb dX11_throne_5 rfl (lv_at hl 0 rfl) ?_
  refine lv_iload_n hx hb dX11_throne_6 rfl (lv_at hl 2 rfl) ?_
  replace hf := bndx_cases hf
  rcases hf with hc | hf
  · exact t_callV [.int a1] C hT h cv_X11_220 (tX11_needPathQuestion hT.2.2.2.2 hc) rfl ⟨rfl, rfl⟩ ⟨Nat.le_of_ble_eq_true rfl, Nat.le_of_ble_eq_true rfl⟩ (rv_X11 C h) hl.1 rfl (Nat.le_of_ble_eq_true rfl) ⟨Nat.le_refl 1, Nat.le_refl 6⟩ dX11_throne_7
  obtain ⟨x3, g4, hc, hf⟩ := hf
  refine m_callVv [.int a1] C h cv_X11_220 (qX11_needPathQuestion hc) rfl ⟨rfl, rfl⟩ ⟨Nat.le_of_ble_eq_true rfl, Nat.le_of_ble_eq_true rfl⟩ (rv_X11 C h) hl.1 rfl (Nat.le_of_ble_eq_true rfl) ⟨Nat.zero_le _, Nat.zero_le _⟩ dX11_throne_7 (fun H locs h => ?_)
  clear hc
  refine lv_aload_n hx hb dX11_throne_10 rfl (lv_at hl 0 rfl) ?_
  refine xg_X11 10 C h (by decide) tb_2_16 rfl rfl dX11_throne_11 ?_
  replace hf := bndv_some hf
  obtain ⟨g5, hc, hf⟩ := hf
  refine m_callVv [] C h cv_X11_248 (qX7_seatAll hc) rfl ⟨rfl, rfl⟩ ⟨Nat.le_of_ble_eq_true rfl, Nat.le_of_ble_eq_true rfl⟩ (rv_X7 C h) hl.1 rfl (Nat.le_of_ble_eq_true rfl) ⟨Nat.zero_le _, Nat.zero_le _⟩ dX11_throne_14 (fun H locs h => ?_)
  clear hc
  refine lv_aload_n hx hb dX11_throne_17 rfl (lv_at hl 0 rfl) ?_
  refine lv_aload_n hx hb dX11_throne_18 rfl (lv_at hl 0 rfl) ?_
  refine xg_X11 10 C h (by decide) tb_2_16 rfl rfl dX11_throne_19 ?_
  refine xg_X7 14 C h (by decide) tb_50_20 rfl rfl dX11_throne_22 ?_
  refine lv_iload_n hx hb dX11_throne_25 rfl (lv_at hl 1 rfl) ?_
  replace hf := chk_some hf
  obtain ⟨hq, hf⟩ := hf
  refine yl_19 C h hq dX11_throne_26 ?_
  clear hq
  refine lv_aload_n hx hb dX11_throne_27 rfl (lv_at hl 0 rfl) ?_
  refine xg_X11 10 C h (by decide) tb_2_16 rfl rfl dX11_throne_28 ?_
  refine xg_X7 15 C h (by decide) tb_50_21 rfl rfl dX11_throne_31 ?_
  refine lv_iload_n hx hb dX11_throne_34 rfl (lv_at hl 1 rfl) ?_
  replace hf := chk_some hf
  obtain ⟨hq, hf⟩ := hf
  refine yl_20 C h hq dX11_throne_35 ?_
  clear hq
  refine lv_iload_n hx hb dX11_throne_36 rfl (lv_at hl 2 rfl) ?_
  replace hf := bndc_some hf
  obtain ⟨x6, g7, hc, hf⟩ := hf
  refine m_callVi [.int (g5.2.1 19 (ix a0)), .int (g5.2.1 20 (ix a0)), .int a1] C h cv_X11_242 (qX11_pathAnswer hc) rfl ⟨rfl, rfl⟩ ⟨Nat.le_of_ble_eq_true rfl, Nat.le_of_ble_eq_true rfl⟩ (rv_X11 C h) hl.1 rfl (Nat.le_of_ble_eq_true rfl) ⟨Nat.zero_le _, Nat.zero_le _⟩ dX11_throne_37 (fun H locs h => ?_)
  clear hc
  exact (xr_l hf).elim

set_option maxHeartbeats 4000000 in
set_option maxRecDepth 100000 in
theorem tX11_power {l : Launch} {D : va_G} {cs : Nat → ClassId} {ad al adK adV : Nat → Nat} {P : PL} (hst : l.stackTraces = false) {kd : Nat} {g' : CS} {g : CS}  {a0 : Int32} (hf : fX11_power P g a0 = some (Sum.inl kd, g')) : XCon l D cs ad al adK adV yX11_power cX11_power 3 (some .int) (rA 7 1 6) [.ref (ad 0), .int a0] P g kd g' := by
  refine XCon.of hst (by decide) (Nat.le_of_ble_eq_true rfl) ?_
  intro p e s m args below meth c A ls H locs C hT h hl
  have hx := C.1
  have hb := C.2.1
  have C : MCx p s m args meth c A RX11 cX11_power 3 (some .int) D cs := C
  have hl : lv_has ls 3 [(0, .ref (ad 0)), (1, .int a0)] := hl
  unfold fX11_power at hf
  refine lv_aload_n hx hb dX11_power_0 rfl (lv_at hl 0 rfl) ?_
  refine lv_iload_n hx hb dX11_power_1 rfl (lv_at hl 1 rfl) ?_
  replace hf := bndx_cases hf
  rcases hf with hc | hf
  · exact t_callV [.int a0] C hT h cv_X11_113 (tX11_needMember hT.2.2.2.2 hc) rfl ⟨rfl, rfl⟩ ⟨Nat.le_of_ble_eq_true rfl, Nat.le_of_ble_eq_true rfl⟩ (rv_X11 C h) hl.1 rfl (Nat.le_of_ble_eq_true rfl) ⟨Nat.le_refl 1, Nat.le_refl 6⟩ dX11_power_2
  obtain ⟨x1, g2, hc, hf⟩ := hf
  refine m_callVv [.int a0] C h cv_X11_113 (qX11_needMember hc) rfl ⟨rfl, rfl⟩ ⟨Nat.le_of_ble_eq_true rfl, Nat.le_of_ble_eq_true rfl⟩ (rv_X11 C h) hl.1 rfl (Nat.le_of_ble_eq_true rfl) ⟨Nat.zero_le _, Nat.zero_le _⟩ dX11_power_2 (fun H locs h => ?_)
  clear hc
  refine lv_aload_n hx hb dX11_power_5 rfl (lv_at hl 0 rfl) ?_
  refine xg_X11 10 C h (by decide) tb_2_16 rfl rfl dX11_power_6 ?_
  replace hf := bndv_some hf
  obtain ⟨g3, hc, hf⟩ := hf
  refine m_callVv [] C h cv_X11_248 (qX7_seatAll hc) rfl ⟨rfl, rfl⟩ ⟨Nat.le_of_ble_eq_true rfl, Nat.le_of_ble_eq_true rfl⟩ (rv_X7 C h) hl.1 rfl (Nat.le_of_ble_eq_true rfl) ⟨Nat.zero_le _, Nat.zero_le _⟩ dX11_power_9 (fun H locs h => ?_)
  clear hc
  refine lv_aload_n hx hb dX11_power_12 rfl (lv_at hl 0 rfl) ?_
  replace hf := bndc_some hf
  obtain ⟨x4, g5, hc, hf⟩ := hf
  refine m_callVi [] C h cv_X11_258 (qX11_idle hc) rfl ⟨rfl, rfl⟩ ⟨Nat.le_of_ble_eq_true rfl, Nat.le_of_ble_eq_true rfl⟩ (rv_X11 C h) hl.1 rfl (Nat.le_of_ble_eq_true rfl) ⟨Nat.zero_le _, Nat.zero_le _⟩ dX11_power_13 (fun H locs h => ?_)
  clear hc
  refine lv_istore_n (lv' := [(2, .int x4), (0, .ref (ad 0)), (1, .int a0)]) hx hb dX11_power_16 rfl hl (by decide) rfl (fun ls hl => ?_)
  refine lv_iload_n hx hb dX11_power_17 rfl (lv_at hl 0 rfl) ?_
  refine lv_if_le (tgt := 35) hx hb dX11_power_18 (by decide) (fun hq => ?_) (fun hq => ?_)
  · replace hf := if_t hq hf
    clear hq
    refine lv_iconst (v := (0 : Int32)) hx hb dX11_power_35 (by decide) ?_
    exact (xr_l hf).elim
  · replace hf := if_f hq hf
    clear hq
    refine lv_aload_n hx hb dX11_power_21 rfl (lv_at hl 1 rfl) ?_
    refine xg_X11 10 C h (by decide) tb_2_16 rfl rfl dX11_power_22 ?_
    refine xg_X7 13 C h (by decide) tb_53_10 rfl rfl dX11_power_25 ?_
    refine lv_iload_n hx hb dX11_power_28 rfl (lv_at hl 2 rfl) ?_
    replace hf := chk_some hf
    obtain ⟨hq, hf⟩ := hf
    refine yl_18 C h hq dX11_power_29 ?_
    clear hq
    refine lv_iload_n hx hb dX11_power_30 rfl (lv_at hl 0 rfl) ?_
    replace hf := chk_some hf
    obtain ⟨hq, hf⟩ := hf
    refine lv_idiv hx hb dX11_power_31 (nz_ne hq) ?_
    clear hq
    refine lv_goto (tgt := 36) hx hb dX11_power_32 (by decide) ?_
    exact (xr_l hf).elim

set_option maxHeartbeats 4000000 in
set_option maxRecDepth 100000 in
theorem uX11_motion_36 (C : MCx p s m args meth c A RX11 cX11_motion 3 (some .int) D cs) (hT : TC l s args c adK adV A)  {kd : Nat} {g' : CS}  : ∀ (n : Nat) (g : CS) (y1 : Int32) (y2 : Int32), fX11_motion_36 P n g y1 y2 = some (Sum.inl kd, g') → ∀ (H : Heap) (locs : List Loc) (ls : Array Slot), MH D (SW cs ad al P g) A s H locs → lv_has ls 3 [(0, .ref (ad 0)), (1, .int y1), (2, .int y2)] → W p l e (rA 7 1 6) s m args below meth c H locs 0 0 (vx_MQ below QF (XP D cs ad al P kd g' A) args s 1 6 A) (F0 m 36 ls []) := by
  have hx := C.1
  have hb := C.2.1
  intro n
  induction n with
  | zero =>
    intro g y1 y2 hf
    exact absurd hf (by simp [fX11_motion_36])
  | succ n ih =>
    intro g y1 y2 hf H locs ls h hl
    rw [fX11_motion_36] at hf
    refine lv_iload_n hx hb dX11_motion_36 rfl (lv_at hl 2 rfl) ?_
    refine lv_aload_n hx hb dX11_motion_37 rfl (lv_at hl 0 rfl) ?_
    refine xg_X11 11 C h (by decide) tb_2_20 rfl rfl dX11_motion_38 ?_
    refine xg_X5 2 C h (by decide) tb_54_6 rfl rfl dX11_motion_41 ?_
    refine lv_icmp_ge (tgt := 83) hx hb dX11_motion_44 (by decide) (fun hq => ?_) (fun hq => ?_)
    · replace hf := if_t hq hf
      clear hq
      refine lv_iconst (v := (-1 : Int32)) hx hb dX11_motion_83 (by decide) ?_
      exact (xr_l hf).elim
    · replace hf := if_f hq hf
      clear hq
      refine lv_aload_n hx hb dX11_motion_47 rfl (lv_at hl 0 rfl) ?_
      refine xg_X11 5 C h (by decide) tb_2_3 rfl rfl dX11_motion_48 ?_
      refine lv_aload_n hx hb dX11_motion_51 rfl (lv_at hl 0 rfl) ?_
      refine xg_X11 11 C h (by decide) tb_2_20 rfl rfl dX11_motion_52 ?_
      refine xg_X5 4 C h (by decide) tb_54_7 rfl rfl dX11_motion_55 ?_
      refine lv_iload_n hx hb dX11_motion_58 rfl (lv_at hl 2 rfl) ?_
      replace hf := chk_some hf
      obtain ⟨hq, hf⟩ := hf
      refine yl_24 C h hq dX11_motion_59 ?_
      clear hq
      replace hf := bndc_some hf
      obtain ⟨x1, g2, hc, hf⟩ := hf
      refine m_callVi [.int (g.2.1 24 (ix y2))] C h cv_X11_149 (qX6_chairOf (by simp [okS, okT, ok6]) hc) rfl ⟨rfl, rfl⟩ ⟨Nat.le_of_ble_eq_true rfl, Nat.le_of_ble_eq_true rfl⟩ (rv_X6 (by simp [okS, okT, ok6]) C h) hl.1 rfl (Nat.le_of_ble_eq_true rfl) ⟨Nat.zero_le _, Nat.zero_le _⟩ dX11_motion_60 (fun H locs h => ?_)
      clear hc
      refine lv_iload_n hx hb dX11_motion_63 rfl (lv_at hl 1 rfl) ?_
      refine lv_icmp_ne (tgt := 77) hx hb dX11_motion_64 (by decide) (fun hq => ?_) (fun hq => ?_)
      · replace hf := if_tn hq hf
        clear hq
        obtain ⟨x3, ex3⟩ : ∃ z : Int32, z = y2 + (1 : Int32) := ⟨_, rfl⟩
        replace hf := bnd_at ex3 hf
        refine lv_iinc (v := x3) (lv' := [(2, .int x3), (0, .ref (ad 0)), (1, .int y1)]) hx hb dX11_motion_77 hl (k := 2) rfl (by rw [ex3]; rfl) (by decide) rfl (fun ls hl => ?_)
        clear ex3
        refine lv_goto (tgt := 36) hx hb dX11_motion_80 (by decide) ?_
        exact ih g2 y1 x3 hf H locs ls h (lv_sub hl [1, 2, 0] rfl)
      · replace hf := if_t hq hf
        clear hq
        refine lv_aload_n hx hb dX11_motion_67 rfl (lv_at hl 0 rfl) ?_
        refine xg_X11 11 C h (by decide) tb_2_20 rfl rfl dX11_motion_68 ?_
        refine xg_X5 3 C h (by decide) tb_54_8 rfl rfl dX11_motion_71 ?_
        refine lv_iload_n hx hb dX11_motion_74 rfl (lv_at hl 2 rfl) ?_
        replace hf := chk_some hf
        obtain ⟨hq, hf⟩ := hf
        refine yl_23 C h hq dX11_motion_75 ?_
        clear hq
        exact (xr_l hf).elim

set_option maxHeartbeats 4000000 in
set_option maxRecDepth 100000 in
theorem tX11_motion {l : Launch} {D : va_G} {cs : Nat → ClassId} {ad al adK adV : Nat → Nat} {P : PL} (hst : l.stackTraces = false) {kd : Nat} {g' : CS} {g : CS}  {a0 : Int32} (hf : fX11_motion P g a0 = some (Sum.inl kd, g')) : XCon l D cs ad al adK adV yX11_motion cX11_motion 3 (some .int) (rA 7 1 6) [.ref (ad 0), .int a0] P g kd g' := by
  refine XCon.of hst (by decide) (Nat.le_of_ble_eq_true rfl) ?_
  intro p e s m args below meth c A ls H locs C hT h hl
  have hx := C.1
  have hb := C.2.1
  have C : MCx p s m args meth c A RX11 cX11_motion 3 (some .int) D cs := C
  have hl : lv_has ls 3 [(0, .ref (ad 0)), (1, .int a0)] := hl
  unfold fX11_motion at hf
  refine lv_aload_n hx hb dX11_motion_0 rfl (lv_at hl 0 rfl) ?_
  refine lv_iload_n hx hb dX11_motion_1 rfl (lv_at hl 1 rfl) ?_
  replace hf := bndx_cases hf
  rcases hf with hc | hf
  · exact t_callV [.int a0] C hT h cv_X11_113 (tX11_needMember hT.2.2.2.2 hc) rfl ⟨rfl, rfl⟩ ⟨Nat.le_of_ble_eq_true rfl, Nat.le_of_ble_eq_true rfl⟩ (rv_X11 C h) hl.1 rfl (Nat.le_of_ble_eq_true rfl) ⟨Nat.le_refl 1, Nat.le_refl 6⟩ dX11_motion_2
  obtain ⟨x4, g5, hc, hf⟩ := hf
  refine m_callVv [.int a0] C h cv_X11_113 (qX11_needMember hc) rfl ⟨rfl, rfl⟩ ⟨Nat.le_of_ble_eq_true rfl, Nat.le_of_ble_eq_true rfl⟩ (rv_X11 C h) hl.1 rfl (Nat.le_of_ble_eq_true rfl) ⟨Nat.zero_le _, Nat.zero_le _⟩ dX11_motion_2 (fun H locs h => ?_)
  clear hc
  refine lv_aload_n hx hb dX11_motion_5 rfl (lv_at hl 0 rfl) ?_
  refine xg_X11 5 C h (by decide) tb_2_3 rfl rfl dX11_motion_6 ?_
  refine lv_aload_n hx hb dX11_motion_9 rfl (lv_at hl 0 rfl) ?_
  refine xg_X11 5 C h (by decide) tb_2_3 rfl rfl dX11_motion_10 ?_
  refine xg_X6 3 (by simp [okS, okT, ok6]) C h (by decide) tb_25_18 rfl rfl dX11_motion_13 ?_
  replace hf := bndc_some hf
  obtain ⟨x6, g7, hc, hf⟩ := hf
  refine m_callVi [.int (g5.1 30 3)] C h cv_X11_149 (qX6_chairOf (by simp [okS, okT, ok6]) hc) rfl ⟨rfl, rfl⟩ ⟨Nat.le_of_ble_eq_true rfl, Nat.le_of_ble_eq_true rfl⟩ (rv_X6 (by simp [okS, okT, ok6]) C h) hl.1 rfl (Nat.le_of_ble_eq_true rfl) ⟨Nat.zero_le _, Nat.zero_le _⟩ dX11_motion_16 (fun H locs h => ?_)
  clear hc
  refine lv_iload_n hx hb dX11_motion_19 rfl (lv_at hl 1 rfl) ?_
  refine lv_icmp_ne (tgt := 25) hx hb dX11_motion_20 (by decide) (fun hq => ?_) (fun hq => ?_)
  · replace hf := if_tn hq hf
    clear hq
    refine lv_aload_n hx hb dX11_motion_25 rfl (lv_at hl 0 rfl) ?_
    refine xg_X11 11 C h (by decide) tb_2_20 rfl rfl dX11_motion_26 ?_
    refine lv_iconst (v := (0 : Int32)) hx hb dX11_motion_29 (by decide) ?_
    refine lv_iconst (v := (0 : Int32)) hx hb dX11_motion_30 (by decide) ?_
    replace hf := bndv_some hf
    obtain ⟨g8, hc, hf⟩ := hf
    refine m_callVv [.int (0 : Int32), .int (0 : Int32)] C h cv_X11_269 (qX5_list hc) rfl ⟨rfl, rfl⟩ ⟨Nat.le_of_ble_eq_true rfl, Nat.le_of_ble_eq_true rfl⟩ (rv_X5 C h) hl.1 rfl (Nat.le_of_ble_eq_true rfl) ⟨Nat.zero_le _, Nat.zero_le _⟩ dX11_motion_31 (fun H locs h => ?_)
    clear hc
    refine lv_iconst (v := (0 : Int32)) hx hb dX11_motion_34 (by decide) ?_
    refine lv_istore_n (lv' := [(2, .int (0 : Int32)), (0, .ref (ad 0)), (1, .int a0)]) hx hb dX11_motion_35 rfl hl (by decide) rfl (fun ls hl => ?_)
    exact uX11_motion_36 (P := P) C hT fuel g8 a0 (0 : Int32) hf H locs ls h (lv_sub hl [1, 2, 0] rfl)
  · replace hf := if_t hq hf
    clear hq
    refine lv_iconst (v := (-1 : Int32)) hx hb dX11_motion_23 (by decide) ?_
    exact (xr_l hf).elim

set_option maxHeartbeats 4000000 in
set_option maxRecDepth 100000 in
theorem uX11_helps_25 (C : MCx p s m args meth c A RX11 cX11_helps 4 (some .int) D cs) (hT : TC l s args c adK adV A)  {kd : Nat} {g' : CS}  : ∀ (g : CS) (y1 : Int32) (y2 : Int32), fX11_helps_25 P g y1 y2 = some (Sum.inl kd, g') → ∀ (H : Heap) (locs : List Loc) (ls : Array Slot), MH D (SW cs ad al P g) A s H locs → lv_has ls 4 [(0, .ref (ad 0)), (1, .int y1), (2, .int y2)] → W p l e (rA 7 1 6) s m args below meth c H locs 0 0 (vx_MQ below QF (XP D cs ad al P kd g' A) args s 1 6 A) (F0 m 25 ls []) := by
  have hx := C.1
  have hb := C.2.1
  intro g y1 y2 hf H locs ls h hl
  unfold fX11_helps_25 at hf
  refine lv_aload_n hx hb dX11_helps_25 rfl (lv_at hl 0 rfl) ?_
  refine xg_X11 10 C h (by decide) tb_2_16 rfl rfl dX11_helps_26 ?_
  replace hf := bndv_some hf
  obtain ⟨g1, hc, hf⟩ := hf
  refine m_callVv [] C h cv_X11_248 (qX7_seatAll hc) rfl ⟨rfl, rfl⟩ ⟨Nat.le_of_ble_eq_true rfl, Nat.le_of_ble_eq_true rfl⟩ (rv_X7 C h) hl.1 rfl (Nat.le_of_ble_eq_true rfl) ⟨Nat.zero_le _, Nat.zero_le _⟩ dX11_helps_29 (fun H locs h => ?_)
  clear hc
  refine lv_aload_n hx hb dX11_helps_32 rfl (lv_at hl 0 rfl) ?_
  refine xg_X11 10 C h (by decide) tb_2_16 rfl rfl dX11_helps_33 ?_
  refine xg_X7 16 C h (by decide) tb_55_19 rfl rfl dX11_helps_36 ?_
  refine lv_iload_n hx hb dX11_helps_39 rfl (lv_at hl 1 rfl) ?_
  replace hf := chk_some hf
  obtain ⟨hq, hf⟩ := hf
  refine yl_21 C h hq dX11_helps_40 ?_
  clear hq
  refine lv_topi (fun x2 ex2 => ?_)
  replace hf := bnd_at ex2 hf
  clear ex2
  refine lv_istore_n (lv' := [(3, .int x2), (0, .ref (ad 0)), (1, .int y1), (2, .int y2)]) hx hb dX11_helps_41 rfl hl (by decide) rfl (fun ls hl => ?_)
  refine lv_iload_n hx hb dX11_helps_42 rfl (lv_at hl 0 rfl) ?_
  refine lv_iconst (v := (-1 : Int32)) hx hb dX11_helps_43 (by decide) ?_
  refine lv_icmp_ne (tgt := 49) hx hb dX11_helps_44 (by decide) (fun hq => ?_) (fun hq => ?_)
  · replace hf := if_tn hq hf
    clear hq
    refine lv_iload_n hx hb dX11_helps_49 rfl (lv_at hl 3 rfl) ?_
    refine lv_if_ne (tgt := 60) hx hb dX11_helps_50 (by decide) (fun hq => ?_) (fun hq => ?_)
    · replace hf := if_tn hq hf
      clear hq
      refine lv_iload_n hx hb dX11_helps_60 rfl (lv_at hl 0 rfl) ?_
      exact (xr_l hf).elim
    · replace hf := if_t hq hf
      clear hq
      refine lv_iload_n hx hb dX11_helps_53 rfl (lv_at hl 0 rfl) ?_
      replace hf := bndv_some hf
      obtain ⟨x3, hc, hf⟩ := hf
      refine m_callSi [.int x2] C h cs_X11_286 (qJ6_bitCount_0f7a4 hc) rfl ⟨rfl, rfl⟩ ⟨Nat.le_of_ble_eq_true rfl, Nat.le_of_ble_eq_true rfl⟩ hl.1 rfl (Nat.le_of_ble_eq_true rfl) ⟨Nat.zero_le _, Nat.zero_le _⟩ dX11_helps_54 (fun H locs h => ?_)
      clear hc
      refine lv_goto (tgt := 61) hx hb dX11_helps_57 (by decide) ?_
      exact (xr_l hf).elim
  · replace hf := if_t hq hf
    clear hq
    refine lv_iconst (v := (-1 : Int32)) hx hb dX11_helps_47 (by decide) ?_
    exact (xr_l hf).elim

set_option maxHeartbeats 4000000 in
set_option maxRecDepth 100000 in
theorem tX11_helps {l : Launch} {D : va_G} {cs : Nat → ClassId} {ad al adK adV : Nat → Nat} {P : PL} (hst : l.stackTraces = false) {kd : Nat} {g' : CS} {g : CS}  {a0 : Int32} {a1 : Int32} (hf : fX11_helps P g a0 a1 = some (Sum.inl kd, g')) : XCon l D cs ad al adK adV yX11_helps cX11_helps 4 (some .int) (rA 7 1 6) [.ref (ad 0), .int a0, .int a1] P g kd g' := by
  refine XCon.of hst (by decide) (Nat.le_of_ble_eq_true rfl) ?_
  intro p e s m args below meth c A ls H locs C hT h hl
  have hx := C.1
  have hb := C.2.1
  have C : MCx p s m args meth c A RX11 cX11_helps 4 (some .int) D cs := C
  have hl : lv_has ls 4 [(0, .ref (ad 0)), (1, .int a0), (2, .int a1)] := hl
  unfold fX11_helps at hf
  refine lv_aload_n hx hb dX11_helps_0 rfl (lv_at hl 0 rfl) ?_
  refine lv_iload_n hx hb dX11_helps_1 rfl (lv_at hl 1 rfl) ?_
  replace hf := bndx_cases hf
  rcases hf with hc | hf
  · exact t_callV [.int a0] C hT h cv_X11_113 (tX11_needMember hT.2.2.2.2 hc) rfl ⟨rfl, rfl⟩ ⟨Nat.le_of_ble_eq_true rfl, Nat.le_of_ble_eq_true rfl⟩ (rv_X11 C h) hl.1 rfl (Nat.le_of_ble_eq_true rfl) ⟨Nat.le_refl 1, Nat.le_refl 6⟩ dX11_helps_2
  obtain ⟨x4, g5, hc, hf⟩ := hf
  refine m_callVv [.int a0] C h cv_X11_113 (qX11_needMember hc) rfl ⟨rfl, rfl⟩ ⟨Nat.le_of_ble_eq_true rfl, Nat.le_of_ble_eq_true rfl⟩ (rv_X11 C h) hl.1 rfl (Nat.le_of_ble_eq_true rfl) ⟨Nat.zero_le _, Nat.zero_le _⟩ dX11_helps_2 (fun H locs h => ?_)
  clear hc
  refine lv_iload_n hx hb dX11_helps_5 rfl (lv_at hl 2 rfl) ?_
  refine lv_if_eq (tgt := 25) hx hb dX11_helps_6 (by decide) (fun hq => ?_) (fun hq => ?_)
  · replace hf := if_t hq hf
    clear hq
    exact uX11_helps_25 (P := P) C hT g5 a0 a1 hf H locs ls h (lv_sub hl [0, 1, 2] rfl)
  · replace hf := if_f hq hf
    clear hq
    refine lv_iload_n hx hb dX11_helps_9 rfl (lv_at hl 2 rfl) ?_
    refine lv_iconst (v := (1 : Int32)) hx hb dX11_helps_10 (by decide) ?_
    refine lv_icmp_eq (tgt := 25) hx hb dX11_helps_11 (by decide) (fun hq => ?_) (fun hq => ?_)
    · replace hf := if_t hq hf
      clear hq
      exact uX11_helps_25 (P := P) C hT g5 a0 a1 hf H locs ls h (lv_sub hl [0, 1, 2] rfl)
    · replace hf := if_f hq hf
      clear hq
      obtain ⟨e1, e2⟩ := xl_inj hf
      subst e1 e2
      exact t_throwW (i := 28) 1 (by decide) (by decide) C hT h tb_9_4 tb_9_5 (by decide) rfl rfl hl.1 dX11_helps_14 dX11_helps_17 dX11_helps_18 dX11_helps_21 dX11_helps_24 (Nat.le_of_ble_eq_true rfl) (Nat.le_of_ble_eq_true rfl) (Nat.le_refl 1) (Nat.le_refl 6)

set_option maxHeartbeats 4000000 in
set_option maxRecDepth 100000 in
theorem uX11_vetoes_29 (C : MCx p s m args meth c A RX11 cX11_vetoes 4 (some .int) D cs) (hT : TC l s args c adK adV A)  {kd : Nat} {g' : CS}  : ∀ (n : Nat) (g : CS) (y1 : Int32) (y2 : Int32) (y3 : Int32), fX11_vetoes_29 P n g y1 y2 y3 = some (Sum.inl kd, g') → ∀ (H : Heap) (locs : List Loc) (ls : Array Slot), MH D (SW cs ad al P g) A s H locs → lv_has ls 4 [(0, .ref (ad 0)), (1, .int y1), (2, .int y2), (3, .int y3)] → W p l e (rA 7 1 6) s m args below meth c H locs 0 0 (vx_MQ below QF (XP D cs ad al P kd g' A) args s 1 6 A) (F0 m 29 ls []) := by
  have hx := C.1
  have hb := C.2.1
  intro n
  induction n with
  | zero =>
    intro g y1 y2 y3 hf
    exact absurd hf (by simp [fX11_vetoes_29])
  | succ n ih =>
    intro g y1 y2 y3 hf H locs ls h hl
    rw [fX11_vetoes_29] at hf
    refine lv_iload_n hx hb dX11_vetoes_29 rfl (lv_at hl 3 rfl) ?_
    refine lv_aload_n hx hb dX11_vetoes_30 rfl (lv_at hl 0 rfl) ?_
    refine xg_X11 5 C h (by decide) tb_2_3 rfl rfl dX11_vetoes_31 ?_
    refine xg_X6 1 (by simp [okS, okT, ok6]) C h (by decide) tb_43_11 rfl rfl dX11_vetoes_34 ?_
    refine lv_icmp_ge (tgt := 85) hx hb dX11_vetoes_37 (by decide) (fun hq => ?_) (fun hq => ?_)
    · replace hf := if_t hq hf
      clear hq
      refine lv_iload_n hx hb dX11_vetoes_85 rfl (lv_at hl 2 rfl) ?_
      exact (xr_l hf).elim
    · replace hf := if_f hq hf
      clear hq
      refine lv_aload_n hx hb dX11_vetoes_40 rfl (lv_at hl 0 rfl) ?_
      refine xg_X11 5 C h (by decide) tb_2_3 rfl rfl dX11_vetoes_41 ?_
      refine lv_iload_n hx hb dX11_vetoes_44 rfl (lv_at hl 3 rfl) ?_
      replace hf := bndc_some hf
      obtain ⟨x1, g2, hc, hf⟩ := hf
      refine m_callVi [.int y3] C h cv_X11_140 (qX6_isStuck (by simp [okS, okT, ok6]) hc) rfl ⟨rfl, rfl⟩ ⟨Nat.le_of_ble_eq_true rfl, Nat.le_of_ble_eq_true rfl⟩ (rv_X6 (by simp [okS, okT, ok6]) C h) hl.1 rfl (Nat.le_of_ble_eq_true rfl) ⟨Nat.zero_le _, Nat.zero_le _⟩ dX11_vetoes_45 (fun H locs h => ?_)
      clear hc
      refine lv_if_ne (tgt := 79) hx hb dX11_vetoes_48 (by decide) (fun hq => ?_) (fun hq => ?_)
      · replace hf := if_tn hq hf
        clear hq
        obtain ⟨x3, ex3⟩ : ∃ z : Int32, z = y3 + (1 : Int32) := ⟨_, rfl⟩
        replace hf := bnd_at ex3 hf
        refine lv_iinc (v := x3) (lv' := [(3, .int x3), (0, .ref (ad 0)), (1, .int y1), (2, .int y2)]) hx hb dX11_vetoes_79 hl (k := 3) rfl (by rw [ex3]; rfl) (by decide) rfl (fun ls hl => ?_)
        clear ex3
        refine lv_goto (tgt := 29) hx hb dX11_vetoes_82 (by decide) ?_
        exact ih g2 y1 y2 x3 hf H locs ls h (lv_sub hl [1, 2, 3, 0] rfl)
      · replace hf := if_t hq hf
        clear hq
        refine lv_aload_n hx hb dX11_vetoes_51 rfl (lv_at hl 0 rfl) ?_
        refine xg_X11 10 C h (by decide) tb_2_16 rfl rfl dX11_vetoes_52 ?_
        refine lv_iload_n hx hb dX11_vetoes_55 rfl (lv_at hl 1 rfl) ?_
        refine lv_aload_n hx hb dX11_vetoes_56 rfl (lv_at hl 0 rfl) ?_
        refine xg_X11 5 C h (by decide) tb_2_3 rfl rfl dX11_vetoes_57 ?_
        refine xg_X6 5 (by simp [okS, okT, ok6]) C h (by decide) tb_39_0 rfl rfl dX11_vetoes_60 ?_
        refine lv_iconst (v := (1 : Int32)) hx hb dX11_vetoes_63 (by decide) ?_
        refine lv_iload_n hx hb dX11_vetoes_64 rfl (lv_at hl 3 rfl) ?_
        refine x_ishl hx hb dX11_vetoes_65 ?_
        refine lv_ior hx hb dX11_vetoes_66 ?_
        replace hf := bndc_some hf
        obtain ⟨x4, g5, hc, hf⟩ := hf
        refine m_callVi [.int y1, .int ((g2.1 30 5) ||| (jshl (1 : Int32) y3))] C h cv_X11_291 (qX7_reaches hc) rfl ⟨rfl, rfl⟩ ⟨Nat.le_of_ble_eq_true rfl, Nat.le_of_ble_eq_true rfl⟩ (rv_X7 C h) hl.1 rfl (Nat.le_of_ble_eq_true rfl) ⟨Nat.zero_le _, Nat.zero_le _⟩ dX11_vetoes_67 (fun H locs h => ?_)
        clear hc
        refine lv_if_ne (tgt := 79) hx hb dX11_vetoes_70 (by decide) (fun hq => ?_) (fun hq => ?_)
        · replace hf := if_tn hq hf
          clear hq
          obtain ⟨x6, ex6⟩ : ∃ z : Int32, z = y3 + (1 : Int32) := ⟨_, rfl⟩
          replace hf := bnd_at ex6 hf
          refine lv_iinc (v := x6) (lv' := [(3, .int x6), (0, .ref (ad 0)), (1, .int y1), (2, .int y2)]) hx hb dX11_vetoes_79 hl (k := 3) rfl (by rw [ex6]; rfl) (by decide) rfl (fun ls hl => ?_)
          clear ex6
          refine lv_goto (tgt := 29) hx hb dX11_vetoes_82 (by decide) ?_
          exact ih g5 y1 y2 x6 hf H locs ls h (lv_sub hl [1, 2, 3, 0] rfl)
        · replace hf := if_t hq hf
          clear hq
          refine lv_iload_n hx hb dX11_vetoes_73 rfl (lv_at hl 2 rfl) ?_
          refine lv_iconst (v := (1 : Int32)) hx hb dX11_vetoes_74 (by decide) ?_
          refine lv_iload_n hx hb dX11_vetoes_75 rfl (lv_at hl 3 rfl) ?_
          refine x_ishl hx hb dX11_vetoes_76 ?_
          refine lv_ior hx hb dX11_vetoes_77 ?_
          refine lv_topi (fun x7 ex7 => ?_)
          replace hf := bnd_at ex7 hf
          clear ex7
          refine lv_istore_n (lv' := [(2, .int x7), (0, .ref (ad 0)), (1, .int y1), (3, .int y3)]) hx hb dX11_vetoes_78 rfl hl (by decide) rfl (fun ls hl => ?_)
          obtain ⟨x8, ex8⟩ : ∃ z : Int32, z = y3 + (1 : Int32) := ⟨_, rfl⟩
          replace hf := bnd_at ex8 hf
          refine lv_iinc (v := x8) (lv' := [(3, .int x8), (2, .int x7), (0, .ref (ad 0)), (1, .int y1)]) hx hb dX11_vetoes_79 hl (k := 3) rfl (by rw [ex8]; rfl) (by decide) rfl (fun ls hl => ?_)
          clear ex8
          refine lv_goto (tgt := 29) hx hb dX11_vetoes_82 (by decide) ?_
          exact ih g5 y1 x7 x8 hf H locs ls h (lv_sub hl [2, 3, 1, 0] rfl)

set_option maxHeartbeats 4000000 in
set_option maxRecDepth 100000 in
theorem tX11_vetoes {l : Launch} {D : va_G} {cs : Nat → ClassId} {ad al adK adV : Nat → Nat} {P : PL} (hst : l.stackTraces = false) {kd : Nat} {g' : CS} {g : CS}  {a0 : Int32} (hf : fX11_vetoes P g a0 = some (Sum.inl kd, g')) : XCon l D cs ad al adK adV yX11_vetoes cX11_vetoes 4 (some .int) (rA 7 1 6) [.ref (ad 0), .int a0] P g kd g' := by
  refine XCon.of hst (by decide) (Nat.le_of_ble_eq_true rfl) ?_
  intro p e s m args below meth c A ls H locs C hT h hl
  have hx := C.1
  have hb := C.2.1
  have C : MCx p s m args meth c A RX11 cX11_vetoes 4 (some .int) D cs := C
  have hl : lv_has ls 4 [(0, .ref (ad 0)), (1, .int a0)] := hl
  unfold fX11_vetoes at hf
  refine lv_aload_n hx hb dX11_vetoes_0 rfl (lv_at hl 0 rfl) ?_
  refine lv_iload_n hx hb dX11_vetoes_1 rfl (lv_at hl 1 rfl) ?_
  replace hf := bndx_cases hf
  rcases hf with hc | hf
  · exact t_callV [.int a0] C hT h cv_X11_113 (tX11_needMember hT.2.2.2.2 hc) rfl ⟨rfl, rfl⟩ ⟨Nat.le_of_ble_eq_true rfl, Nat.le_of_ble_eq_true rfl⟩ (rv_X11 C h) hl.1 rfl (Nat.le_of_ble_eq_true rfl) ⟨Nat.le_refl 1, Nat.le_refl 6⟩ dX11_vetoes_2
  obtain ⟨x9, g10, hc, hf⟩ := hf
  refine m_callVv [.int a0] C h cv_X11_113 (qX11_needMember hc) rfl ⟨rfl, rfl⟩ ⟨Nat.le_of_ble_eq_true rfl, Nat.le_of_ble_eq_true rfl⟩ (rv_X11 C h) hl.1 rfl (Nat.le_of_ble_eq_true rfl) ⟨Nat.zero_le _, Nat.zero_le _⟩ dX11_vetoes_2 (fun H locs h => ?_)
  clear hc
  refine lv_aload_n hx hb dX11_vetoes_5 rfl (lv_at hl 0 rfl) ?_
  refine xg_X11 10 C h (by decide) tb_2_16 rfl rfl dX11_vetoes_6 ?_
  refine lv_iload_n hx hb dX11_vetoes_9 rfl (lv_at hl 1 rfl) ?_
  refine lv_aload_n hx hb dX11_vetoes_10 rfl (lv_at hl 0 rfl) ?_
  refine xg_X11 5 C h (by decide) tb_2_3 rfl rfl dX11_vetoes_11 ?_
  refine xg_X6 5 (by simp [okS, okT, ok6]) C h (by decide) tb_39_0 rfl rfl dX11_vetoes_14 ?_
  replace hf := bndc_some hf
  obtain ⟨x11, g12, hc, hf⟩ := hf
  refine m_callVi [.int a0, .int (g10.1 30 5)] C h cv_X11_291 (qX7_reaches hc) rfl ⟨rfl, rfl⟩ ⟨Nat.le_of_ble_eq_true rfl, Nat.le_of_ble_eq_true rfl⟩ (rv_X7 C h) hl.1 rfl (Nat.le_of_ble_eq_true rfl) ⟨Nat.zero_le _, Nat.zero_le _⟩ dX11_vetoes_17 (fun H locs h => ?_)
  clear hc
  refine lv_if_ne (tgt := 25) hx hb dX11_vetoes_20 (by decide) (fun hq => ?_) (fun hq => ?_)
  · replace hf := if_tn hq hf
    clear hq
    refine lv_iconst (v := (0 : Int32)) hx hb dX11_vetoes_25 (by decide) ?_
    refine lv_istore_n (lv' := [(2, .int (0 : Int32)), (0, .ref (ad 0)), (1, .int a0)]) hx hb dX11_vetoes_26 rfl hl (by decide) rfl (fun ls hl => ?_)
    refine lv_iconst (v := (0 : Int32)) hx hb dX11_vetoes_27 (by decide) ?_
    refine lv_istore_n (lv' := [(3, .int (0 : Int32)), (2, .int (0 : Int32)), (0, .ref (ad 0)), (1, .int a0)]) hx hb dX11_vetoes_28 rfl hl (by decide) rfl (fun ls hl => ?_)
    exact uX11_vetoes_29 (P := P) C hT fuel g12 a0 (0 : Int32) (0 : Int32) hf H locs ls h (lv_sub hl [2, 3, 1, 0] rfl)
  · replace hf := if_t hq hf
    clear hq
    refine lv_iconst (v := (0 : Int32)) hx hb dX11_vetoes_23 (by decide) ?_
    exact (xr_l hf).elim

set_option maxHeartbeats 4000000 in
set_option maxRecDepth 100000 in
theorem uX11_knees_54 (C : MCx p s m args meth c A RX11 cX11_knees 2 (some .int) D cs) (hT : TC l s args c adK adV A)  {kd : Nat} {g' : CS}  : ∀ (g : CS) (t1 : Int32) (t2 : Int32) (t3 : Int32), fX11_knees_54 P g t1 t2 t3 = some (Sum.inl kd, g') → ∀ (H : Heap) (locs : List Loc) (ls : Array Slot), MH D (SW cs ad al P g) A s H locs → lv_has ls 2 [] → W p l e (rA 7 1 6) s m args below meth c H locs 0 0 (vx_MQ below QF (XP D cs ad al P kd g' A) args s 1 6 A) (F0 m 54 ls [.int t3, .int t2, .int t1, .ref (ad 0)]) := by
  have hx := C.1
  have hb := C.2.1
  intro g t1 t2 t3 hf H locs ls h hl
  unfold fX11_knees_54 at hf
  replace hf := bndc_some hf
  obtain ⟨x1, g2, hc, hf⟩ := hf
  refine m_callVi [.int t1, .int t2, .int t3] C h cv_X11_242 (qX11_pathAnswer hc) rfl ⟨rfl, rfl⟩ ⟨Nat.le_of_ble_eq_true rfl, Nat.le_of_ble_eq_true rfl⟩ (rv_X11 C h) hl.1 rfl (Nat.le_of_ble_eq_true rfl) ⟨Nat.zero_le _, Nat.zero_le _⟩ dX11_knees_54 (fun H locs h => ?_)
  clear hc
  exact (xr_l hf).elim

set_option maxHeartbeats 4000000 in
set_option maxRecDepth 100000 in
theorem uX11_knees_10 (C : MCx p s m args meth c A RX11 cX11_knees 2 (some .int) D cs) (hT : TC l s args c adK adV A)  {kd : Nat} {g' : CS}  : ∀ (g : CS) (y1 : Int32), fX11_knees_10 P g y1 = some (Sum.inl kd, g') → ∀ (H : Heap) (locs : List Loc) (ls : Array Slot), MH D (SW cs ad al P g) A s H locs → lv_has ls 2 [(0, .ref (ad 0)), (1, .int y1)] → W p l e (rA 7 1 6) s m args below meth c H locs 0 0 (vx_MQ below QF (XP D cs ad al P kd g' A) args s 1 6 A) (F0 m 10 ls []) := by
  have hx := C.1
  have hb := C.2.1
  intro g y1 hf H locs ls h hl
  unfold fX11_knees_10 at hf
  refine lv_aload_n hx hb dX11_knees_10 rfl (lv_at hl 0 rfl) ?_
  refine xg_X11 10 C h (by decide) tb_2_16 rfl rfl dX11_knees_11 ?_
  replace hf := bndv_some hf
  obtain ⟨g3, hc, hf⟩ := hf
  refine m_callVv [] C h cv_X11_295 (qX7_pairAll hc) rfl ⟨rfl, rfl⟩ ⟨Nat.le_of_ble_eq_true rfl, Nat.le_of_ble_eq_true rfl⟩ (rv_X7 C h) hl.1 rfl (Nat.le_of_ble_eq_true rfl) ⟨Nat.zero_le _, Nat.zero_le _⟩ dX11_knees_14 (fun H locs h => ?_)
  clear hc
  refine lv_iload_n hx hb dX11_knees_17 rfl (lv_at hl 1 rfl) ?_
  refine lv_if_ne (tgt := 29) hx hb dX11_knees_18 (by decide) (fun hq => ?_) (fun hq => ?_)
  · replace hf := if_tn hq hf
    clear hq
    refine lv_aload_n hx hb dX11_knees_29 rfl (lv_at hl 0 rfl) ?_
    refine lv_aload_n hx hb dX11_knees_30 rfl (lv_at hl 0 rfl) ?_
    refine xg_X11 10 C h (by decide) tb_2_16 rfl rfl dX11_knees_31 ?_
    refine xg_X7 11 C h (by decide) tb_57_0 rfl rfl dX11_knees_34 ?_
    refine lv_aload_n hx hb dX11_knees_37 rfl (lv_at hl 0 rfl) ?_
    refine xg_X11 10 C h (by decide) tb_2_16 rfl rfl dX11_knees_38 ?_
    refine xg_X7 12 C h (by decide) tb_57_1 rfl rfl dX11_knees_41 ?_
    refine lv_iload_n hx hb dX11_knees_44 rfl (lv_at hl 1 rfl) ?_
    refine lv_iconst (v := (1 : Int32)) hx hb dX11_knees_45 (by decide) ?_
    refine lv_icmp_ne (tgt := 53) hx hb dX11_knees_46 (by decide) (fun hq => ?_) (fun hq => ?_)
    · replace hf := if_tn hq hf
      clear hq
      refine lv_iload_n hx hb dX11_knees_53 rfl (lv_at hl 1 rfl) ?_
      exact uX11_knees_54 (P := P) C hT g3 (g3.1 17 11) (g3.1 17 12) y1 hf H locs ls h (lv_sub hl [] rfl)
    · replace hf := if_t hq hf
      clear hq
      refine lv_iconst (v := (0 : Int32)) hx hb dX11_knees_49 (by decide) ?_
      refine lv_goto (tgt := 54) hx hb dX11_knees_50 (by decide) ?_
      exact uX11_knees_54 (P := P) C hT g3 (g3.1 17 11) (g3.1 17 12) (0 : Int32) hf H locs ls h (lv_sub hl [] rfl)
  · replace hf := if_t hq hf
    clear hq
    refine lv_aload_n hx hb dX11_knees_21 rfl (lv_at hl 0 rfl) ?_
    refine xg_X11 10 C h (by decide) tb_2_16 rfl rfl dX11_knees_22 ?_
    refine xg_X7 10 C h (by decide) tb_56_23 rfl rfl dX11_knees_25 ?_
    exact (xr_l hf).elim

set_option maxHeartbeats 4000000 in
set_option maxRecDepth 100000 in
theorem tX11_knees {l : Launch} {D : va_G} {cs : Nat → ClassId} {ad al adK adV : Nat → Nat} {P : PL} (hst : l.stackTraces = false) {kd : Nat} {g' : CS} {g : CS}  {a0 : Int32} (hf : fX11_knees P g a0 = some (Sum.inl kd, g')) : XCon l D cs ad al adK adV yX11_knees cX11_knees 2 (some .int) (rA 7 1 6) [.ref (ad 0), .int a0] P g kd g' := by
  refine XCon.of hst (by decide) (Nat.le_of_ble_eq_true rfl) ?_
  intro p e s m args below meth c A ls H locs C hT h hl
  have hx := C.1
  have hb := C.2.1
  have C : MCx p s m args meth c A RX11 cX11_knees 2 (some .int) D cs := C
  have hl : lv_has ls 2 [(0, .ref (ad 0)), (1, .int a0)] := hl
  unfold fX11_knees at hf
  refine lv_iload_n hx hb dX11_knees_0 rfl (lv_at hl 1 rfl) ?_
  refine lv_iconst (v := (1 : Int32)) hx hb dX11_knees_1 (by decide) ?_
  refine lv_icmp_eq (tgt := 10) hx hb dX11_knees_2 (by decide) (fun hq => ?_) (fun hq => ?_)
  · replace hf := if_t hq hf
    clear hq
    exact uX11_knees_10 (P := P) C hT g a0 hf H locs ls h (lv_sub hl [0, 1] rfl)
  · replace hf := if_f hq hf
    clear hq
    refine lv_aload_n hx hb dX11_knees_5 rfl (lv_at hl 0 rfl) ?_
    refine lv_iload_n hx hb dX11_knees_6 rfl (lv_at hl 1 rfl) ?_
    replace hf := bndx_cases hf
    rcases hf with hc | hf
    · exact t_callV [.int a0] C hT h cv_X11_220 (tX11_needPathQuestion hT.2.2.2.2 hc) rfl ⟨rfl, rfl⟩ ⟨Nat.le_of_ble_eq_true rfl, Nat.le_of_ble_eq_true rfl⟩ (rv_X11 C h) hl.1 rfl (Nat.le_of_ble_eq_true rfl) ⟨Nat.le_refl 1, Nat.le_refl 6⟩ dX11_knees_7
    obtain ⟨x4, g5, hc, hf⟩ := hf
    refine m_callVv [.int a0] C h cv_X11_220 (qX11_needPathQuestion hc) rfl ⟨rfl, rfl⟩ ⟨Nat.le_of_ble_eq_true rfl, Nat.le_of_ble_eq_true rfl⟩ (rv_X11 C h) hl.1 rfl (Nat.le_of_ble_eq_true rfl) ⟨Nat.zero_le _, Nat.zero_le _⟩ dX11_knees_7 (fun H locs h => ?_)
    clear hc
    exact uX11_knees_10 (P := P) C hT g5 a0 hf H locs ls h (lv_sub hl [0, 1] rfl)

set_option maxHeartbeats 4000000 in
set_option maxRecDepth 100000 in
theorem uX11_settles_20 (C : MCx p s m args meth c A RX11 cX11_settles 2 (some .int) D cs) (hT : TC l s args c adK adV A)  {kd : Nat} {g' : CS}  : ∀ (g : CS) (y1 : Int32), fX11_settles_20 P g y1 = some (Sum.inl kd, g') → ∀ (H : Heap) (locs : List Loc) (ls : Array Slot), MH D (SW cs ad al P g) A s H locs → lv_has ls 2 [(0, .ref (ad 0)), (1, .int y1)] → W p l e (rA 6 1 6) s m args below meth c H locs 0 0 (vx_MQ below QF (XP D cs ad al P kd g' A) args s 1 6 A) (F0 m 20 ls []) := by
  have hx := C.1
  have hb := C.2.1
  intro g y1 hf H locs ls h hl
  unfold fX11_settles_20 at hf
  refine lv_aload_n hx hb dX11_settles_20 rfl (lv_at hl 0 rfl) ?_
  refine xg_X11 12 C h (by decide) tb_3_0 rfl rfl dX11_settles_21 ?_
  replace hf := bndv_some hf
  obtain ⟨g1, hc, hf⟩ := hf
  refine m_callVv [] C h cv_X11_309 (qX0_settle hc) rfl ⟨rfl, rfl⟩ ⟨Nat.le_of_ble_eq_true rfl, Nat.le_of_ble_eq_true rfl⟩ (rv_X0 C h) hl.1 rfl (Nat.le_of_ble_eq_true rfl) ⟨Nat.zero_le _, Nat.zero_le _⟩ dX11_settles_24 (fun H locs h => ?_)
  clear hc
  refine lv_iload_n hx hb dX11_settles_27 rfl (lv_at hl 1 rfl) ?_
  refine lv_if_ne (tgt := 41) hx hb dX11_settles_28 (by decide) (fun hq => ?_) (fun hq => ?_)
  · replace hf := if_tn hq hf
    clear hq
    refine lv_aload_n hx hb dX11_settles_41 rfl (lv_at hl 0 rfl) ?_
    refine xg_X11 12 C h (by decide) tb_3_0 rfl rfl dX11_settles_42 ?_
    refine xg_X0 4 C h (by decide) tb_58_2 rfl rfl dX11_settles_45 ?_
    exact (xr_l hf).elim
  · replace hf := if_t hq hf
    clear hq
    refine lv_aload_n hx hb dX11_settles_31 rfl (lv_at hl 0 rfl) ?_
    refine xg_X11 12 C h (by decide) tb_3_0 rfl rfl dX11_settles_32 ?_
    refine xg_X0 3 C h (by decide) tb_58_1 rfl rfl dX11_settles_35 ?_
    refine lv_goto (tgt := 48) hx hb dX11_settles_38 (by decide) ?_
    exact (xr_l hf).elim

set_option maxHeartbeats 4000000 in
set_option maxRecDepth 100000 in
theorem tX11_settles {l : Launch} {D : va_G} {cs : Nat → ClassId} {ad al adK adV : Nat → Nat} {P : PL} (hst : l.stackTraces = false) {kd : Nat} {g' : CS} {g : CS}  {a0 : Int32} (hf : fX11_settles P g a0 = some (Sum.inl kd, g')) : XCon l D cs ad al adK adV yX11_settles cX11_settles 2 (some .int) (rA 6 1 6) [.ref (ad 0), .int a0] P g kd g' := by
  refine XCon.of hst (by decide) (Nat.le_of_ble_eq_true rfl) ?_
  intro p e s m args below meth c A ls H locs C hT h hl
  have hx := C.1
  have hb := C.2.1
  have C : MCx p s m args meth c A RX11 cX11_settles 2 (some .int) D cs := C
  have hl : lv_has ls 2 [(0, .ref (ad 0)), (1, .int a0)] := hl
  unfold fX11_settles at hf
  refine lv_iload_n hx hb dX11_settles_0 rfl (lv_at hl 1 rfl) ?_
  refine lv_if_eq (tgt := 20) hx hb dX11_settles_1 (by decide) (fun hq => ?_) (fun hq => ?_)
  · replace hf := if_t hq hf
    clear hq
    exact uX11_settles_20 (P := P) C hT g a0 hf H locs ls h (lv_sub hl [0, 1] rfl)
  · replace hf := if_f hq hf
    clear hq
    refine lv_iload_n hx hb dX11_settles_4 rfl (lv_at hl 1 rfl) ?_
    refine lv_iconst (v := (1 : Int32)) hx hb dX11_settles_5 (by decide) ?_
    refine lv_icmp_eq (tgt := 20) hx hb dX11_settles_6 (by decide) (fun hq => ?_) (fun hq => ?_)
    · replace hf := if_t hq hf
      clear hq
      exact uX11_settles_20 (P := P) C hT g a0 hf H locs ls h (lv_sub hl [0, 1] rfl)
    · replace hf := if_f hq hf
      clear hq
      obtain ⟨e1, e2⟩ := xl_inj hf
      subst e1 e2
      exact t_throwW (i := 29) 1 (by decide) (by decide) C hT h tb_9_4 tb_9_5 (by decide) rfl rfl hl.1 dX11_settles_9 dX11_settles_12 dX11_settles_13 dX11_settles_16 dX11_settles_19 (Nat.le_of_ble_eq_true rfl) (Nat.le_of_ble_eq_true rfl) (Nat.le_refl 1) (Nat.le_refl 6)

set_option maxHeartbeats 4000000 in
set_option maxRecDepth 100000 in
theorem tX11_needMinutes {l : Launch} {D : va_G} {cs : Nat → ClassId} {ad al adK adV : Nat → Nat} {P : PL} (hst : l.stackTraces = false) {kd : Nat} {g' : CS} {g : CS}  {a0 : Int32} {a1 : Int32} (hf : fX11_needMinutes P g a0 a1 = some (Sum.inl kd, g')) : XCon l D cs ad al adK adV yX11_needMinutes cX11_needMinutes 3 none (rA 6 1 6) [.ref (ad 0), .int a0, .int a1] P g kd g' := by
  refine XCon.of hst (by decide) (Nat.le_of_ble_eq_true rfl) ?_
  intro p e s m args below meth c A ls H locs C hT h hl
  have hx := C.1
  have hb := C.2.1
  have C : MCx p s m args meth c A RX11 cX11_needMinutes 3 none D cs := C
  have hl : lv_has ls 3 [(0, .ref (ad 0)), (1, .int a0), (2, .int a1)] := hl
  unfold fX11_needMinutes at hf
  refine lv_iload_n hx hb dX11_needMinutes_0 rfl (lv_at hl 1 rfl) ?_
  refine lv_if_lt (tgt := 9) hx hb dX11_needMinutes_1 (by decide) (fun hq => ?_) (fun hq => ?_)
  · replace hf := if_t hq hf
    clear hq
    obtain ⟨e1, e2⟩ := xl_inj hf
    subst e1 e2
    exact t_throwS (i := 20) 1 (by decide) (by decide) C hT h tb_9_4 tb_9_5 (by decide) rfl rfl hl.1 dX11_needMinutes_9 dX11_needMinutes_12 dX11_needMinutes_13 dX11_needMinutes_15 dX11_needMinutes_18 (Nat.le_of_ble_eq_true rfl) (Nat.le_of_ble_eq_true rfl) (Nat.le_refl 1) (Nat.le_refl 6)
  · replace hf := if_f hq hf
    clear hq
    refine lv_iload_n hx hb dX11_needMinutes_4 rfl (lv_at hl 1 rfl) ?_
    refine lv_iload_n hx hb dX11_needMinutes_5 rfl (lv_at hl 2 rfl) ?_
    refine lv_icmp_le (tgt := 19) hx hb dX11_needMinutes_6 (by decide) (fun hq => ?_) (fun hq => ?_)
    · replace hf := if_t hq hf
      clear hq
      exact (xr_l hf).elim
    · replace hf := if_f hq hf
      clear hq
      obtain ⟨e1, e2⟩ := xl_inj hf
      subst e1 e2
      exact t_throwS (i := 20) 1 (by decide) (by decide) C hT h tb_9_4 tb_9_5 (by decide) rfl rfl hl.1 dX11_needMinutes_9 dX11_needMinutes_12 dX11_needMinutes_13 dX11_needMinutes_15 dX11_needMinutes_18 (Nat.le_of_ble_eq_true rfl) (Nat.le_of_ble_eq_true rfl) (Nat.le_refl 1) (Nat.le_refl 6)

set_option maxHeartbeats 4000000 in
set_option maxRecDepth 100000 in
theorem tX11_chairIn {l : Launch} {D : va_G} {cs : Nat → ClassId} {ad al adK adV : Nat → Nat} {P : PL} (hst : l.stackTraces = false) {kd : Nat} {g' : CS} {g : CS}  {a0 : Int32} (hf : fX11_chairIn P g a0 = some (Sum.inl kd, g')) : XCon l D cs ad al adK adV yX11_chairIn cX11_chairIn 2 (some .int) (rA 7 1 6) [.ref (ad 0), .int a0] P g kd g' := by
  refine XCon.of hst (by decide) (Nat.le_of_ble_eq_true rfl) ?_
  intro p e s m args below meth c A ls H locs C hT h hl
  have hx := C.1
  have hb := C.2.1
  have C : MCx p s m args meth c A RX11 cX11_chairIn 2 (some .int) D cs := C
  have hl : lv_has ls 2 [(0, .ref (ad 0)), (1, .int a0)] := hl
  unfold fX11_chairIn at hf
  refine lv_aload_n hx hb dX11_chairIn_0 rfl (lv_at hl 0 rfl) ?_
  refine lv_iload_n hx hb dX11_chairIn_1 rfl (lv_at hl 1 rfl) ?_
  refine lv_ldcw hx hb C.2.2.2.1 (C.2.2.2.2.1 _ tb_59_23) dX11_chairIn_2 ?_
  replace hf := bndx_cases hf
  rcases hf with hc | hf
  · exact t_callV [.int a0, .int (99999 : Int32)] C hT h cv_X11_319 (tX11_needMinutes hT.2.2.2.2 hc) rfl ⟨rfl, rfl⟩ ⟨Nat.le_of_ble_eq_true rfl, Nat.le_of_ble_eq_true rfl⟩ (rv_X11 C h) hl.1 rfl (Nat.le_of_ble_eq_true rfl) ⟨Nat.le_refl 1, Nat.le_refl 6⟩ dX11_chairIn_5
  obtain ⟨x1, g2, hc, hf⟩ := hf
  refine m_callVv [.int a0, .int (99999 : Int32)] C h cv_X11_319 (qX11_needMinutes hc) rfl ⟨rfl, rfl⟩ ⟨Nat.le_of_ble_eq_true rfl, Nat.le_of_ble_eq_true rfl⟩ (rv_X11 C h) hl.1 rfl (Nat.le_of_ble_eq_true rfl) ⟨Nat.zero_le _, Nat.zero_le _⟩ dX11_chairIn_5 (fun H locs h => ?_)
  clear hc
  refine lv_aload_n hx hb dX11_chairIn_8 rfl (lv_at hl 0 rfl) ?_
  refine xg_X11 5 C h (by decide) tb_2_3 rfl rfl dX11_chairIn_9 ?_
  refine lv_aload_n hx hb dX11_chairIn_12 rfl (lv_at hl 0 rfl) ?_
  refine xg_X11 12 C h (by decide) tb_3_0 rfl rfl dX11_chairIn_13 ?_
  refine lv_iload_n hx hb dX11_chairIn_16 rfl (lv_at hl 1 rfl) ?_
  replace hf := bndc_some hf
  obtain ⟨x3, g4, hc, hf⟩ := hf
  refine m_callVi [.int a0] C h cv_X11_322 (qX0_lookIn hc) rfl ⟨rfl, rfl⟩ ⟨Nat.le_of_ble_eq_true rfl, Nat.le_of_ble_eq_true rfl⟩ (rv_X0 C h) hl.1 rfl (Nat.le_of_ble_eq_true rfl) ⟨Nat.zero_le _, Nat.zero_le _⟩ dX11_chairIn_17 (fun H locs h => ?_)
  clear hc
  replace hf := bndc_some hf
  obtain ⟨x5, g6, hc, hf⟩ := hf
  refine m_callVi [.int x3] C h cv_X11_149 (qX6_chairOf (by simp [okS, okT, ok6]) hc) rfl ⟨rfl, rfl⟩ ⟨Nat.le_of_ble_eq_true rfl, Nat.le_of_ble_eq_true rfl⟩ (rv_X6 (by simp [okS, okT, ok6]) C h) hl.1 rfl (Nat.le_of_ble_eq_true rfl) ⟨Nat.zero_le _, Nat.zero_le _⟩ dX11_chairIn_20 (fun H locs h => ?_)
  clear hc
  exact (xr_l hf).elim

set_option maxHeartbeats 4000000 in
set_option maxRecDepth 100000 in
theorem tX11_aimIn {l : Launch} {D : va_G} {cs : Nat → ClassId} {ad al adK adV : Nat → Nat} {P : PL} (hst : l.stackTraces = false) {kd : Nat} {g' : CS} {g : CS}  {a0 : Int32} {a1 : Int32} (hf : fX11_aimIn P g a0 a1 = some (Sum.inl kd, g')) : XCon l D cs ad al adK adV yX11_aimIn cX11_aimIn 3 (some .int) (rA 7 1 6) [.ref (ad 0), .int a0, .int a1] P g kd g' := by
  refine XCon.of hst (by decide) (Nat.le_of_ble_eq_true rfl) ?_
  intro p e s m args below meth c A ls H locs C hT h hl
  have hx := C.1
  have hb := C.2.1
  have C : MCx p s m args meth c A RX11 cX11_aimIn 3 (some .int) D cs := C
  have hl : lv_has ls 3 [(0, .ref (ad 0)), (1, .int a0), (2, .int a1)] := hl
  unfold fX11_aimIn at hf
  refine lv_aload_n hx hb dX11_aimIn_0 rfl (lv_at hl 0 rfl) ?_
  refine lv_iload_n hx hb dX11_aimIn_1 rfl (lv_at hl 1 rfl) ?_
  replace hf := bndx_cases hf
  rcases hf with hc | hf
  · exact t_callV [.int a0] C hT h cv_X11_113 (tX11_needMember hT.2.2.2.2 hc) rfl ⟨rfl, rfl⟩ ⟨Nat.le_of_ble_eq_true rfl, Nat.le_of_ble_eq_true rfl⟩ (rv_X11 C h) hl.1 rfl (Nat.le_of_ble_eq_true rfl) ⟨Nat.le_refl 1, Nat.le_refl 6⟩ dX11_aimIn_2
  obtain ⟨x1, g2, hc, hf⟩ := hf
  refine m_callVv [.int a0] C h cv_X11_113 (qX11_needMember hc) rfl ⟨rfl, rfl⟩ ⟨Nat.le_of_ble_eq_true rfl, Nat.le_of_ble_eq_true rfl⟩ (rv_X11 C h) hl.1 rfl (Nat.le_of_ble_eq_true rfl) ⟨Nat.zero_le _, Nat.zero_le _⟩ dX11_aimIn_2 (fun H locs h => ?_)
  clear hc
  refine lv_aload_n hx hb dX11_aimIn_5 rfl (lv_at hl 0 rfl) ?_
  refine lv_iload_n hx hb dX11_aimIn_6 rfl (lv_at hl 2 rfl) ?_
  refine lv_ldcw hx hb C.2.2.2.1 (C.2.2.2.2.1 _ tb_59_23) dX11_aimIn_7 ?_
  replace hf := bndx_cases hf
  rcases hf with hc | hf
  · exact t_callV [.int a1, .int (99999 : Int32)] C hT h cv_X11_319 (tX11_needMinutes hT.2.2.2.2 hc) rfl ⟨rfl, rfl⟩ ⟨Nat.le_of_ble_eq_true rfl, Nat.le_of_ble_eq_true rfl⟩ (rv_X11 C h) hl.1 rfl (Nat.le_of_ble_eq_true rfl) ⟨Nat.le_refl 1, Nat.le_refl 6⟩ dX11_aimIn_10
  obtain ⟨x3, g4, hc, hf⟩ := hf
  refine m_callVv [.int a1, .int (99999 : Int32)] C h cv_X11_319 (qX11_needMinutes hc) rfl ⟨rfl, rfl⟩ ⟨Nat.le_of_ble_eq_true rfl, Nat.le_of_ble_eq_true rfl⟩ (rv_X11 C h) hl.1 rfl (Nat.le_of_ble_eq_true rfl) ⟨Nat.zero_le _, Nat.zero_le _⟩ dX11_aimIn_10 (fun H locs h => ?_)
  clear hc
  refine lv_aload_n hx hb dX11_aimIn_13 rfl (lv_at hl 0 rfl) ?_
  refine xg_X11 12 C h (by decide) tb_3_0 rfl rfl dX11_aimIn_14 ?_
  refine lv_iload_n hx hb dX11_aimIn_17 rfl (lv_at hl 2 rfl) ?_
  replace hf := bndc_some hf
  obtain ⟨x5, g6, hc, hf⟩ := hf
  refine m_callVi [.int a1] C h cv_X11_322 (qX0_lookIn hc) rfl ⟨rfl, rfl⟩ ⟨Nat.le_of_ble_eq_true rfl, Nat.le_of_ble_eq_true rfl⟩ (rv_X0 C h) hl.1 rfl (Nat.le_of_ble_eq_true rfl) ⟨Nat.zero_le _, Nat.zero_le _⟩ dX11_aimIn_18 (fun H locs h => ?_)
  clear hc
  refine lv_iload_n hx hb dX11_aimIn_21 rfl (lv_at hl 1 rfl) ?_
  replace hf := bndv_some hf
  obtain ⟨x7, hc, hf⟩ := hf
  refine m_callSi [.int x5, .int a0] C h cs_X11_119 (qX1_at hc) rfl ⟨rfl, rfl⟩ ⟨Nat.le_of_ble_eq_true rfl, Nat.le_of_ble_eq_true rfl⟩ hl.1 rfl (Nat.le_of_ble_eq_true rfl) ⟨Nat.zero_le _, Nat.zero_le _⟩ dX11_aimIn_22 (fun H locs h => ?_)
  clear hc
  exact (xr_l hf).elim
end
