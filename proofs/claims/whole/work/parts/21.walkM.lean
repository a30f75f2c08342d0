section
variable {p : Program} {l : Launch} {e : Env} {s : State} {m : MethodId} {args : Array Value} {below : List Frame} {meth : Method} {c : Code} {D : va_G} {cs : Nat → ClassId} {ad adK adV : Nat → Nat} {A : Nat → Prop}
set_option maxHeartbeats 4000000 in
set_option maxRecDepth 100000 in
theorem qX12_fault {l : Launch} {D : va_G} {cs : Nat → ClassId} {ad : Nat → Nat} {r : Int32} {g' : MS} {g : MS}  {a0 : Int32} (hf : fX12_fault g a0 = some (r, g')) : GCon l D cs yX12_fault cX12_fault 2 (some .int) (rM 0) 0 0 [.ref (ad 48), .int a0] (MW cs ad g) (some (.int r)) (MW cs ad g') := by
  refine GCon.of (by decide) (Nat.le_of_ble_eq_true rfl) ?_
  intro p e s m args below meth c A ls H locs C h hl
  have hx := C.1
  have hb := C.2.1
  have C : MCx p s m args meth c A RX12 cX12_fault 2 (some .int) D cs := C
  have hl : lv_has ls 2 [(0, .ref (ad 48)), (1, .int a0)] := hl
  unfold fX12_fault at hf
  refine lv_aload_n hx hb dX12_fault_0 rfl (lv_at hl 0 rfl) ?_
  refine lv_iconst (v := (0 : Int32)) hx hb dX12_fault_1 (by decide) ?_
  replace hf := bnd_ex hf
  obtain ⟨g1, eg1, hf⟩ := hf
  refine mp_4 C h dX12_fault_2 (fun H locs h => ?_)
  rw [← eg1] at h
  clear eg1
  refine lv_iload_n hx hb dX12_fault_5 rfl (lv_at hl 1 rfl) ?_
  refine lv_if_ne (tgt := 16) hx hb dX12_fault_6 (by decide) (fun hq => ?_) (fun hq => ?_)
  · replace hf := if_tn hq hf
    clear hq
    refine lv_iload_n hx hb dX12_fault_16 rfl (lv_at hl 1 rfl) ?_
    refine lv_iconst (v := (1 : Int32)) hx hb dX12_fault_17 (by decide) ?_
    refine lv_icmp_ne (tgt := 28) hx hb dX12_fault_18 (by decide) (fun hq => ?_) (fun hq => ?_)
    · replace hf := if_tn hq hf
      clear hq
      refine lv_iconst (v := (-1 : Int32)) hx hb dX12_fault_28 (by decide) ?_
      obtain ⟨e1, e2⟩ := pr_inj hf
      subst e1 e2
      exact m_iret C h dX12_fault_29
    · replace hf := if_t hq hf
      clear hq
      refine lv_aload_n hx hb dX12_fault_21 rfl (lv_at hl 0 rfl) ?_
      refine mg_15 C h dX12_fault_22 ?_
      refine lv_goto (tgt := 29) hx hb dX12_fault_25 (by decide) ?_
      obtain ⟨e1, e2⟩ := pr_inj hf
      subst e1 e2
      exact m_iret C h dX12_fault_29
  · replace hf := if_t hq hf
    clear hq
    refine lv_aload_n hx hb dX12_fault_9 rfl (lv_at hl 0 rfl) ?_
    refine mg_14 C h dX12_fault_10 ?_
    refine lv_goto (tgt := 29) hx hb dX12_fault_13 (by decide) ?_
    obtain ⟨e1, e2⟩ := pr_inj hf
    subst e1 e2
    exact m_iret C h dX12_fault_29

set_option maxHeartbeats 4000000 in
set_option maxRecDepth 100000 in
theorem qX12_size {l : Launch} {D : va_G} {cs : Nat → ClassId} {ad : Nat → Nat} {r : Int32} {g' : MS} {g : MS}  (hf : fX12_size g = some (r, g')) : GCon l D cs yX12_size cX12_size 1 (some .int) (rM 0) 0 0 [.ref (ad 48)] (MW cs ad g) (some (.int r)) (MW cs ad g') := by
  refine GCon.of (by decide) (Nat.le_of_ble_eq_true rfl) ?_
  intro p e s m args below meth c A ls H locs C h hl
  have hx := C.1
  have hb := C.2.1
  have C : MCx p s m args meth c A RX12 cX12_size 1 (some .int) D cs := C
  have hl : lv_has ls 1 [(0, .ref (ad 48))] := hl
  unfold fX12_size at hf
  refine lv_aload_n hx hb dX12_size_0 rfl (lv_at hl 0 rfl) ?_
  refine mg_0 C h dX12_size_1 ?_
  refine lv_iconst (v := (1 : Int32)) hx hb dX12_size_4 (by decide) ?_
  replace hf := chk_some hf
  obtain ⟨hq, hf⟩ := hf
  refine ml_0 C h hq dX12_size_5 ?_
  clear hq
  obtain ⟨e1, e2⟩ := pr_inj hf
  subst e1 e2
  exact m_iret C h dX12_size_6

set_option maxHeartbeats 4000000 in
set_option maxRecDepth 100000 in
theorem qX12_isMember {l : Launch} {D : va_G} {cs : Nat → ClassId} {ad : Nat → Nat} {r : Int32} {g' : MS} {g : MS}  {a0 : Int64} (hf : fX12_isMember g a0 = some (r, g')) : GCon l D cs yX12_isMember cX12_isMember 3 (some .boolean) (rM 1) 0 0 [.ref (ad 48), .long a0] (MW cs ad g) (some (.int r)) (MW cs ad g') := by
  refine GCon.of (by decide) (Nat.le_of_ble_eq_true rfl) ?_
  intro p e s m args below meth c A ls H locs C h hl
  have hx := C.1
  have hb := C.2.1
  have C : MCx p s m args meth c A RX12 cX12_isMember 3 (some .boolean) D cs := C
  have hl : lv_has ls 3 [(0, .ref (ad 48)), (1, .long a0)] := hl
  unfold fX12_isMember at hf
  refine lv_lload_n hx hb dX12_isMember_0 rfl (lv_at hl 1 rfl) ?_
  refine lv_lconst (v := (0 : Int64)) hx hb dX12_isMember_1 rfl ?_
  refine lv_aload_n hx hb dX12_isMember_2 rfl (lv_at hl 0 rfl) ?_
  replace hf := bndc_some hf
  obtain ⟨x1, g2, hc, hf⟩ := hf
  refine m_callVi [] C h cv_X12_254 (qX12_size hc) rfl ⟨rfl, rfl⟩ ⟨Nat.le_of_ble_eq_true rfl, Nat.le_of_ble_eq_true rfl⟩ (m_recv C h) hl.1 rfl (Nat.le_of_ble_eq_true rfl) ⟨Nat.le_refl _, Nat.le_refl _⟩ dX12_isMember_3 (fun H locs h => ?_)
  clear hc
  refine lv_iconst (v := (1 : Int32)) hx hb dX12_isMember_6 (by decide) ?_
  refine lv_isub hx hb dX12_isMember_7 ?_
  refine lv_i2l hx hb dX12_isMember_8 rfl ?_
  replace hf := bndv_some hf
  obtain ⟨x3, hc, hf⟩ := hf
  refine m_callSi [.long a0, .long (0 : Int64), .long ((x1 - (1 : Int32)).toInt64)] C h cs_X12_147 (qX12_within hc) rfl ⟨rfl, rfl⟩ ⟨Nat.le_of_ble_eq_true rfl, Nat.le_of_ble_eq_true rfl⟩ hl.1 rfl (Nat.le_of_ble_eq_true rfl) ⟨Nat.le_refl _, Nat.le_refl _⟩ dX12_isMember_9 (fun H locs h => ?_)
  clear hc
  replace hf := chk_some hf
  obtain ⟨hq, hf⟩ := hf
  obtain ⟨e1, e2⟩ := pr_inj hf
  subst e1 e2
  exact m_zret C h hq dX12_isMember_12

set_option maxHeartbeats 4000000 in
set_option maxRecDepth 100000 in
theorem qX12_isStuck {l : Launch} {D : va_G} {cs : Nat → ClassId} {ad : Nat → Nat} {r : Int32} {g' : MS} {g : MS}  {a0 : Int32} (hf : fX12_isStuck g a0 = some (r, g')) : GCon l D cs yX12_isStuck cX12_isStuck 2 (some .boolean) (rM 1) 0 0 [.ref (ad 48), .int a0] (MW cs ad g) (some (.int r)) (MW cs ad g') := by
  refine GCon.of (by decide) (Nat.le_of_ble_eq_true rfl) ?_
  intro p e s m args below meth c A ls H locs C h hl
  have hx := C.1
  have hb := C.2.1
  have C : MCx p s m args meth c A RX12 cX12_isStuck 2 (some .boolean) D cs := C
  have hl : lv_has ls 2 [(0, .ref (ad 48)), (1, .int a0)] := hl
  unfold fX12_isStuck at hf
  refine lv_aload_n hx hb dX12_isStuck_0 rfl (lv_at hl 0 rfl) ?_
  refine mg_0 C h dX12_isStuck_1 ?_
  refine lv_bipush (v := (18 : Int32)) hx hb dX12_isStuck_4 (by decide) ?_
  replace hf := chk_some hf
  obtain ⟨hq, hf⟩ := hf
  refine ml_0 C h hq dX12_isStuck_6 ?_
  clear hq
  refine lv_iload_n hx hb dX12_isStuck_7 rfl (lv_at hl 1 rfl) ?_
  replace hf := bndv_some hf
  obtain ⟨x1, hc, hf⟩ := hf
  refine m_callSi [.int (g.2.1 0 (ix (18 : Int32))), .int a0] C h cs_X12_257 (qX12_has hc) rfl ⟨rfl, rfl⟩ ⟨Nat.le_of_ble_eq_true rfl, Nat.le_of_ble_eq_true rfl⟩ hl.1 rfl (Nat.le_of_ble_eq_true rfl) ⟨Nat.le_refl _, Nat.le_refl _⟩ dX12_isStuck_8 (fun H locs h => ?_)
  clear hc
  replace hf := chk_some hf
  obtain ⟨hq, hf⟩ := hf
  obtain ⟨e1, e2⟩ := pr_inj hf
  subst e1 e2
  exact m_zret C h hq dX12_isStuck_11

set_option maxHeartbeats 4000000 in
set_option maxRecDepth 100000 in
theorem qX12_bound {l : Launch} {D : va_G} {cs : Nat → ClassId} {r : Int32}  {a0 : Int64} (hf : fX12_bound a0 = some r) : GCon l D cs yX12_bound cX12_bound 2 (some .int) (rM 1) 0 0 [.long a0] [] (some (.int r)) [] := by
  refine GCon.of (by decide) (Nat.le_of_ble_eq_true rfl) ?_
  intro p e s m args below meth c A ls H locs C h hl
  have hx := C.1
  have hb := C.2.1
  have C : MCx p s m args meth c A RX12 cX12_bound 2 (some .int) D cs := C
  have hl : lv_has ls 2 [(0, .long a0)] := hl
  unfold fX12_bound at hf
  refine lv_ldc2 hx hb C.2.2.2.1 (C.2.2.2.2.1 _ tb_30_12) dX12_bound_0 ?_
  refine lv_ldc2 hx hb C.2.2.2.1 (C.2.2.2.2.1 _ tb_30_13) dX12_bound_3 ?_
  refine lv_lload_n hx hb dX12_bound_6 rfl (lv_at hl 0 rfl) ?_
  refine x_minL tb_30_14 C hl.1 (Nat.le_of_ble_eq_true rfl) (Nat.le_of_ble_eq_true rfl) (Nat.le_refl _) (Nat.le_refl _) dX12_bound_7 ?_
  refine x_maxL tb_30_17 C hl.1 (Nat.le_of_ble_eq_true rfl) (Nat.le_of_ble_eq_true rfl) (Nat.le_refl _) (Nat.le_refl _) dX12_bound_10 ?_
  refine lv_l2i hx hb dX12_bound_13 rfl ?_
  have e1 := Option.some.inj hf
  subst e1
  exact m_iret C h dX12_bound_14

set_option maxHeartbeats 4000000 in
set_option maxRecDepth 100000 in
theorem qX12_done {l : Launch} {D : va_G} {cs : Nat → ClassId} {r : Int32}  {a0 : Int32} {a1 : Int64} {a2 : Int64} (hf : fX12_done a0 a1 a2 = some r) : GCon l D cs yX12_done cX12_done 5 (some .int) (rM 2) 0 0 [.int a0, .long a1, .long a2] [] (some (.int r)) [] := by
  refine GCon.of (by decide) (Nat.le_of_ble_eq_true rfl) ?_
  intro p e s m args below meth c A ls H locs C h hl
  have hx := C.1
  have hb := C.2.1
  have C : MCx p s m args meth c A RX12 cX12_done 5 (some .int) D cs := C
  have hl : lv_has ls 5 [(0, .int a0), (1, .long a1), (3, .long a2)] := hl
  unfold fX12_done at hf
  refine lv_iload_n hx hb dX12_done_0 rfl (lv_at hl 0 rfl) ?_
  rcases Decidable.em (a0 = (10 : Int32)) with hq | q0
  · replace hf := if_t hq hf
    subst hq
    refine lv_tableIn (off := 43) (tgt := 44) hx hb dX12_done_1 (by decide) (by decide) (by decide) (by decide) ?_
    refine lv_lload_n hx hb dX12_done_44 rfl (lv_at hl 1 rfl) ?_
    refine lv_lload_n hx hb dX12_done_45 rfl (lv_at hl 2 rfl) ?_
    refine lv_ladd hx hb dX12_done_46 ?_
    replace hf := bndv_some hf
    obtain ⟨x1, hc, hf⟩ := hf
    refine m_callSi [.long (a1 + a2)] C h cs_X12_274 (qX12_bound hc) rfl ⟨rfl, rfl⟩ ⟨Nat.le_of_ble_eq_true rfl, Nat.le_of_ble_eq_true rfl⟩ hl.1 rfl (Nat.le_of_ble_eq_true rfl) ⟨Nat.le_refl _, Nat.le_refl _⟩ dX12_done_47 (fun H locs h => ?_)
    clear hc
    have e1 := Option.some.inj hf
    subst e1
    exact m_iret C h dX12_done_50
  replace hf := if_f q0 hf
  rcases Decidable.em (a0 = (11 : Int32)) with hq | q1
  · replace hf := if_t hq hf
    subst hq
    refine lv_tableIn (off := 50) (tgt := 51) hx hb dX12_done_1 (by decide) (by decide) (by decide) (by decide) ?_
    refine lv_lload_n hx hb dX12_done_51 rfl (lv_at hl 1 rfl) ?_
    refine lv_lload_n hx hb dX12_done_52 rfl (lv_at hl 2 rfl) ?_
    refine lv_lsub hx hb dX12_done_53 ?_
    replace hf := bndv_some hf
    obtain ⟨x2, hc, hf⟩ := hf
    refine m_callSi [.long (a1 - a2)] C h cs_X12_274 (qX12_bound hc) rfl ⟨rfl, rfl⟩ ⟨Nat.le_of_ble_eq_true rfl, Nat.le_of_ble_eq_true rfl⟩ hl.1 rfl (Nat.le_of_ble_eq_true rfl) ⟨Nat.le_refl _, Nat.le_refl _⟩ dX12_done_54 (fun H locs h => ?_)
    clear hc
    have e1 := Option.some.inj hf
    subst e1
    exact m_iret C h dX12_done_57
  replace hf := if_f q1 hf
  rcases Decidable.em (a0 = (12 : Int32)) with hq | q2
  · replace hf := if_t hq hf
    subst hq
    refine lv_tableIn (off := 57) (tgt := 58) hx hb dX12_done_1 (by decide) (by decide) (by decide) (by decide) ?_
    refine lv_lload_n hx hb dX12_done_58 rfl (lv_at hl 1 rfl) ?_
    refine lv_lload_n hx hb dX12_done_59 rfl (lv_at hl 2 rfl) ?_
    refine lv_lmul hx hb dX12_done_60 ?_
    replace hf := bndv_some hf
    obtain ⟨x3, hc, hf⟩ := hf
    refine m_callSi [.long (a1 * a2)] C h cs_X12_274 (qX12_bound hc) rfl ⟨rfl, rfl⟩ ⟨Nat.le_of_ble_eq_true rfl, Nat.le_of_ble_eq_true rfl⟩ hl.1 rfl (Nat.le_of_ble_eq_true rfl) ⟨Nat.le_refl _, Nat.le_refl _⟩ dX12_done_61 (fun H locs h => ?_)
    clear hc
    have e1 := Option.some.inj hf
    subst e1
    exact m_iret C h dX12_done_64
  replace hf := if_f q2 hf
  rcases Decidable.em (a0 = (13 : Int32)) with hq | q3
  · replace hf := if_t hq hf
    subst hq
    refine lv_tableIn (off := 64) (tgt := 65) hx hb dX12_done_1 (by decide) (by decide) (by decide) (by decide) ?_
    refine lv_lload_n hx hb dX12_done_65 rfl (lv_at hl 1 rfl) ?_
    refine lv_lload_n hx hb dX12_done_66 rfl (lv_at hl 2 rfl) ?_
    refine W.lcmp hx hb dX12_done_67 ?_
    refine lv_if_ne (tgt := 75) hx hb dX12_done_68 (by decide) (fun hq => ?_) (fun hq => ?_)
    · replace hf := if_tn hq hf
      clear hq
      refine lv_iconst (v := (0 : Int32)) hx hb dX12_done_75 (by decide) ?_
      have e1 := Option.some.inj hf
      subst e1
      exact m_iret C h dX12_done_76
    · replace hf := if_t hq hf
      clear hq
      refine lv_iconst (v := (1 : Int32)) hx hb dX12_done_71 (by decide) ?_
      refine lv_goto (tgt := 76) hx hb dX12_done_72 (by decide) ?_
      have e1 := Option.some.inj hf
      subst e1
      exact m_iret C h dX12_done_76
  replace hf := if_f q3 hf
  rcases Decidable.em (a0 = (14 : Int32)) with hq | q4
  · replace hf := if_t hq hf
    subst hq
    refine lv_tableIn (off := 76) (tgt := 77) hx hb dX12_done_1 (by decide) (by decide) (by decide) (by decide) ?_
    refine lv_lload_n hx hb dX12_done_77 rfl (lv_at hl 1 rfl) ?_
    refine lv_lload_n hx hb dX12_done_78 rfl (lv_at hl 2 rfl) ?_
    refine W.lcmp hx hb dX12_done_79 ?_
    refine lv_if_ge (tgt := 87) hx hb dX12_done_80 (by decide) (fun hq => ?_) (fun hq => ?_)
    · replace hf := if_t hq hf
      clear hq
      refine lv_iconst (v := (0 : Int32)) hx hb dX12_done_87 (by decide) ?_
      have e1 := Option.some.inj hf
      subst e1
      exact m_iret C h dX12_done_88
    · replace hf := if_f hq hf
      clear hq
      refine lv_iconst (v := (1 : Int32)) hx hb dX12_done_83 (by decide) ?_
      refine lv_goto (tgt := 88) hx hb dX12_done_84 (by decide) ?_
      have e1 := Option.some.inj hf
      subst e1
      exact m_iret C h dX12_done_88
  replace hf := if_f q4 hf
  rcases Decidable.em (a0 = (15 : Int32)) with hq | q5
  · replace hf := if_t hq hf
    subst hq
    refine lv_tableIn (off := 88) (tgt := 89) hx hb dX12_done_1 (by decide) (by decide) (by decide) (by decide) ?_
    refine lv_lload_n hx hb dX12_done_89 rfl (lv_at hl 1 rfl) ?_
    refine lv_lload_n hx hb dX12_done_90 rfl (lv_at hl 2 rfl) ?_
    refine W.lcmp hx hb dX12_done_91 ?_
    refine lv_if_le (tgt := 99) hx hb dX12_done_92 (by decide) (fun hq => ?_) (fun hq => ?_)
    · replace hf := if_t hq hf
      clear hq
      refine lv_iconst (v := (0 : Int32)) hx hb dX12_done_99 (by decide) ?_
      have e1 := Option.some.inj hf
      subst e1
      exact m_iret C h dX12_done_100
    · replace hf := if_f hq hf
      clear hq
      refine lv_iconst (v := (1 : Int32)) hx hb dX12_done_95 (by decide) ?_
      refine lv_goto (tgt := 100) hx hb dX12_done_96 (by decide) ?_
      have e1 := Option.some.inj hf
      subst e1
      exact m_iret C h dX12_done_100
  replace hf := if_f q5 hf
  rcases Decidable.em (a0 = (16 : Int32)) with hq | q6
  · replace hf := if_t hq hf
    subst hq
    refine lv_tableIn (off := 100) (tgt := 101) hx hb dX12_done_1 (by decide) (by decide) (by decide) (by decide) ?_
    refine lv_lload_n hx hb dX12_done_101 rfl (lv_at hl 1 rfl) ?_
    refine lv_lload_n hx hb dX12_done_102 rfl (lv_at hl 2 rfl) ?_
    refine lv_ladd hx hb dX12_done_103 ?_
    refine lv_lconst (v := (1 : Int64)) hx hb dX12_done_104 rfl ?_
    refine W.lcmp hx hb dX12_done_105 ?_
    refine lv_if_le (tgt := 113) hx hb dX12_done_106 (by decide) (fun hq => ?_) (fun hq => ?_)
    · replace hf := if_t hq hf
      clear hq
      refine lv_iconst (v := (0 : Int32)) hx hb dX12_done_113 (by decide) ?_
      have e1 := Option.some.inj hf
      subst e1
      exact m_iret C h dX12_done_114
    · replace hf := if_f hq hf
      clear hq
      refine lv_iconst (v := (1 : Int32)) hx hb dX12_done_109 (by decide) ?_
      refine lv_goto (tgt := 114) hx hb dX12_done_110 (by decide) ?_
      have e1 := Option.some.inj hf
      subst e1
      exact m_iret C h dX12_done_114
  replace hf := if_f q6 hf
  refine lv_tableOut (tgt := 115) hx hb dX12_done_1 (by
      have z0 := i32_ne q0
      have z1 := i32_ne q1
      have z2 := i32_ne q2
      have z3 := i32_ne q3
      have z4 := i32_ne q4
      have z5 := i32_ne q5
      have z6 := i32_ne q6
      simp only [i32v_10, i32v_11, i32v_12, i32v_13, i32v_14, i32v_15, i32v_16] at z0 z1 z2 z3 z4 z5 z6
      omega) (by decide) ?_
  clear q0 q1 q2 q3 q4 q5 q6
  refine lv_lload_n hx hb dX12_done_115 rfl (lv_at hl 1 rfl) ?_
  refine lv_lload_n hx hb dX12_done_116 rfl (lv_at hl 2 rfl) ?_
  refine lv_ladd hx hb dX12_done_117 ?_
  refine lv_lconst (v := (0 : Int64)) hx hb dX12_done_118 rfl ?_
  refine W.lcmp hx hb dX12_done_119 ?_
  refine lv_if_le (tgt := 127) hx hb dX12_done_120 (by decide) (fun hq => ?_) (fun hq => ?_)
  · replace hf := if_t hq hf
    clear hq
    refine lv_iconst (v := (0 : Int32)) hx hb dX12_done_127 (by decide) ?_
    have e1 := Option.some.inj hf
    subst e1
    exact m_iret C h dX12_done_128
  · replace hf := if_f hq hf
    clear hq
    refine lv_iconst (v := (1 : Int32)) hx hb dX12_done_123 (by decide) ?_
    refine lv_goto (tgt := 128) hx hb dX12_done_124 (by decide) ?_
    have e1 := Option.some.inj hf
    subst e1
    exact m_iret C h dX12_done_128

set_option maxHeartbeats 4000000 in
set_option maxRecDepth 100000 in
theorem wX12_lawOf_66 (C : MCx p s m args meth c A RX12 cX12_lawOf 6 (some .int) D cs)  {r : Int32} {g' : MS}  {k5 : MS → Int32 → Int32 → Int32 → Int32 → Option (Int32 × MS)} (hk5 : ∀ (g : MS) (y1 : Int32) (y2 : Int32) (y3 : Int32) (y4 : Int32), k5 g y1 y2 y3 y4 = some (r, g') → ∀ (H : Heap) (locs : List Loc) (ls : Array Slot), MH D (MW cs ad g) A s H locs → lv_has ls 6 [(0, .ref (ad 48)), (1, .int y1), (2, .int y2), (3, .int y3), (4, .int y4)] → W p l e (rM 3) s m args below meth c H locs 0 0 (MQ below (GPost D (some (.int r)) (MW cs ad g') A) args s 0 0 A) (F0 m 5 ls [])) : ∀ (g : MS) (y1 : Int32) (y2 : Int32) (y3 : Int32) (y4 : Int32) (t1 : Int32) (t2 : Int32), fX12_lawOf_66 k5 g y1 y2 y3 y4 t1 t2 = some (r, g') → ∀ (H : Heap) (locs : List Loc) (ls : Array Slot), MH D (MW cs ad g) A s H locs → lv_has ls 6 [(0, .ref (ad 48)), (1, .int y1), (2, .int y2), (3, .int y3), (4, .int y4)] → W p l e (rM 3) s m args below meth c H locs 0 0 (MQ below (GPost D (some (.int r)) (MW cs ad g') A) args s 0 0 A) (F0 m 66 ls [.int t2, .int t1, .ref (ad 19)]) := by
  have hx := C.1
  have hb := C.2.1
  intro g y1 y2 y3 y4 t1 t2 hf H locs ls h hl
  unfold fX12_lawOf_66 at hf
  replace hf := chk_some hf
  obtain ⟨hq, hf⟩ := hf
  replace hf := bnd_ex hf
  obtain ⟨g1, eg1, hf⟩ := hf
  refine ms_19 C h hq dX12_lawOf_66 (fun H locs h => ?_)
  rw [← eg1] at h
  clear hq eg1
  obtain ⟨x2, ex2⟩ : ∃ z : Int32, z = y3 + (1 : Int32) := ⟨_, rfl⟩
  replace hf := bnd_at ex2 hf
  refine lv_iinc (v := x2) (lv' := [(3, .int x2), (0, .ref (ad 48)), (1, .int y1), (2, .int y2), (4, .int y4)]) hx hb dX12_lawOf_67 hl (k := 3) rfl (by rw [ex2]; rfl) (by decide) rfl (fun ls hl => ?_)
  clear ex2
  refine lv_goto (tgt := 133) hx hb dX12_lawOf_70 (by decide) ?_
  obtain ⟨x3, ex3⟩ : ∃ z : Int32, z = y4 + (1 : Int32) := ⟨_, rfl⟩
  replace hf := bnd_at ex3 hf
  refine lv_iinc (v := x3) (lv' := [(4, .int x3), (3, .int x2), (0, .ref (ad 48)), (1, .int y1), (2, .int y2)]) hx hb dX12_lawOf_133 hl (k := 4) rfl (by rw [ex3]; rfl) (by decide) rfl (fun ls hl => ?_)
  clear ex3
  refine lv_goto (tgt := 5) hx hb dX12_lawOf_136 (by decide) ?_
  exact hk5 g1 y1 y2 x2 x3 hf H locs ls h (lv_sub hl [2, 3, 4, 1, 0] rfl)

set_option maxHeartbeats 4000000 in
set_option maxRecDepth 100000 in
theorem wX12_lawOf_5 (C : MCx p s m args meth c A RX12 cX12_lawOf 6 (some .int) D cs)  {r : Int32} {g' : MS}  : ∀ (n : Nat) (g : MS) (y1 : Int32) (y2 : Int32) (y3 : Int32) (y4 : Int32), fX12_lawOf_5 n g y1 y2 y3 y4 = some (r, g') → ∀ (H : Heap) (locs : List Loc) (ls : Array Slot), MH D (MW cs ad g) A s H locs → lv_has ls 6 [(0, .ref (ad 48)), (1, .int y1), (2, .int y2), (3, .int y3), (4, .int y4)] → W p l e (rM 3) s m args below meth c H locs 0 0 (MQ below (GPost D (some (.int r)) (MW cs ad g') A) args s 0 0 A) (F0 m 5 ls []) := by
  have hx := C.1
  have hb := C.2.1
  intro n
  induction n with
  | zero =>
    intro g y1 y2 y3 y4 hf
    exact absurd hf (by simp [fX12_lawOf_5])
  | succ n ih =>
    intro g y1 y2 y3 y4 hf H locs ls h hl
    rw [fX12_lawOf_5] at hf
    refine lv_iload hx hb dX12_lawOf_5 (lv_at hl 4 rfl) ?_
    refine lv_aload_n hx hb dX12_lawOf_7 rfl (lv_at hl 0 rfl) ?_
    refine mg_0 C h dX12_lawOf_8 ?_
    refine lv_iload_n hx hb dX12_lawOf_11 rfl (lv_at hl 1 rfl) ?_
    replace hf := chk_some hf
    obtain ⟨hq, hf⟩ := hf
    refine ml_0 C h hq dX12_lawOf_12 ?_
    clear hq
    refine lv_icmp_ge (tgt := 139) hx hb dX12_lawOf_13 (by decide) (fun hq => ?_) (fun hq => ?_)
    · replace hf := if_t hq hf
      clear hq
      refine lv_aload_n hx hb dX12_lawOf_139 rfl (lv_at hl 0 rfl) ?_
      refine mg_19 C h dX12_lawOf_140 ?_
      refine lv_iconst (v := (0 : Int32)) hx hb dX12_lawOf_143 (by decide) ?_
      replace hf := chk_some hf
      obtain ⟨hq, hf⟩ := hf
      refine ml_19 C h hq dX12_lawOf_144 ?_
      clear hq
      obtain ⟨e1, e2⟩ := pr_inj hf
      subst e1 e2
      exact m_iret C h dX12_lawOf_145
    · replace hf := if_f hq hf
      clear hq
      refine lv_aload_n hx hb dX12_lawOf_16 rfl (lv_at hl 0 rfl) ?_
      refine mg_0 C h dX12_lawOf_17 ?_
      refine lv_iload_n hx hb dX12_lawOf_20 rfl (lv_at hl 2 rfl) ?_
      refine lv_iload hx hb dX12_lawOf_21 (lv_at hl 4 rfl) ?_
      refine lv_iadd hx hb dX12_lawOf_23 ?_
      replace hf := chk_some hf
      obtain ⟨hq, hf⟩ := hf
      refine ml_0 C h hq dX12_lawOf_24 ?_
      clear hq
      refine lv_topi (fun x4 ex4 => ?_)
      replace hf := bnd_at ex4 hf
      clear ex4
      refine lv_istore (lv' := [(5, .int x4), (0, .ref (ad 48)), (1, .int y1), (2, .int y2), (3, .int y3), (4, .int y4)]) hx hb dX12_lawOf_25 hl (by decide) rfl (fun ls hl => ?_)
      refine lv_iload hx hb dX12_lawOf_27 (lv_at hl 0 rfl) ?_
      refine lv_bipush (v := (100 : Int32)) hx hb dX12_lawOf_29 (by decide) ?_
      refine lv_icmp_lt (tgt := 73) hx hb dX12_lawOf_31 (by decide) (fun hq => ?_) (fun hq => ?_)
      · replace hf := if_t hq hf
        clear hq
        refine lv_iload hx hb dX12_lawOf_73 (lv_at hl 0 rfl) ?_
        refine lv_bipush (v := (18 : Int32)) hx hb dX12_lawOf_75 (by decide) ?_
        refine lv_icmp_ne (tgt := 101) hx hb dX12_lawOf_77 (by decide) (fun hq => ?_) (fun hq => ?_)
        · replace hf := if_tn hq hf
          clear hq
          obtain ⟨x5, ex5⟩ : ∃ z : Int32, z = y3 + (-1 : Int32) := ⟨_, rfl⟩
          replace hf := bnd_at ex5 hf
          refine lv_iinc (v := x5) (lv' := [(3, .int x5), (5, .int x4), (0, .ref (ad 48)), (1, .int y1), (2, .int y2), (4, .int y4)]) hx hb dX12_lawOf_101 hl (k := 4) rfl (by rw [ex5]; rfl) (by decide) rfl (fun ls hl => ?_)
          clear ex5
          refine lv_aload_n hx hb dX12_lawOf_104 rfl (lv_at hl 2 rfl) ?_
          refine mg_19 C h dX12_lawOf_105 ?_
          refine lv_iload_n hx hb dX12_lawOf_108 rfl (lv_at hl 0 rfl) ?_
          refine lv_iconst (v := (1 : Int32)) hx hb dX12_lawOf_109 (by decide) ?_
          refine lv_isub hx hb dX12_lawOf_110 ?_
          refine lv_iload hx hb dX12_lawOf_111 (lv_at hl 1 rfl) ?_
          refine lv_aload_n hx hb dX12_lawOf_113 rfl (lv_at hl 2 rfl) ?_
          refine mg_19 C h dX12_lawOf_114 ?_
          refine lv_iload_n hx hb dX12_lawOf_117 rfl (lv_at hl 0 rfl) ?_
          refine lv_iconst (v := (1 : Int32)) hx hb dX12_lawOf_118 (by decide) ?_
          refine lv_isub hx hb dX12_lawOf_119 ?_
          replace hf := chk_some hf
          obtain ⟨hq, hf⟩ := hf
          refine ml_19 C h hq dX12_lawOf_120 ?_
          clear hq
          refine lv_i2l hx hb dX12_lawOf_121 rfl ?_
          refine lv_aload_n hx hb dX12_lawOf_122 rfl (lv_at hl 2 rfl) ?_
          refine mg_19 C h dX12_lawOf_123 ?_
          refine lv_iload_n hx hb dX12_lawOf_126 rfl (lv_at hl 0 rfl) ?_
          replace hf := chk_some hf
          obtain ⟨hq, hf⟩ := hf
          refine ml_19 C h hq dX12_lawOf_127 ?_
          clear hq
          refine lv_i2l hx hb dX12_lawOf_128 rfl ?_
          replace hf := bndv_some hf
          obtain ⟨x6, hc, hf⟩ := hf
          refine m_callSi [.int x4, .long ((g.2.1 19 (ix (x5 - (1 : Int32)))).toInt64), .long ((g.2.1 19 (ix x5)).toInt64)] C h cs_X12_278 (qX12_done hc) rfl ⟨rfl, rfl⟩ ⟨Nat.le_of_ble_eq_true rfl, Nat.le_of_ble_eq_true rfl⟩ hl.1 rfl (Nat.le_of_ble_eq_true rfl) ⟨Nat.le_refl _, Nat.le_refl _⟩ dX12_lawOf_129 (fun H locs h => ?_)
          clear hc
          replace hf := chk_some hf
          obtain ⟨hq, hf⟩ := hf
          replace hf := bnd_ex hf
          obtain ⟨g7, eg7, hf⟩ := hf
          refine ms_19 C h hq dX12_lawOf_132 (fun H locs h => ?_)
          rw [← eg7] at h
          clear hq eg7
          obtain ⟨x8, ex8⟩ : ∃ z : Int32, z = y4 + (1 : Int32) := ⟨_, rfl⟩
          replace hf := bnd_at ex8 hf
          refine lv_iinc (v := x8) (lv' := [(4, .int x8), (3, .int x5), (5, .int x4), (0, .ref (ad 48)), (1, .int y1), (2, .int y2)]) hx hb dX12_lawOf_133 hl (k := 5) rfl (by rw [ex8]; rfl) (by decide) rfl (fun ls hl => ?_)
          clear ex8
          refine lv_goto (tgt := 5) hx hb dX12_lawOf_136 (by decide) ?_
          exact ih g7 y1 y2 x5 x8 hf H locs ls h (lv_sub hl [3, 4, 5, 1, 0] rfl)
        · replace hf := if_t hq hf
          clear hq
          refine lv_aload_n hx hb dX12_lawOf_80 rfl (lv_at hl 1 rfl) ?_
          refine mg_19 C h dX12_lawOf_81 ?_
          refine lv_iload_n hx hb dX12_lawOf_84 rfl (lv_at hl 4 rfl) ?_
          refine lv_iconst (v := (1 : Int32)) hx hb dX12_lawOf_85 (by decide) ?_
          refine lv_isub hx hb dX12_lawOf_86 ?_
          refine lv_iconst (v := (1 : Int32)) hx hb dX12_lawOf_87 (by decide) ?_
          refine lv_aload_n hx hb dX12_lawOf_88 rfl (lv_at hl 1 rfl) ?_
          refine mg_19 C h dX12_lawOf_89 ?_
          refine lv_iload_n hx hb dX12_lawOf_92 rfl (lv_at hl 4 rfl) ?_
          refine lv_iconst (v := (1 : Int32)) hx hb dX12_lawOf_93 (by decide) ?_
          refine lv_isub hx hb dX12_lawOf_94 ?_
          replace hf := chk_some hf
          obtain ⟨hq, hf⟩ := hf
          refine ml_19 C h hq dX12_lawOf_95 ?_
          clear hq
          refine lv_isub hx hb dX12_lawOf_96 ?_
          replace hf := chk_some hf
          obtain ⟨hq, hf⟩ := hf
          replace hf := bnd_ex hf
          obtain ⟨g9, eg9, hf⟩ := hf
          refine ms_19 C h hq dX12_lawOf_97 (fun H locs h => ?_)
          rw [← eg9] at h
          clear hq eg9
          refine lv_goto (tgt := 133) hx hb dX12_lawOf_98 (by decide) ?_
          obtain ⟨x10, ex10⟩ : ∃ z : Int32, z = y4 + (1 : Int32) := ⟨_, rfl⟩
          replace hf := bnd_at ex10 hf
          refine lv_iinc (v := x10) (lv' := [(4, .int x10), (5, .int x4), (0, .ref (ad 48)), (1, .int y1), (2, .int y2), (3, .int y3)]) hx hb dX12_lawOf_133 hl (k := 5) rfl (by rw [ex10]; rfl) (by decide) rfl (fun ls hl => ?_)
          clear ex10
          refine lv_goto (tgt := 5) hx hb dX12_lawOf_136 (by decide) ?_
          exact ih g9 y1 y2 y3 x10 hf H locs ls h (lv_sub hl [2, 3, 4, 5, 0] rfl)
      · replace hf := if_f hq hf
        clear hq
        refine lv_aload_n hx hb dX12_lawOf_34 rfl (lv_at hl 1 rfl) ?_
        refine mg_19 C h dX12_lawOf_35 ?_
        refine lv_iload_n hx hb dX12_lawOf_38 rfl (lv_at hl 4 rfl) ?_
        refine lv_iload hx hb dX12_lawOf_39 (lv_at hl 0 rfl) ?_
        refine lv_sipush (v := (1000 : Int32)) hx hb dX12_lawOf_41 (by decide) ?_
        refine lv_icmp_lt (tgt := 56) hx hb dX12_lawOf_44 (by decide) (fun hq => ?_) (fun hq => ?_)
        · replace hf := if_t hq hf
          clear hq
          refine lv_aload_n hx hb dX12_lawOf_56 rfl (lv_at hl 1 rfl) ?_
          refine mg_20 C h dX12_lawOf_57 ?_
          refine lv_iload hx hb dX12_lawOf_60 (lv_at hl 0 rfl) ?_
          refine lv_bipush (v := (100 : Int32)) hx hb dX12_lawOf_62 (by decide) ?_
          refine lv_isub hx hb dX12_lawOf_64 ?_
          replace hf := chk_some hf
          obtain ⟨hq, hf⟩ := hf
          refine ml_20 C h hq dX12_lawOf_65 ?_
          clear hq
          exact wX12_lawOf_66 C ih g y1 y2 y3 y4 y3 (g.2.1 20 (ix (x4 - (100 : Int32)))) hf H locs ls h (lv_sub hl [1, 2, 3, 4, 5] rfl)
        · replace hf := if_f hq hf
          clear hq
          refine lv_iload hx hb dX12_lawOf_47 (lv_at hl 0 rfl) ?_
          refine lv_sipush (v := (1000 : Int32)) hx hb dX12_lawOf_49 (by decide) ?_
          refine lv_isub hx hb dX12_lawOf_52 ?_
          refine lv_goto (tgt := 66) hx hb dX12_lawOf_53 (by decide) ?_
          exact wX12_lawOf_66 C ih g y1 y2 y3 y4 y3 (x4 - (1000 : Int32)) hf H locs ls h (lv_sub hl [1, 2, 3, 4, 5] rfl)

set_option maxHeartbeats 4000000 in
set_option maxRecDepth 100000 in
theorem qX12_lawOf {l : Launch} {D : va_G} {cs : Nat → ClassId} {ad : Nat → Nat} {r : Int32} {g' : MS} {g : MS}  {a0 : Int32} {a1 : Int32} (hf : fX12_lawOf g a0 a1 = some (r, g')) : GCon l D cs yX12_lawOf cX12_lawOf 6 (some .int) (rM 3) 0 0 [.ref (ad 48), .int a0, .int a1] (MW cs ad g) (some (.int r)) (MW cs ad g') := by
  refine GCon.of (by decide) (Nat.le_of_ble_eq_true rfl) ?_
  intro p e s m args below meth c A ls H locs C h hl
  have hx := C.1
  have hb := C.2.1
  have C : MCx p s m args meth c A RX12 cX12_lawOf 6 (some .int) D cs := C
  have hl : lv_has ls 6 [(0, .ref (ad 48)), (1, .int a0), (2, .int a1)] := hl
  unfold fX12_lawOf at hf
  refine lv_iconst (v := (0 : Int32)) hx hb dX12_lawOf_0 (by decide) ?_
  refine lv_istore_n (lv' := [(3, .int (0 : Int32)), (0, .ref (ad 48)), (1, .int a0), (2, .int a1)]) hx hb dX12_lawOf_1 rfl hl (by decide) rfl (fun ls hl => ?_)
  refine lv_iconst (v := (0 : Int32)) hx hb dX12_lawOf_2 (by decide) ?_
  refine lv_istore (lv' := [(4, .int (0 : Int32)), (3, .int (0 : Int32)), (0, .ref (ad 48)), (1, .int a0), (2, .int a1)]) hx hb dX12_lawOf_3 hl (by decide) rfl (fun ls hl => ?_)
  exact wX12_lawOf_5 C fuel g a0 a1 (0 : Int32) (0 : Int32) hf H locs ls h (lv_sub hl [2, 3, 4, 1, 0] rfl)

set_option maxHeartbeats 4000000 in
set_option maxRecDepth 100000 in
theorem qX12_asks {l : Launch} {D : va_G} {cs : Nat → ClassId} {ad : Nat → Nat} {g' : MS} {g : MS}  {a0 : Int32} {a1 : Int32} {a2 : Int32} (hf : fX12_asks g a0 a1 a2 = some g') : GCon l D cs yX12_asks cX12_asks 4 none (rM 0) 0 0 [.ref (ad 48), .int a0, .int a1, .int a2] (MW cs ad g) none (MW cs ad g') := by
  refine GCon.of (by decide) (Nat.le_of_ble_eq_true rfl) ?_
  intro p e s m args below meth c A ls H locs C h hl
  have hx := C.1
  have hb := C.2.1
  have C : MCx p s m args meth c A RX12 cX12_asks 4 none D cs := C
  have hl : lv_has ls 4 [(0, .ref (ad 48)), (1, .int a0), (2, .int a1), (3, .int a2)] := hl
  unfold fX12_asks at hf
  refine lv_aload_n hx hb dX12_asks_0 rfl (lv_at hl 0 rfl) ?_
  refine mg_20 C h dX12_asks_1 ?_
  refine lv_iconst (v := (0 : Int32)) hx hb dX12_asks_4 (by decide) ?_
  refine lv_iload_n hx hb dX12_asks_5 rfl (lv_at hl 1 rfl) ?_
  replace hf := chk_some hf
  obtain ⟨hq, hf⟩ := hf
  replace hf := bnd_ex hf
  obtain ⟨g1, eg1, hf⟩ := hf
  refine ms_20 C h hq dX12_asks_6 (fun H locs h => ?_)
  rw [← eg1] at h
  clear hq eg1
  refine lv_aload_n hx hb dX12_asks_7 rfl (lv_at hl 0 rfl) ?_
  refine mg_20 C h dX12_asks_8 ?_
  refine lv_iconst (v := (1 : Int32)) hx hb dX12_asks_11 (by decide) ?_
  refine lv_aload_n hx hb dX12_asks_12 rfl (lv_at hl 0 rfl) ?_
  refine mg_0 C h dX12_asks_13 ?_
  refine lv_bipush (v := (12 : Int32)) hx hb dX12_asks_16 (by decide) ?_
  refine lv_iload_n hx hb dX12_asks_18 rfl (lv_at hl 1 rfl) ?_
  refine lv_iadd hx hb dX12_asks_19 ?_
  replace hf := chk_some hf
  obtain ⟨hq, hf⟩ := hf
  refine ml_0 C h hq dX12_asks_20 ?_
  clear hq
  replace hf := chk_some hf
  obtain ⟨hq, hf⟩ := hf
  replace hf := bnd_ex hf
  obtain ⟨g2, eg2, hf⟩ := hf
  refine ms_20 C h hq dX12_asks_21 (fun H locs h => ?_)
  rw [← eg2] at h
  clear hq eg2
  refine lv_aload_n hx hb dX12_asks_22 rfl (lv_at hl 0 rfl) ?_
  refine mg_20 C h dX12_asks_23 ?_
  refine lv_iconst (v := (2 : Int32)) hx hb dX12_asks_26 (by decide) ?_
  refine lv_iload_n hx hb dX12_asks_27 rfl (lv_at hl 2 rfl) ?_
  replace hf := chk_some hf
  obtain ⟨hq, hf⟩ := hf
  replace hf := bnd_ex hf
  obtain ⟨g3, eg3, hf⟩ := hf
  refine ms_20 C h hq dX12_asks_28 (fun H locs h => ?_)
  rw [← eg3] at h
  clear hq eg3
  refine lv_aload_n hx hb dX12_asks_29 rfl (lv_at hl 0 rfl) ?_
  refine mg_20 C h dX12_asks_30 ?_
  refine lv_iconst (v := (3 : Int32)) hx hb dX12_asks_33 (by decide) ?_
  refine lv_iload_n hx hb dX12_asks_34 rfl (lv_at hl 3 rfl) ?_
  replace hf := chk_some hf
  obtain ⟨hq, hf⟩ := hf
  replace hf := bnd_ex hf
  obtain ⟨g4, eg4, hf⟩ := hf
  refine ms_20 C h hq dX12_asks_35 (fun H locs h => ?_)
  rw [← eg4] at h
  clear hq eg4
  have e1 := Option.some.inj hf
  subst e1
  exact m_vret C h dX12_asks_36

set_option maxHeartbeats 4000000 in
set_option maxRecDepth 100000 in
theorem qX12_apart {l : Launch} {D : va_G} {cs : Nat → ClassId} {ad : Nat → Nat} {r : Int32} {g' : MS} {g : MS}  {a0 : Int32} {a1 : Int32} (hf : fX12_apart g a0 a1 = some (r, g')) : GCon l D cs yX12_apart cX12_apart 4 (some .int) (rM 1) 0 0 [.ref (ad 48), .int a0, .int a1] (MW cs ad g) (some (.int r)) (MW cs ad g') := by
  refine GCon.of (by decide) (Nat.le_of_ble_eq_true rfl) ?_
  intro p e s m args below meth c A ls H locs C h hl
  have hx := C.1
  have hb := C.2.1
  have C : MCx p s m args meth c A RX12 cX12_apart 4 (some .int) D cs := C
  have hl : lv_has ls 4 [(0, .ref (ad 48)), (1, .int a0), (2, .int a1)] := hl
  unfold fX12_apart at hf
  refine lv_iload_n hx hb dX12_apart_0 rfl (lv_at hl 1 rfl) ?_
  refine lv_iload_n hx hb dX12_apart_1 rfl (lv_at hl 2 rfl) ?_
  refine lv_isub hx hb dX12_apart_2 ?_
  refine x_abs tb_33_4 C hl.1 (Nat.le_of_ble_eq_true rfl) (Nat.le_of_ble_eq_true rfl) (Nat.le_refl _) (Nat.le_refl _) dX12_apart_3 ?_
  refine lv_topi (fun x1 ex1 => ?_)
  replace hf := bnd_at ex1 hf
  clear ex1
  refine lv_istore_n (lv' := [(3, .int x1), (0, .ref (ad 48)), (1, .int a0), (2, .int a1)]) hx hb dX12_apart_6 rfl hl (by decide) rfl (fun ls hl => ?_)
  refine lv_iload_n hx hb dX12_apart_7 rfl (lv_at hl 0 rfl) ?_
  refine lv_aload_n hx hb dX12_apart_8 rfl (lv_at hl 1 rfl) ?_
  replace hf := bndc_some hf
  obtain ⟨x2, g3, hc, hf⟩ := hf
  refine m_callVi [] C h cv_X12_254 (qX12_size hc) rfl ⟨rfl, rfl⟩ ⟨Nat.le_of_ble_eq_true rfl, Nat.le_of_ble_eq_true rfl⟩ (m_recv C h) hl.1 rfl (Nat.le_of_ble_eq_true rfl) ⟨Nat.le_refl _, Nat.le_refl _⟩ dX12_apart_9 (fun H locs h => ?_)
  clear hc
  refine lv_iload_n hx hb dX12_apart_12 rfl (lv_at hl 0 rfl) ?_
  refine lv_isub hx hb dX12_apart_13 ?_
  refine x_min tb_29_20 C hl.1 (Nat.le_of_ble_eq_true rfl) (Nat.le_of_ble_eq_true rfl) (Nat.le_refl _) (Nat.le_refl _) dX12_apart_14 ?_
  obtain ⟨e1, e2⟩ := pr_inj hf
  subst e1 e2
  exact m_iret C h dX12_apart_17

set_option maxHeartbeats 4000000 in
set_option maxRecDepth 100000 in
theorem qX12_goesAlong {l : Launch} {D : va_G} {cs : Nat → ClassId} {ad : Nat → Nat} {r : Int32} {g' : MS} {g : MS}  {a0 : Int32} {a1 : Int32} (hf : fX12_goesAlong g a0 a1 = some (r, g')) : GCon l D cs yX12_goesAlong cX12_goesAlong 3 (some .boolean) (rM 4) 0 0 [.ref (ad 48), .int a0, .int a1] (MW cs ad g) (some (.int r)) (MW cs ad g') := by
  refine GCon.of (by decide) (Nat.le_of_ble_eq_true rfl) ?_
  intro p e s m args below meth c A ls H locs C h hl
  have hx := C.1
  have hb := C.2.1
  have C : MCx p s m args meth c A RX12 cX12_goesAlong 3 (some .boolean) D cs := C
  have hl : lv_has ls 3 [(0, .ref (ad 48)), (1, .int a0), (2, .int a1)] := hl
  unfold fX12_goesAlong at hf
  refine lv_aload_n hx hb dX12_goesAlong_0 rfl (lv_at hl 0 rfl) ?_
  refine lv_iload_n hx hb dX12_goesAlong_1 rfl (lv_at hl 1 rfl) ?_
  replace hf := bndc_some hf
  obtain ⟨x1, g2, hc, hf⟩ := hf
  refine m_callVi [.int a0] C h cv_X12_287 (qX12_isStuck hc) rfl ⟨rfl, rfl⟩ ⟨Nat.le_of_ble_eq_true rfl, Nat.le_of_ble_eq_true rfl⟩ (m_recv C h) hl.1 rfl (Nat.le_of_ble_eq_true rfl) ⟨Nat.le_refl _, Nat.le_refl _⟩ dX12_goesAlong_2 (fun H locs h => ?_)
  clear hc
  refine lv_if_ne (tgt := 16) hx hb dX12_goesAlong_5 (by decide) (fun hq => ?_) (fun hq => ?_)
  · replace hf := if_tn hq hf
    clear hq
    refine lv_iconst (v := (0 : Int32)) hx hb dX12_goesAlong_16 (by decide) ?_
    obtain ⟨e1, e2⟩ := pr_inj hf
    subst e1 e2
    exact m_zret C h rfl dX12_goesAlong_17
  · replace hf := if_t hq hf
    clear hq
    refine lv_aload_n hx hb dX12_goesAlong_8 rfl (lv_at hl 0 rfl) ?_
    refine lv_iload_n hx hb dX12_goesAlong_9 rfl (lv_at hl 2 rfl) ?_
    replace hf := bndc_some hf
    obtain ⟨x3, g4, hc, hf⟩ := hf
    refine m_callVi [.int a1] C h cv_X12_287 (qX12_isStuck hc) rfl ⟨rfl, rfl⟩ ⟨Nat.le_of_ble_eq_true rfl, Nat.le_of_ble_eq_true rfl⟩ (m_recv C h) hl.1 rfl (Nat.le_of_ble_eq_true rfl) ⟨Nat.le_refl _, Nat.le_refl _⟩ dX12_goesAlong_10 (fun H locs h => ?_)
    clear hc
    refine lv_if_eq (tgt := 18) hx hb dX12_goesAlong_13 (by decide) (fun hq => ?_) (fun hq => ?_)
    · replace hf := if_t hq hf
      clear hq
      refine lv_iload_n hx hb dX12_goesAlong_18 rfl (lv_at hl 1 rfl) ?_
      refine lv_iload_n hx hb dX12_goesAlong_19 rfl (lv_at hl 2 rfl) ?_
      refine lv_icmp_ne (tgt := 25) hx hb dX12_goesAlong_20 (by decide) (fun hq => ?_) (fun hq => ?_)
      · replace hf := if_tn hq hf
        clear hq
        refine lv_aload_n hx hb dX12_goesAlong_25 rfl (lv_at hl 0 rfl) ?_
        refine mg_0 C h dX12_goesAlong_26 ?_
        refine lv_iconst (v := (2 : Int32)) hx hb dX12_goesAlong_29 (by decide) ?_
        replace hf := chk_some hf
        obtain ⟨hq, hf⟩ := hf
        refine ml_0 C h hq dX12_goesAlong_30 ?_
        clear hq
        refine lv_if_ne (tgt := 36) hx hb dX12_goesAlong_31 (by decide) (fun hq => ?_) (fun hq => ?_)
        · replace hf := if_tn hq hf
          clear hq
          refine lv_aload_n hx hb dX12_goesAlong_36 rfl (lv_at hl 0 rfl) ?_
          refine lv_iload_n hx hb dX12_goesAlong_37 rfl (lv_at hl 1 rfl) ?_
          refine lv_iload_n hx hb dX12_goesAlong_38 rfl (lv_at hl 2 rfl) ?_
          refine lv_aload_n hx hb dX12_goesAlong_39 rfl (lv_at hl 0 rfl) ?_
          refine lv_iload_n hx hb dX12_goesAlong_40 rfl (lv_at hl 1 rfl) ?_
          refine lv_iload_n hx hb dX12_goesAlong_41 rfl (lv_at hl 2 rfl) ?_
          replace hf := bndc_some hf
          obtain ⟨x5, g6, hc, hf⟩ := hf
          refine m_callVi [.int a0, .int a1] C h cv_X12_290 (qX12_apart hc) rfl ⟨rfl, rfl⟩ ⟨Nat.le_of_ble_eq_true rfl, Nat.le_of_ble_eq_true rfl⟩ (m_recv C h) hl.1 rfl (Nat.le_of_ble_eq_true rfl) ⟨Nat.le_refl _, Nat.le_refl _⟩ dX12_goesAlong_42 (fun H locs h => ?_)
          clear hc
          replace hf := bndv_some hf
          obtain ⟨g7, hc, hf⟩ := hf
          refine m_callVv [.int a0, .int a1, .int x5] C h cv_X12_292 (qX12_asks hc) rfl ⟨rfl, rfl⟩ ⟨Nat.le_of_ble_eq_true rfl, Nat.le_of_ble_eq_true rfl⟩ (m_recv C h) hl.1 rfl (Nat.le_of_ble_eq_true rfl) ⟨Nat.le_refl _, Nat.le_refl _⟩ dX12_goesAlong_45 (fun H locs h => ?_)
          clear hc
          refine lv_aload_n hx hb dX12_goesAlong_48 rfl (lv_at hl 0 rfl) ?_
          refine lv_iconst (v := (2 : Int32)) hx hb dX12_goesAlong_49 (by decide) ?_
          refine lv_sipush (v := (149 : Int32)) hx hb dX12_goesAlong_50 (by decide) ?_
          replace hf := bndc_some hf
          obtain ⟨x8, g9, hc, hf⟩ := hf
          refine m_callVi [.int (2 : Int32), .int (149 : Int32)] C h cv_X12_296 (qX12_lawOf hc) rfl ⟨rfl, rfl⟩ ⟨Nat.le_of_ble_eq_true rfl, Nat.le_of_ble_eq_true rfl⟩ (m_recv C h) hl.1 rfl (Nat.le_of_ble_eq_true rfl) ⟨Nat.le_refl _, Nat.le_refl _⟩ dX12_goesAlong_53 (fun H locs h => ?_)
          clear hc
          refine lv_iconst (v := (1 : Int32)) hx hb dX12_goesAlong_56 (by decide) ?_
          refine lv_icmp_ne (tgt := 64) hx hb dX12_goesAlong_57 (by decide) (fun hq => ?_) (fun hq => ?_)
          · replace hf := if_tn hq hf
            clear hq
            refine lv_iconst (v := (0 : Int32)) hx hb dX12_goesAlong_64 (by decide) ?_
            obtain ⟨e1, e2⟩ := pr_inj hf
            subst e1 e2
            exact m_zret C h rfl dX12_goesAlong_65
          · replace hf := if_t hq hf
            clear hq
            refine lv_iconst (v := (1 : Int32)) hx hb dX12_goesAlong_60 (by decide) ?_
            refine lv_goto (tgt := 65) hx hb dX12_goesAlong_61 (by decide) ?_
            obtain ⟨e1, e2⟩ := pr_inj hf
            subst e1 e2
            exact m_zret C h rfl dX12_goesAlong_65
        · replace hf := if_t hq hf
          clear hq
          refine lv_iconst (v := (0 : Int32)) hx hb dX12_goesAlong_34 (by decide) ?_
          obtain ⟨e1, e2⟩ := pr_inj hf
          subst e1 e2
          exact m_zret C h rfl dX12_goesAlong_35
      · replace hf := if_t hq hf
        clear hq
        refine lv_iconst (v := (1 : Int32)) hx hb dX12_goesAlong_23 (by decide) ?_
        obtain ⟨e1, e2⟩ := pr_inj hf
        subst e1 e2
        exact m_zret C h rfl dX12_goesAlong_24
    · replace hf := if_f hq hf
      clear hq
      refine lv_iconst (v := (0 : Int32)) hx hb dX12_goesAlong_16 (by decide) ?_
      obtain ⟨e1, e2⟩ := pr_inj hf
      subst e1 e2
      exact m_zret C h rfl dX12_goesAlong_17

set_option maxHeartbeats 4000000 in
set_option maxRecDepth 100000 in
theorem wX12_draggedBy_29 (C : MCx p s m args meth c A RX12 cX12_draggedBy 4 (some .int) D cs)  {r : Int32} {g' : MS}  {k4 : MS → Int32 → Int32 → Int32 → Option (Int32 × MS)} (hk4 : ∀ (g : MS) (y1 : Int32) (y2 : Int32) (y3 : Int32), k4 g y1 y2 y3 = some (r, g') → ∀ (H : Heap) (locs : List Loc) (ls : Array Slot), MH D (MW cs ad g) A s H locs → lv_has ls 4 [(0, .ref (ad 48)), (1, .int y1), (2, .int y2), (3, .int y3)] → W p l e (rM 5) s m args below meth c H locs 0 0 (MQ below (GPost D (some (.int r)) (MW cs ad g') A) args s 0 0 A) (F0 m 4 ls [])) : ∀ (g : MS) (y1 : Int32) (y3 : Int32) (t0 : Int32) (t1 : Int32), fX12_draggedBy_29 k4 g y1 y3 t0 t1 = some (r, g') → ∀ (H : Heap) (locs : List Loc) (ls : Array Slot), MH D (MW cs ad g) A s H locs → lv_has ls 4 [(0, .ref (ad 48)), (1, .int y1), (3, .int y3)] → W p l e (rM 5) s m args below meth c H locs 0 0 (MQ below (GPost D (some (.int r)) (MW cs ad g') A) args s 0 0 A) (F0 m 29 ls [.int t1, .int t0]) := by
  have hx := C.1
  have hb := C.2.1
  intro g y1 y3 t0 t1 hf H locs ls h hl
  unfold fX12_draggedBy_29 at hf
  refine lv_ior hx hb dX12_draggedBy_29 ?_
  refine lv_topi (fun x1 ex1 => ?_)
  replace hf := bnd_at ex1 hf
  clear ex1
  refine lv_istore_n (lv' := [(2, .int x1), (0, .ref (ad 48)), (1, .int y1), (3, .int y3)]) hx hb dX12_draggedBy_30 rfl hl (by decide) rfl (fun ls hl => ?_)
  obtain ⟨x2, ex2⟩ : ∃ z : Int32, z = y3 + (1 : Int32) := ⟨_, rfl⟩
  replace hf := bnd_at ex2 hf
  refine lv_iinc (v := x2) (lv' := [(3, .int x2), (2, .int x1), (0, .ref (ad 48)), (1, .int y1)]) hx hb dX12_draggedBy_31 hl (k := 3) rfl (by rw [ex2]; rfl) (by decide) rfl (fun ls hl => ?_)
  clear ex2
  refine lv_goto (tgt := 4) hx hb dX12_draggedBy_34 (by decide) ?_
  exact hk4 g y1 x1 x2 hf H locs ls h (lv_sub hl [2, 3, 1, 0] rfl)

set_option maxHeartbeats 4000000 in
set_option maxRecDepth 100000 in
theorem wX12_draggedBy_4 (C : MCx p s m args meth c A RX12 cX12_draggedBy 4 (some .int) D cs)  {r : Int32} {g' : MS}  : ∀ (n : Nat) (g : MS) (y1 : Int32) (y2 : Int32) (y3 : Int32), fX12_draggedBy_4 n g y1 y2 y3 = some (r, g') → ∀ (H : Heap) (locs : List Loc) (ls : Array Slot), MH D (MW cs ad g) A s H locs → lv_has ls 4 [(0, .ref (ad 48)), (1, .int y1), (2, .int y2), (3, .int y3)] → W p l e (rM 5) s m args below meth c H locs 0 0 (MQ below (GPost D (some (.int r)) (MW cs ad g') A) args s 0 0 A) (F0 m 4 ls []) := by
  have hx := C.1
  have hb := C.2.1
  intro n
  induction n with
  | zero =>
    intro g y1 y2 y3 hf
    exact absurd hf (by simp [fX12_draggedBy_4])
  | succ n ih =>
    intro g y1 y2 y3 hf H locs ls h hl
    rw [fX12_draggedBy_4] at hf
    refine lv_iload_n hx hb dX12_draggedBy_4 rfl (lv_at hl 3 rfl) ?_
    refine lv_aload_n hx hb dX12_draggedBy_5 rfl (lv_at hl 0 rfl) ?_
    replace hf := bndc_some hf
    obtain ⟨x3, g4, hc, hf⟩ := hf
    refine m_callVi [] C h cv_X12_254 (qX12_size hc) rfl ⟨rfl, rfl⟩ ⟨Nat.le_of_ble_eq_true rfl, Nat.le_of_ble_eq_true rfl⟩ (m_recv C h) hl.1 rfl (Nat.le_of_ble_eq_true rfl) ⟨Nat.le_refl _, Nat.le_refl _⟩ dX12_draggedBy_6 (fun H locs h => ?_)
    clear hc
    refine lv_icmp_ge (tgt := 37) hx hb dX12_draggedBy_9 (by decide) (fun hq => ?_) (fun hq => ?_)
    · replace hf := if_t hq hf
      clear hq
      refine lv_iload_n hx hb dX12_draggedBy_37 rfl (lv_at hl 2 rfl) ?_
      obtain ⟨e1, e2⟩ := pr_inj hf
      subst e1 e2
      exact m_iret C h dX12_draggedBy_38
    · replace hf := if_f hq hf
      clear hq
      refine lv_iload_n hx hb dX12_draggedBy_12 rfl (lv_at hl 2 rfl) ?_
      refine lv_aload_n hx hb dX12_draggedBy_13 rfl (lv_at hl 0 rfl) ?_
      refine lv_iload_n hx hb dX12_draggedBy_14 rfl (lv_at hl 1 rfl) ?_
      refine lv_iload_n hx hb dX12_draggedBy_15 rfl (lv_at hl 3 rfl) ?_
      replace hf := bndc_some hf
      obtain ⟨x5, g6, hc, hf⟩ := hf
      refine m_callVi [.int y1, .int y3] C h cv_X12_299 (qX12_goesAlong hc) rfl ⟨rfl, rfl⟩ ⟨Nat.le_of_ble_eq_true rfl, Nat.le_of_ble_eq_true rfl⟩ (m_recv C h) hl.1 rfl (Nat.le_of_ble_eq_true rfl) ⟨Nat.le_refl _, Nat.le_refl _⟩ dX12_draggedBy_16 (fun H locs h => ?_)
      clear hc
      refine lv_if_eq (tgt := 28) hx hb dX12_draggedBy_19 (by decide) (fun hq => ?_) (fun hq => ?_)
      · replace hf := if_t hq hf
        clear hq
        refine lv_iconst (v := (0 : Int32)) hx hb dX12_draggedBy_28 (by decide) ?_
        exact wX12_draggedBy_29 C ih g6 y1 y3 y2 (0 : Int32) hf H locs ls h (lv_sub hl [0, 1, 3] rfl)
      · replace hf := if_f hq hf
        clear hq
        refine lv_iconst (v := (1 : Int32)) hx hb dX12_draggedBy_22 (by decide) ?_
        refine lv_iload_n hx hb dX12_draggedBy_23 rfl (lv_at hl 3 rfl) ?_
        refine x_ishl hx hb dX12_draggedBy_24 ?_
        refine lv_goto (tgt := 29) hx hb dX12_draggedBy_25 (by decide) ?_
        exact wX12_draggedBy_29 C ih g6 y1 y3 y2 (jshl (1 : Int32) y3) hf H locs ls h (lv_sub hl [0, 1, 3] rfl)

set_option maxHeartbeats 4000000 in
set_option maxRecDepth 100000 in
theorem qX12_draggedBy {l : Launch} {D : va_G} {cs : Nat → ClassId} {ad : Nat → Nat} {r : Int32} {g' : MS} {g : MS}  {a0 : Int32} (hf : fX12_draggedBy g a0 = some (r, g')) : GCon l D cs yX12_draggedBy cX12_draggedBy 4 (some .int) (rM 5) 0 0 [.ref (ad 48), .int a0] (MW cs ad g) (some (.int r)) (MW cs ad g') := by
  refine GCon.of (by decide) (Nat.le_of_ble_eq_true rfl) ?_
  intro p e s m args below meth c A ls H locs C h hl
  have hx := C.1
  have hb := C.2.1
  have C : MCx p s m args meth c A RX12 cX12_draggedBy 4 (some .int) D cs := C
  have hl : lv_has ls 4 [(0, .ref (ad 48)), (1, .int a0)] := hl
  unfold fX12_draggedBy at hf
  refine lv_iconst (v := (0 : Int32)) hx hb dX12_draggedBy_0 (by decide) ?_
  refine lv_istore_n (lv' := [(2, .int (0 : Int32)), (0, .ref (ad 48)), (1, .int a0)]) hx hb dX12_draggedBy_1 rfl hl (by decide) rfl (fun ls hl => ?_)
  refine lv_iconst (v := (0 : Int32)) hx hb dX12_draggedBy_2 (by decide) ?_
  refine lv_istore_n (lv' := [(3, .int (0 : Int32)), (2, .int (0 : Int32)), (0, .ref (ad 48)), (1, .int a0)]) hx hb dX12_draggedBy_3 rfl hl (by decide) rfl (fun ls hl => ?_)
  exact wX12_draggedBy_4 C fuel g a0 (0 : Int32) (0 : Int32) hf H locs ls h (lv_sub hl [2, 3, 1, 0] rfl)

set_option maxHeartbeats 4000000 in
set_option maxRecDepth 100000 in
theorem qX12_notchCosts {l : Launch} {D : va_G} {cs : Nat → ClassId} {ad : Nat → Nat} {r : Int32} {g' : MS} {g : MS}  {a0 : Int32} (hf : fX12_notchCosts g a0 = some (r, g')) : GCon l D cs yX12_notchCosts cX12_notchCosts 2 (some .int) (rM 4) 0 0 [.ref (ad 48), .int a0] (MW cs ad g) (some (.int r)) (MW cs ad g') := by
  refine GCon.of (by decide) (Nat.le_of_ble_eq_true rfl) ?_
  intro p e s m args below meth c A ls H locs C h hl
  have hx := C.1
  have hb := C.2.1
  have C : MCx p s m args meth c A RX12 cX12_notchCosts 2 (some .int) D cs := C
  have hl : lv_has ls 2 [(0, .ref (ad 48)), (1, .int a0)] := hl
  unfold fX12_notchCosts at hf
  refine lv_aload_n hx hb dX12_notchCosts_0 rfl (lv_at hl 0 rfl) ?_
  refine mg_0 C h dX12_notchCosts_1 ?_
  refine lv_iconst (v := (3 : Int32)) hx hb dX12_notchCosts_4 (by decide) ?_
  replace hf := chk_some hf
  obtain ⟨hq, hf⟩ := hf
  refine ml_0 C h hq dX12_notchCosts_5 ?_
  clear hq
  refine lv_if_ne (tgt := 11) hx hb dX12_notchCosts_6 (by decide) (fun hq => ?_) (fun hq => ?_)
  · replace hf := if_tn hq hf
    clear hq
    refine lv_aload_n hx hb dX12_notchCosts_11 rfl (lv_at hl 0 rfl) ?_
    refine lv_iload_n hx hb dX12_notchCosts_12 rfl (lv_at hl 1 rfl) ?_
    refine lv_iconst (v := (0 : Int32)) hx hb dX12_notchCosts_13 (by decide) ?_
    refine lv_iconst (v := (0 : Int32)) hx hb dX12_notchCosts_14 (by decide) ?_
    replace hf := bndv_some hf
    obtain ⟨g1, hc, hf⟩ := hf
    refine m_callVv [.int a0, .int (0 : Int32), .int (0 : Int32)] C h cv_X12_292 (qX12_asks hc) rfl ⟨rfl, rfl⟩ ⟨Nat.le_of_ble_eq_true rfl, Nat.le_of_ble_eq_true rfl⟩ (m_recv C h) hl.1 rfl (Nat.le_of_ble_eq_true rfl) ⟨Nat.le_refl _, Nat.le_refl _⟩ dX12_notchCosts_15 (fun H locs h => ?_)
    clear hc
    refine lv_iconst (v := (1 : Int32)) hx hb dX12_notchCosts_18 (by decide) ?_
    refine lv_bipush (v := (99 : Int32)) hx hb dX12_notchCosts_19 (by decide) ?_
    refine lv_aload_n hx hb dX12_notchCosts_21 rfl (lv_at hl 0 rfl) ?_
    refine lv_iconst (v := (3 : Int32)) hx hb dX12_notchCosts_22 (by decide) ?_
    refine lv_sipush (v := (1049 : Int32)) hx hb dX12_notchCosts_23 (by decide) ?_
    replace hf := bndc_some hf
    obtain ⟨x2, g3, hc, hf⟩ := hf
    refine m_callVi [.int (3 : Int32), .int (1049 : Int32)] C h cv_X12_296 (qX12_lawOf hc) rfl ⟨rfl, rfl⟩ ⟨Nat.le_of_ble_eq_true rfl, Nat.le_of_ble_eq_true rfl⟩ (m_recv C h) hl.1 rfl (Nat.le_of_ble_eq_true rfl) ⟨Nat.le_refl _, Nat.le_refl _⟩ dX12_notchCosts_26 (fun H locs h => ?_)
    clear hc
    refine x_min tb_29_20 C hl.1 (Nat.le_of_ble_eq_true rfl) (Nat.le_of_ble_eq_true rfl) (Nat.le_refl _) (Nat.le_refl _) dX12_notchCosts_29 ?_
    refine x_max tb_29_21 C hl.1 (Nat.le_of_ble_eq_true rfl) (Nat.le_of_ble_eq_true rfl) (Nat.le_refl _) (Nat.le_refl _) dX12_notchCosts_32 ?_
    obtain ⟨e1, e2⟩ := pr_inj hf
    subst e1 e2
    exact m_iret C h dX12_notchCosts_35
  · replace hf := if_t hq hf
    clear hq
    refine lv_iconst (v := (1 : Int32)) hx hb dX12_notchCosts_9 (by decide) ?_
    obtain ⟨e1, e2⟩ := pr_inj hf
    subst e1 e2
    exact m_iret C h dX12_notchCosts_10

set_option maxHeartbeats 4000000 in
set_option maxRecDepth 100000 in
theorem wX12_aimsNow_2 (C : MCx p s m args meth c A RX12 cX12_aimsNow 2 none D cs)  {g' : MS}  : ∀ (n : Nat) (g : MS) (y1 : Int32), fX12_aimsNow_2 n g y1 = some g' → ∀ (H : Heap) (locs : List Loc) (ls : Array Slot), MH D (MW cs ad g) A s H locs → lv_has ls 2 [(0, .ref (ad 48)), (1, .int y1)] → W p l e (rM 1) s m args below meth c H locs 0 0 (MQ below (GPost D none (MW cs ad g') A) args s 0 0 A) (F0 m 2 ls []) := by
  have hx := C.1
  have hb := C.2.1
  intro n
  induction n with
  | zero =>
    intro g y1 hf
    exact absurd hf (by simp [fX12_aimsNow_2])
  | succ n ih =>
    intro g y1 hf H locs ls h hl
    rw [fX12_aimsNow_2] at hf
    refine lv_iload_n hx hb dX12_aimsNow_2 rfl (lv_at hl 1 rfl) ?_
    refine lv_aload_n hx hb dX12_aimsNow_3 rfl (lv_at hl 0 rfl) ?_
    replace hf := bndc_some hf
    obtain ⟨x1, g2, hc, hf⟩ := hf
    refine m_callVi [] C h cv_X12_254 (qX12_size hc) rfl ⟨rfl, rfl⟩ ⟨Nat.le_of_ble_eq_true rfl, Nat.le_of_ble_eq_true rfl⟩ (m_recv C h) hl.1 rfl (Nat.le_of_ble_eq_true rfl) ⟨Nat.le_refl _, Nat.le_refl _⟩ dX12_aimsNow_4 (fun H locs h => ?_)
    clear hc
    refine lv_icmp_ge (tgt := 31) hx hb dX12_aimsNow_7 (by decide) (fun hq => ?_) (fun hq => ?_)
    · replace hf := if_t hq hf
      clear hq
      have e1 := Option.some.inj hf
      subst e1
      exact m_vret C h dX12_aimsNow_31
    · replace hf := if_f hq hf
      clear hq
      refine lv_aload_n hx hb dX12_aimsNow_10 rfl (lv_at hl 0 rfl) ?_
      refine mg_21 C h dX12_aimsNow_11 ?_
      refine lv_iload_n hx hb dX12_aimsNow_14 rfl (lv_at hl 1 rfl) ?_
      refine lv_aload_n hx hb dX12_aimsNow_15 rfl (lv_at hl 0 rfl) ?_
      refine mg_0 C h dX12_aimsNow_16 ?_
      refine lv_bipush (v := (6 : Int32)) hx hb dX12_aimsNow_19 (by decide) ?_
      refine lv_iload_n hx hb dX12_aimsNow_21 rfl (lv_at hl 1 rfl) ?_
      refine lv_iadd hx hb dX12_aimsNow_22 ?_
      replace hf := chk_some hf
      obtain ⟨hq, hf⟩ := hf
      refine ml_0 C h hq dX12_aimsNow_23 ?_
      clear hq
      replace hf := chk_some hf
      obtain ⟨hq, hf⟩ := hf
      replace hf := bnd_ex hf
      obtain ⟨g3, eg3, hf⟩ := hf
      refine ms_21 C h hq dX12_aimsNow_24 (fun H locs h => ?_)
      rw [← eg3] at h
      clear hq eg3
      obtain ⟨x4, ex4⟩ : ∃ z : Int32, z = y1 + (1 : Int32) := ⟨_, rfl⟩
      replace hf := bnd_at ex4 hf
      refine lv_iinc (v := x4) (lv' := [(1, .int x4), (0, .ref (ad 48))]) hx hb dX12_aimsNow_25 hl (k := 1) rfl (by rw [ex4]; rfl) (by decide) rfl (fun ls hl => ?_)
      clear ex4
      refine lv_goto (tgt := 2) hx hb dX12_aimsNow_28 (by decide) ?_
      exact ih g3 x4 hf H locs ls h (lv_sub hl [1, 0] rfl)

set_option maxHeartbeats 4000000 in
set_option maxRecDepth 100000 in
theorem qX12_aimsNow {l : Launch} {D : va_G} {cs : Nat → ClassId} {ad : Nat → Nat} {g' : MS} {g : MS}  (hf : fX12_aimsNow g = some g') : GCon l D cs yX12_aimsNow cX12_aimsNow 2 none (rM 1) 0 0 [.ref (ad 48)] (MW cs ad g) none (MW cs ad g') := by
  refine GCon.of (by decide) (Nat.le_of_ble_eq_true rfl) ?_
  intro p e s m args below meth c A ls H locs C h hl
  have hx := C.1
  have hb := C.2.1
  have C : MCx p s m args meth c A RX12 cX12_aimsNow 2 none D cs := C
  have hl : lv_has ls 2 [(0, .ref (ad 48))] := hl
  unfold fX12_aimsNow at hf
  refine lv_iconst (v := (0 : Int32)) hx hb dX12_aimsNow_0 (by decide) ?_
  refine lv_istore_n (lv' := [(1, .int (0 : Int32)), (0, .ref (ad 48))]) hx hb dX12_aimsNow_1 rfl hl (by decide) rfl (fun ls hl => ?_)
  exact wX12_aimsNow_2 C fuel g (0 : Int32) hf H locs ls h (lv_sub hl [1, 0] rfl)

set_option maxHeartbeats 4000000 in
set_option maxRecDepth 100000 in
theorem qX12_faced {l : Launch} {D : va_G} {cs : Nat → ClassId} {ad : Nat → Nat} {r : Int32} {g' : MS} {g : MS}  {a0 : Int32} (hf : fX12_faced g a0 = some (r, g')) : GCon l D cs yX12_faced cX12_faced 2 (some .int) (rM 1) 0 0 [.ref (ad 48), .int a0] (MW cs ad g) (some (.int r)) (MW cs ad g') := by
  refine GCon.of (by decide) (Nat.le_of_ble_eq_true rfl) ?_
  intro p e s m args below meth c A ls H locs C h hl
  have hx := C.1
  have hb := C.2.1
  have C : MCx p s m args meth c A RX12 cX12_faced 2 (some .int) D cs := C
  have hl : lv_has ls 2 [(0, .ref (ad 48)), (1, .int a0)] := hl
  unfold fX12_faced at hf
  refine lv_aload_n hx hb dX12_faced_0 rfl (lv_at hl 0 rfl) ?_
  refine mg_21 C h dX12_faced_1 ?_
  refine lv_iload_n hx hb dX12_faced_4 rfl (lv_at hl 1 rfl) ?_
  replace hf := chk_some hf
  obtain ⟨hq, hf⟩ := hf
  refine ml_21 C h hq dX12_faced_5 ?_
  clear hq
  refine lv_if_ne (tgt := 13) hx hb dX12_faced_6 (by decide) (fun hq => ?_) (fun hq => ?_)
  · replace hf := if_tn hq hf
    clear hq
    refine lv_iload_n hx hb dX12_faced_13 rfl (lv_at hl 1 rfl) ?_
    refine lv_aload_n hx hb dX12_faced_14 rfl (lv_at hl 0 rfl) ?_
    refine mg_21 C h dX12_faced_15 ?_
    refine lv_iload_n hx hb dX12_faced_18 rfl (lv_at hl 1 rfl) ?_
    replace hf := chk_some hf
    obtain ⟨hq, hf⟩ := hf
    refine ml_21 C h hq dX12_faced_19 ?_
    clear hq
    refine lv_iadd hx hb dX12_faced_20 ?_
    refine lv_aload_n hx hb dX12_faced_21 rfl (lv_at hl 0 rfl) ?_
    replace hf := bndc_some hf
    obtain ⟨x1, g2, hc, hf⟩ := hf
    refine m_callVi [] C h cv_X12_254 (qX12_size hc) rfl ⟨rfl, rfl⟩ ⟨Nat.le_of_ble_eq_true rfl, Nat.le_of_ble_eq_true rfl⟩ (m_recv C h) hl.1 rfl (Nat.le_of_ble_eq_true rfl) ⟨Nat.le_refl _, Nat.le_refl _⟩ dX12_faced_22 (fun H locs h => ?_)
    clear hc
    replace hf := chk_some hf
    obtain ⟨hq, hf⟩ := hf
    refine x_irem hx hb dX12_faced_25 (nz_ne hq) ?_
    clear hq
    obtain ⟨e1, e2⟩ := pr_inj hf
    subst e1 e2
    exact m_iret C h dX12_faced_26
  · replace hf := if_t hq hf
    clear hq
    refine lv_iconst (v := (-1 : Int32)) hx hb dX12_faced_9 (by decide) ?_
    refine lv_goto (tgt := 26) hx hb dX12_faced_10 (by decide) ?_
    obtain ⟨e1, e2⟩ := pr_inj hf
    subst e1 e2
    exact m_iret C h dX12_faced_26

set_option maxHeartbeats 4000000 in
set_option maxRecDepth 100000 in
theorem wX12_laysVotes_25 (C : MCx p s m args meth c A RX12 cX12_laysVotes 2 none D cs)  {g' : MS}  : ∀ (n : Nat) (g : MS) (y1 : Int32), fX12_laysVotes_25 n g y1 = some g' → ∀ (H : Heap) (locs : List Loc) (ls : Array Slot), MH D (MW cs ad g) A s H locs → lv_has ls 2 [(0, .ref (ad 48)), (1, .int y1)] → W p l e (rM 2) s m args below meth c H locs 0 0 (MQ below (GPost D none (MW cs ad g') A) args s 0 0 A) (F0 m 25 ls []) := by
  have hx := C.1
  have hb := C.2.1
  intro n
  induction n with
  | zero =>
    intro g y1 hf
    exact absurd hf (by simp [fX12_laysVotes_25])
  | succ n ih =>
    intro g y1 hf H locs ls h hl
    rw [fX12_laysVotes_25] at hf
    refine lv_iload_n hx hb dX12_laysVotes_25 rfl (lv_at hl 1 rfl) ?_
    refine lv_aload_n hx hb dX12_laysVotes_26 rfl (lv_at hl 0 rfl) ?_
    replace hf := bndc_some hf
    obtain ⟨x1, g2, hc, hf⟩ := hf
    refine m_callVi [] C h cv_X12_254 (qX12_size hc) rfl ⟨rfl, rfl⟩ ⟨Nat.le_of_ble_eq_true rfl, Nat.le_of_ble_eq_true rfl⟩ (m_recv C h) hl.1 rfl (Nat.le_of_ble_eq_true rfl) ⟨Nat.le_refl _, Nat.le_refl _⟩ dX12_laysVotes_27 (fun H locs h => ?_)
    clear hc
    refine lv_icmp_ge (tgt := 70) hx hb dX12_laysVotes_30 (by decide) (fun hq => ?_) (fun hq => ?_)
    · replace hf := if_t hq hf
      clear hq
      have e1 := Option.some.inj hf
      subst e1
      exact m_vret C h dX12_laysVotes_70
    · replace hf := if_f hq hf
      clear hq
      refine lv_aload_n hx hb dX12_laysVotes_33 rfl (lv_at hl 0 rfl) ?_
      refine mg_21 C h dX12_laysVotes_34 ?_
      refine lv_iload_n hx hb dX12_laysVotes_37 rfl (lv_at hl 1 rfl) ?_
      replace hf := chk_some hf
      obtain ⟨hq, hf⟩ := hf
      refine ml_21 C h hq dX12_laysVotes_38 ?_
      clear hq
      refine lv_if_eq (tgt := 64) hx hb dX12_laysVotes_39 (by decide) (fun hq => ?_) (fun hq => ?_)
      · replace hf := if_t hq hf
        clear hq
        obtain ⟨x3, ex3⟩ : ∃ z : Int32, z = y1 + (1 : Int32) := ⟨_, rfl⟩
        replace hf := bnd_at ex3 hf
        refine lv_iinc (v := x3) (lv' := [(1, .int x3), (0, .ref (ad 48))]) hx hb dX12_laysVotes_64 hl (k := 1) rfl (by rw [ex3]; rfl) (by decide) rfl (fun ls hl => ?_)
        clear ex3
        refine lv_goto (tgt := 25) hx hb dX12_laysVotes_67 (by decide) ?_
        exact ih g2 x3 hf H locs ls h (lv_sub hl [1, 0] rfl)
      · replace hf := if_f hq hf
        clear hq
        refine lv_aload_n hx hb dX12_laysVotes_42 rfl (lv_at hl 0 rfl) ?_
        refine mg_22 C h dX12_laysVotes_43 ?_
        refine lv_aload_n hx hb dX12_laysVotes_46 rfl (lv_at hl 0 rfl) ?_
        refine lv_iload_n hx hb dX12_laysVotes_47 rfl (lv_at hl 1 rfl) ?_
        replace hf := bndc_some hf
        obtain ⟨x4, g5, hc, hf⟩ := hf
        refine m_callVi [.int y1] C h cv_X12_304 (qX12_faced hc) rfl ⟨rfl, rfl⟩ ⟨Nat.le_of_ble_eq_true rfl, Nat.le_of_ble_eq_true rfl⟩ (m_recv C h) hl.1 rfl (Nat.le_of_ble_eq_true rfl) ⟨Nat.le_refl _, Nat.le_refl _⟩ dX12_laysVotes_48 (fun H locs h => ?_)
        clear hc
        refine lv_dup2_11 hx hb dX12_laysVotes_51 rfl rfl ?_
        replace hf := chk_some hf
        obtain ⟨hq, hf⟩ := hf
        refine ml_22 C h hq dX12_laysVotes_52 ?_
        clear hq
        refine lv_aload_n hx hb dX12_laysVotes_53 rfl (lv_at hl 0 rfl) ?_
        refine mg_0 C h dX12_laysVotes_54 ?_
        refine lv_bipush (v := (12 : Int32)) hx hb dX12_laysVotes_57 (by decide) ?_
        refine lv_iload_n hx hb dX12_laysVotes_59 rfl (lv_at hl 1 rfl) ?_
        refine lv_iadd hx hb dX12_laysVotes_60 ?_
        replace hf := chk_some hf
        obtain ⟨hq, hf⟩ := hf
        refine ml_0 C h hq dX12_laysVotes_61 ?_
        clear hq
        refine lv_iadd hx hb dX12_laysVotes_62 ?_
        replace hf := chk_some hf
        obtain ⟨hq, hf⟩ := hf
        replace hf := bnd_ex hf
        obtain ⟨g6, eg6, hf⟩ := hf
        refine ms_22 C h hq dX12_laysVotes_63 (fun H locs h => ?_)
        rw [← eg6] at h
        clear hq eg6
        obtain ⟨x7, ex7⟩ : ∃ z : Int32, z = y1 + (1 : Int32) := ⟨_, rfl⟩
        replace hf := bnd_at ex7 hf
        refine lv_iinc (v := x7) (lv' := [(1, .int x7), (0, .ref (ad 48))]) hx hb dX12_laysVotes_64 hl (k := 1) rfl (by rw [ex7]; rfl) (by decide) rfl (fun ls hl => ?_)
        clear ex7
        refine lv_goto (tgt := 25) hx hb dX12_laysVotes_67 (by decide) ?_
        exact ih g6 x7 hf H locs ls h (lv_sub hl [1, 0] rfl)

set_option maxHeartbeats 4000000 in
set_option maxRecDepth 100000 in
theorem wX12_laysVotes_2 (C : MCx p s m args meth c A RX12 cX12_laysVotes 2 none D cs)  {g' : MS}  : ∀ (n : Nat) (g : MS) (y1 : Int32), fX12_laysVotes_2 n g y1 = some g' → ∀ (H : Heap) (locs : List Loc) (ls : Array Slot), MH D (MW cs ad g) A s H locs → lv_has ls 2 [(0, .ref (ad 48)), (1, .int y1)] → W p l e (rM 2) s m args below meth c H locs 0 0 (MQ below (GPost D none (MW cs ad g') A) args s 0 0 A) (F0 m 2 ls []) := by
  have hx := C.1
  have hb := C.2.1
  intro n
  induction n with
  | zero =>
    intro g y1 hf
    exact absurd hf (by simp [fX12_laysVotes_2])
  | succ n ih =>
    intro g y1 hf H locs ls h hl
    rw [fX12_laysVotes_2] at hf
    refine lv_iload_n hx hb dX12_laysVotes_2 rfl (lv_at hl 1 rfl) ?_
    refine lv_aload_n hx hb dX12_laysVotes_3 rfl (lv_at hl 0 rfl) ?_
    replace hf := bndc_some hf
    obtain ⟨x8, g9, hc, hf⟩ := hf
    refine m_callVi [] C h cv_X12_254 (qX12_size hc) rfl ⟨rfl, rfl⟩ ⟨Nat.le_of_ble_eq_true rfl, Nat.le_of_ble_eq_true rfl⟩ (m_recv C h) hl.1 rfl (Nat.le_of_ble_eq_true rfl) ⟨Nat.le_refl _, Nat.le_refl _⟩ dX12_laysVotes_4 (fun H locs h => ?_)
    clear hc
    refine lv_icmp_ge (tgt := 23) hx hb dX12_laysVotes_7 (by decide) (fun hq => ?_) (fun hq => ?_)
    · replace hf := if_t hq hf
      clear hq
      refine lv_iconst (v := (0 : Int32)) hx hb dX12_laysVotes_23 (by decide) ?_
      refine lv_istore_n (lv' := [(1, .int (0 : Int32)), (0, .ref (ad 48))]) hx hb dX12_laysVotes_24 rfl hl (by decide) rfl (fun ls hl => ?_)
      exact wX12_laysVotes_25 C fuel g9 (0 : Int32) hf H locs ls h (lv_sub hl [1, 0] rfl)
    · replace hf := if_f hq hf
      clear hq
      refine lv_aload_n hx hb dX12_laysVotes_10 rfl (lv_at hl 0 rfl) ?_
      refine mg_22 C h dX12_laysVotes_11 ?_
      refine lv_iload_n hx hb dX12_laysVotes_14 rfl (lv_at hl 1 rfl) ?_
      refine lv_iconst (v := (0 : Int32)) hx hb dX12_laysVotes_15 (by decide) ?_
      replace hf := chk_some hf
      obtain ⟨hq, hf⟩ := hf
      replace hf := bnd_ex hf
      obtain ⟨g10, eg10, hf⟩ := hf
      refine ms_22 C h hq dX12_laysVotes_16 (fun H locs h => ?_)
      rw [← eg10] at h
      clear hq eg10
      obtain ⟨x11, ex11⟩ : ∃ z : Int32, z = y1 + (1 : Int32) := ⟨_, rfl⟩
      replace hf := bnd_at ex11 hf
      refine lv_iinc (v := x11) (lv' := [(1, .int x11), (0, .ref (ad 48))]) hx hb dX12_laysVotes_17 hl (k := 1) rfl (by rw [ex11]; rfl) (by decide) rfl (fun ls hl => ?_)
      clear ex11
      refine lv_goto (tgt := 2) hx hb dX12_laysVotes_20 (by decide) ?_
      exact ih g10 x11 hf H locs ls h (lv_sub hl [1, 0] rfl)

set_option maxHeartbeats 4000000 in
set_option maxRecDepth 100000 in
theorem qX12_laysVotes {l : Launch} {D : va_G} {cs : Nat → ClassId} {ad : Nat → Nat} {g' : MS} {g : MS}  (hf : fX12_laysVotes g = some g') : GCon l D cs yX12_laysVotes cX12_laysVotes 2 none (rM 2) 0 0 [.ref (ad 48)] (MW cs ad g) none (MW cs ad g') := by
  refine GCon.of (by decide) (Nat.le_of_ble_eq_true rfl) ?_
  intro p e s m args below meth c A ls H locs C h hl
  have hx := C.1
  have hb := C.2.1
  have C : MCx p s m args meth c A RX12 cX12_laysVotes 2 none D cs := C
  have hl : lv_has ls 2 [(0, .ref (ad 48))] := hl
  unfold fX12_laysVotes at hf
  refine lv_iconst (v := (0 : Int32)) hx hb dX12_laysVotes_0 (by decide) ?_
  refine lv_istore_n (lv' := [(1, .int (0 : Int32)), (0, .ref (ad 48))]) hx hb dX12_laysVotes_1 rfl hl (by decide) rfl (fun ls hl => ?_)
  exact wX12_laysVotes_2 C fuel g (0 : Int32) hf H locs ls h (lv_sub hl [1, 0] rfl)

set_option maxHeartbeats 4000000 in
set_option maxRecDepth 100000 in
theorem wX12_chairBy_37 (C : MCx p s m args meth c A RX12 cX12_chairBy 3 (some .int) D cs)  {r : Int32} {g' : MS}  {k8 : MS → Int32 → Int32 → Option (Int32 × MS)} (hk8 : ∀ (g : MS) (y1 : Int32) (y2 : Int32), k8 g y1 y2 = some (r, g') → ∀ (H : Heap) (locs : List Loc) (ls : Array Slot), MH D (MW cs ad g) A s H locs → lv_has ls 3 [(0, .ref (ad 48)), (1, .int y1), (2, .int y2)] → W p l e (rM 3) s m args below meth c H locs 0 0 (MQ below (GPost D (some (.int r)) (MW cs ad g') A) args s 0 0 A) (F0 m 8 ls [])) : ∀ (g : MS) (y1 : Int32) (y2 : Int32) (t0 : Int32) (t1 : Int32), fX12_chairBy_37 k8 g y1 y2 t0 t1 = some (r, g') → ∀ (H : Heap) (locs : List Loc) (ls : Array Slot), MH D (MW cs ad g) A s H locs → lv_has ls 3 [(0, .ref (ad 48)), (1, .int y1), (2, .int y2)] → W p l e (rM 3) s m args below meth c H locs 0 0 (MQ below (GPost D (some (.int r)) (MW cs ad g') A) args s 0 0 A) (F0 m 37 ls [.int t1, .int t0]) := by
  have hx := C.1
  have hb := C.2.1
  intro g y1 y2 t0 t1 hf H locs ls h hl
  unfold fX12_chairBy_37 at hf
  refine lv_icmp_le (tgt := 42) hx hb dX12_chairBy_37 (by decide) (fun hq => ?_) (fun hq => ?_)
  · replace hf := if_t hq hf
    clear hq
    obtain ⟨x1, ex1⟩ : ∃ z : Int32, z = y2 + (1 : Int32) := ⟨_, rfl⟩
    replace hf := bnd_at ex1 hf
    refine lv_iinc (v := x1) (lv' := [(2, .int x1), (0, .ref (ad 48)), (1, .int y1)]) hx hb dX12_chairBy_42 hl (k := 2) rfl (by rw [ex1]; rfl) (by decide) rfl (fun ls hl => ?_)
    clear ex1
    refine lv_goto (tgt := 8) hx hb dX12_chairBy_45 (by decide) ?_
    exact hk8 g y1 x1 hf H locs ls h (lv_sub hl [1, 2, 0] rfl)
  · replace hf := if_f hq hf
    clear hq
    refine lv_iload_n hx hb dX12_chairBy_40 rfl (lv_at hl 2 rfl) ?_
    refine lv_istore_n (lv' := [(1, .int y2), (0, .ref (ad 48)), (2, .int y2)]) hx hb dX12_chairBy_41 rfl hl (by decide) rfl (fun ls hl => ?_)
    obtain ⟨x2, ex2⟩ : ∃ z : Int32, z = y2 + (1 : Int32) := ⟨_, rfl⟩
    replace hf := bnd_at ex2 hf
    refine lv_iinc (v := x2) (lv' := [(2, .int x2), (1, .int y2), (0, .ref (ad 48))]) hx hb dX12_chairBy_42 hl (k := 2) rfl (by rw [ex2]; rfl) (by decide) rfl (fun ls hl => ?_)
    clear ex2
    refine lv_goto (tgt := 8) hx hb dX12_chairBy_45 (by decide) ?_
    exact hk8 g y2 x2 hf H locs ls h (lv_sub hl [2, 1, 0] rfl)

set_option maxHeartbeats 4000000 in
set_option maxRecDepth 100000 in
theorem wX12_chairBy_8 (C : MCx p s m args meth c A RX12 cX12_chairBy 3 (some .int) D cs)  {r : Int32} {g' : MS}  : ∀ (n : Nat) (g : MS) (y1 : Int32) (y2 : Int32), fX12_chairBy_8 n g y1 y2 = some (r, g') → ∀ (H : Heap) (locs : List Loc) (ls : Array Slot), MH D (MW cs ad g) A s H locs → lv_has ls 3 [(0, .ref (ad 48)), (1, .int y1), (2, .int y2)] → W p l e (rM 3) s m args below meth c H locs 0 0 (MQ below (GPost D (some (.int r)) (MW cs ad g') A) args s 0 0 A) (F0 m 8 ls []) := by
  have hx := C.1
  have hb := C.2.1
  intro n
  induction n with
  | zero =>
    intro g y1 y2 hf
    exact absurd hf (by simp [fX12_chairBy_8])
  | succ n ih =>
    intro g y1 y2 hf H locs ls h hl
    rw [fX12_chairBy_8] at hf
    refine lv_iload_n hx hb dX12_chairBy_8 rfl (lv_at hl 2 rfl) ?_
    refine lv_aload_n hx hb dX12_chairBy_9 rfl (lv_at hl 0 rfl) ?_
    replace hf := bndc_some hf
    obtain ⟨x3, g4, hc, hf⟩ := hf
    refine m_callVi [] C h cv_X12_254 (qX12_size hc) rfl ⟨rfl, rfl⟩ ⟨Nat.le_of_ble_eq_true rfl, Nat.le_of_ble_eq_true rfl⟩ (m_recv C h) hl.1 rfl (Nat.le_of_ble_eq_true rfl) ⟨Nat.le_refl _, Nat.le_refl _⟩ dX12_chairBy_10 (fun H locs h => ?_)
    clear hc
    refine lv_icmp_ge (tgt := 48) hx hb dX12_chairBy_13 (by decide) (fun hq => ?_) (fun hq => ?_)
    · replace hf := if_t hq hf
      clear hq
      refine lv_iload_n hx hb dX12_chairBy_48 rfl (lv_at hl 1 rfl) ?_
      obtain ⟨e1, e2⟩ := pr_inj hf
      subst e1 e2
      exact m_iret C h dX12_chairBy_49
    · replace hf := if_f hq hf
      clear hq
      refine lv_aload_n hx hb dX12_chairBy_16 rfl (lv_at hl 0 rfl) ?_
      refine mg_22 C h dX12_chairBy_17 ?_
      refine lv_iload_n hx hb dX12_chairBy_20 rfl (lv_at hl 2 rfl) ?_
      replace hf := chk_some hf
      obtain ⟨hq, hf⟩ := hf
      refine ml_22 C h hq dX12_chairBy_21 ?_
      clear hq
      refine lv_iload_n hx hb dX12_chairBy_22 rfl (lv_at hl 1 rfl) ?_
      refine lv_iconst (v := (-1 : Int32)) hx hb dX12_chairBy_23 (by decide) ?_
      refine lv_icmp_ne (tgt := 31) hx hb dX12_chairBy_24 (by decide) (fun hq => ?_) (fun hq => ?_)
      · replace hf := if_tn hq hf
        clear hq
        refine lv_aload_n hx hb dX12_chairBy_31 rfl (lv_at hl 0 rfl) ?_
        refine mg_22 C h dX12_chairBy_32 ?_
        refine lv_iload_n hx hb dX12_chairBy_35 rfl (lv_at hl 1 rfl) ?_
        replace hf := chk_some hf
        obtain ⟨hq, hf⟩ := hf
        refine ml_22 C h hq dX12_chairBy_36 ?_
        clear hq
        exact wX12_chairBy_37 C ih g4 y1 y2 (g4.2.1 22 (ix y2)) (g4.2.1 22 (ix y1)) hf H locs ls h (lv_sub hl [0, 1, 2] rfl)
      · replace hf := if_t hq hf
        clear hq
        refine lv_iconst (v := (0 : Int32)) hx hb dX12_chairBy_27 (by decide) ?_
        refine lv_goto (tgt := 37) hx hb dX12_chairBy_28 (by decide) ?_
        exact wX12_chairBy_37 C ih g4 y1 y2 (g4.2.1 22 (ix y2)) (0 : Int32) hf H locs ls h (lv_sub hl [0, 1, 2] rfl)

set_option maxHeartbeats 4000000 in
set_option maxRecDepth 100000 in
theorem qX12_chairBy {l : Launch} {D : va_G} {cs : Nat → ClassId} {ad : Nat → Nat} {r : Int32} {g' : MS} {g : MS}  (hf : fX12_chairBy g = some (r, g')) : GCon l D cs yX12_chairBy cX12_chairBy 3 (some .int) (rM 3) 0 0 [.ref (ad 48)] (MW cs ad g) (some (.int r)) (MW cs ad g') := by
  refine GCon.of (by decide) (Nat.le_of_ble_eq_true rfl) ?_
  intro p e s m args below meth c A ls H locs C h hl
  have hx := C.1
  have hb := C.2.1
  have C : MCx p s m args meth c A RX12 cX12_chairBy 3 (some .int) D cs := C
  have hl : lv_has ls 3 [(0, .ref (ad 48))] := hl
  unfold fX12_chairBy at hf
  refine lv_aload_n hx hb dX12_chairBy_0 rfl (lv_at hl 0 rfl) ?_
  replace hf := bndv_some hf
  obtain ⟨g5, hc, hf⟩ := hf
  refine m_callVv [] C h cv_X12_307 (qX12_laysVotes hc) rfl ⟨rfl, rfl⟩ ⟨Nat.le_of_ble_eq_true rfl, Nat.le_of_ble_eq_true rfl⟩ (m_recv C h) hl.1 rfl (Nat.le_of_ble_eq_true rfl) ⟨Nat.le_refl _, Nat.le_refl _⟩ dX12_chairBy_1 (fun H locs h => ?_)
  clear hc
  refine lv_iconst (v := (-1 : Int32)) hx hb dX12_chairBy_4 (by decide) ?_
  refine lv_istore_n (lv' := [(1, .int (-1 : Int32)), (0, .ref (ad 48))]) hx hb dX12_chairBy_5 rfl hl (by decide) rfl (fun ls hl => ?_)
  refine lv_iconst (v := (0 : Int32)) hx hb dX12_chairBy_6 (by decide) ?_
  refine lv_istore_n (lv' := [(2, .int (0 : Int32)), (1, .int (-1 : Int32)), (0, .ref (ad 48))]) hx hb dX12_chairBy_7 rfl hl (by decide) rfl (fun ls hl => ?_)
  exact wX12_chairBy_8 C fuel g5 (-1 : Int32) (0 : Int32) hf H locs ls h (lv_sub hl [2, 1, 0] rfl)

set_option maxHeartbeats 4000000 in
set_option maxRecDepth 100000 in
theorem qX12_chairNow {l : Launch} {D : va_G} {cs : Nat → ClassId} {ad : Nat → Nat} {r : Int32} {g' : MS} {g : MS}  (hf : fX12_chairNow g = some (r, g')) : GCon l D cs yX12_chairNow cX12_chairNow 1 (some .int) (rM 4) 0 0 [.ref (ad 48)] (MW cs ad g) (some (.int r)) (MW cs ad g') := by
  refine GCon.of (by decide) (Nat.le_of_ble_eq_true rfl) ?_
  intro p e s m args below meth c A ls H locs C h hl
  have hx := C.1
  have hb := C.2.1
  have C : MCx p s m args meth c A RX12 cX12_chairNow 1 (some .int) D cs := C
  have hl : lv_has ls 1 [(0, .ref (ad 48))] := hl
  unfold fX12_chairNow at hf
  refine lv_aload_n hx hb dX12_chairNow_0 rfl (lv_at hl 0 rfl) ?_
  replace hf := bndv_some hf
  obtain ⟨g1, hc, hf⟩ := hf
  refine m_callVv [] C h cv_X12_310 (qX12_aimsNow hc) rfl ⟨rfl, rfl⟩ ⟨Nat.le_of_ble_eq_true rfl, Nat.le_of_ble_eq_true rfl⟩ (m_recv C h) hl.1 rfl (Nat.le_of_ble_eq_true rfl) ⟨Nat.le_refl _, Nat.le_refl _⟩ dX12_chairNow_1 (fun H locs h => ?_)
  clear hc
  refine lv_aload_n hx hb dX12_chairNow_4 rfl (lv_at hl 0 rfl) ?_
  replace hf := bndc_some hf
  obtain ⟨x2, g3, hc, hf⟩ := hf
  refine m_callVi [] C h cv_X12_313 (qX12_chairBy hc) rfl ⟨rfl, rfl⟩ ⟨Nat.le_of_ble_eq_true rfl, Nat.le_of_ble_eq_true rfl⟩ (m_recv C h) hl.1 rfl (Nat.le_of_ble_eq_true rfl) ⟨Nat.le_refl _, Nat.le_refl _⟩ dX12_chairNow_5 (fun H locs h => ?_)
  clear hc
  obtain ⟨e1, e2⟩ := pr_inj hf
  subst e1 e2
  exact m_iret C h dX12_chairNow_8

set_option maxHeartbeats 4000000 in
set_option maxRecDepth 100000 in
theorem wX12_kneesBy_43 (C : MCx p s m args meth c A RX12 cX12_kneesBy 4 (some .int) D cs)  {r : Int32} {g' : MS}  {k4 : MS → Int32 → Int32 → Option (Int32 × MS)} (hk4 : ∀ (g : MS) (y1 : Int32) (y2 : Int32), k4 g y1 y2 = some (r, g') → ∀ (H : Heap) (locs : List Loc) (ls : Array Slot), MH D (MW cs ad g) A s H locs → lv_has ls 4 [(0, .ref (ad 48)), (1, .int y1), (2, .int y2)] → W p l e (rM 2) s m args below meth c H locs 0 0 (MQ below (GPost D (some (.int r)) (MW cs ad g') A) args s 0 0 A) (F0 m 4 ls [])) {k14 : MS → Int32 → Int32 → Int32 → Option (Int32 × MS)} (hk14 : ∀ (g : MS) (y1 : Int32) (y2 : Int32) (y3 : Int32), k14 g y1 y2 y3 = some (r, g') → ∀ (H : Heap) (locs : List Loc) (ls : Array Slot), MH D (MW cs ad g) A s H locs → lv_has ls 4 [(0, .ref (ad 48)), (1, .int y1), (2, .int y2), (3, .int y3)] → W p l e (rM 2) s m args below meth c H locs 0 0 (MQ below (GPost D (some (.int r)) (MW cs ad g') A) args s 0 0 A) (F0 m 14 ls [])) : ∀ (g : MS) (y2 : Int32) (y3 : Int32) (t0 : Int32) (t1 : Int32), fX12_kneesBy_43 k4 k14 g y2 y3 t0 t1 = some (r, g') → ∀ (H : Heap) (locs : List Loc) (ls : Array Slot), MH D (MW cs ad g) A s H locs → lv_has ls 4 [(0, .ref (ad 48)), (2, .int y2), (3, .int y3)] → W p l e (rM 2) s m args below meth c H locs 0 0 (MQ below (GPost D (some (.int r)) (MW cs ad g') A) args s 0 0 A) (F0 m 43 ls [.int t1, .int t0]) := by
  have hx := C.1
  have hb := C.2.1
  intro g y2 y3 t0 t1 hf H locs ls h hl
  unfold fX12_kneesBy_43 at hf
  refine lv_iadd hx hb dX12_kneesBy_43 ?_
  refine lv_topi (fun x1 ex1 => ?_)
  replace hf := bnd_at ex1 hf
  clear ex1
  refine lv_istore_n (lv' := [(1, .int x1), (0, .ref (ad 48)), (2, .int y2), (3, .int y3)]) hx hb dX12_kneesBy_44 rfl hl (by decide) rfl (fun ls hl => ?_)
  obtain ⟨x2, ex2⟩ : ∃ z : Int32, z = y3 + (1 : Int32) := ⟨_, rfl⟩
  replace hf := bnd_at ex2 hf
  refine lv_iinc (v := x2) (lv' := [(3, .int x2), (1, .int x1), (0, .ref (ad 48)), (2, .int y2)]) hx hb dX12_kneesBy_45 hl (k := 3) rfl (by rw [ex2]; rfl) (by decide) rfl (fun ls hl => ?_)
  clear ex2
  refine lv_goto (tgt := 14) hx hb dX12_kneesBy_48 (by decide) ?_
  exact hk14 g x1 y2 x2 hf H locs ls h (lv_sub hl [2, 1, 3, 0] rfl)

set_option maxHeartbeats 4000000 in
set_option maxRecDepth 100000 in
theorem wX12_kneesBy_42 (C : MCx p s m args meth c A RX12 cX12_kneesBy 4 (some .int) D cs)  {r : Int32} {g' : MS}  {k4 : MS → Int32 → Int32 → Option (Int32 × MS)} (hk4 : ∀ (g : MS) (y1 : Int32) (y2 : Int32), k4 g y1 y2 = some (r, g') → ∀ (H : Heap) (locs : List Loc) (ls : Array Slot), MH D (MW cs ad g) A s H locs → lv_has ls 4 [(0, .ref (ad 48)), (1, .int y1), (2, .int y2)] → W p l e (rM 2) s m args below meth c H locs 0 0 (MQ below (GPost D (some (.int r)) (MW cs ad g') A) args s 0 0 A) (F0 m 4 ls [])) {k14 : MS → Int32 → Int32 → Int32 → Option (Int32 × MS)} (hk14 : ∀ (g : MS) (y1 : Int32) (y2 : Int32) (y3 : Int32), k14 g y1 y2 y3 = some (r, g') → ∀ (H : Heap) (locs : List Loc) (ls : Array Slot), MH D (MW cs ad g) A s H locs → lv_has ls 4 [(0, .ref (ad 48)), (1, .int y1), (2, .int y2), (3, .int y3)] → W p l e (rM 2) s m args below meth c H locs 0 0 (MQ below (GPost D (some (.int r)) (MW cs ad g') A) args s 0 0 A) (F0 m 14 ls [])) : ∀ (g : MS) (y2 : Int32) (y3 : Int32) (t0 : Int32), fX12_kneesBy_42 k4 k14 g y2 y3 t0 = some (r, g') → ∀ (H : Heap) (locs : List Loc) (ls : Array Slot), MH D (MW cs ad g) A s H locs → lv_has ls 4 [(0, .ref (ad 48)), (2, .int y2), (3, .int y3)] → W p l e (rM 2) s m args below meth c H locs 0 0 (MQ below (GPost D (some (.int r)) (MW cs ad g') A) args s 0 0 A) (F0 m 42 ls [.int t0]) := by
  have hx := C.1
  have hb := C.2.1
  intro g y2 y3 t0 hf H locs ls h hl
  unfold fX12_kneesBy_42 at hf
  refine lv_iconst (v := (0 : Int32)) hx hb dX12_kneesBy_42 (by decide) ?_
  exact wX12_kneesBy_43 C hk4 hk14 g y2 y3 t0 (0 : Int32) hf H locs ls h (lv_sub hl [0, 1, 2] rfl)

set_option maxHeartbeats 4000000 in
set_option maxRecDepth 100000 in
theorem wX12_kneesBy_14 (C : MCx p s m args meth c A RX12 cX12_kneesBy 4 (some .int) D cs)  {r : Int32} {g' : MS}  {k4 : MS → Int32 → Int32 → Option (Int32 × MS)} (hk4 : ∀ (g : MS) (y1 : Int32) (y2 : Int32), k4 g y1 y2 = some (r, g') → ∀ (H : Heap) (locs : List Loc) (ls : Array Slot), MH D (MW cs ad g) A s H locs → lv_has ls 4 [(0, .ref (ad 48)), (1, .int y1), (2, .int y2)] → W p l e (rM 2) s m args below meth c H locs 0 0 (MQ below (GPost D (some (.int r)) (MW cs ad g') A) args s 0 0 A) (F0 m 4 ls [])) : ∀ (n : Nat) (g : MS) (y1 : Int32) (y2 : Int32) (y3 : Int32), fX12_kneesBy_14 k4 n g y1 y2 y3 = some (r, g') → ∀ (H : Heap) (locs : List Loc) (ls : Array Slot), MH D (MW cs ad g) A s H locs → lv_has ls 4 [(0, .ref (ad 48)), (1, .int y1), (2, .int y2), (3, .int y3)] → W p l e (rM 2) s m args below meth c H locs 0 0 (MQ below (GPost D (some (.int r)) (MW cs ad g') A) args s 0 0 A) (F0 m 14 ls []) := by
  have hx := C.1
  have hb := C.2.1
  intro n
  induction n with
  | zero =>
    intro g y1 y2 y3 hf
    exact absurd hf (by simp [fX12_kneesBy_14])
  | succ n ih =>
    intro g y1 y2 y3 hf H locs ls h hl
    rw [fX12_kneesBy_14] at hf
    refine lv_iload_n hx hb dX12_kneesBy_14 rfl (lv_at hl 3 rfl) ?_
    refine lv_iload_n hx hb dX12_kneesBy_15 rfl (lv_at hl 2 rfl) ?_
    refine lv_icmp_ge (tgt := 51) hx hb dX12_kneesBy_16 (by decide) (fun hq => ?_) (fun hq => ?_)
    · replace hf := if_t hq hf
      clear hq
      obtain ⟨x3, ex3⟩ : ∃ z : Int32, z = y2 + (1 : Int32) := ⟨_, rfl⟩
      replace hf := bnd_at ex3 hf
      refine lv_iinc (v := x3) (lv' := [(2, .int x3), (0, .ref (ad 48)), (1, .int y1), (3, .int y3)]) hx hb dX12_kneesBy_51 hl (k := 2) rfl (by rw [ex3]; rfl) (by decide) rfl (fun ls hl => ?_)
      clear ex3
      refine lv_goto (tgt := 4) hx hb dX12_kneesBy_54 (by decide) ?_
      exact hk4 g y1 x3 hf H locs ls h (lv_sub hl [1, 2, 0] rfl)
    · replace hf := if_f hq hf
      clear hq
      refine lv_iload_n hx hb dX12_kneesBy_19 rfl (lv_at hl 1 rfl) ?_
      refine lv_aload_n hx hb dX12_kneesBy_20 rfl (lv_at hl 0 rfl) ?_
      refine lv_iload_n hx hb dX12_kneesBy_21 rfl (lv_at hl 2 rfl) ?_
      replace hf := bndc_some hf
      obtain ⟨x4, g5, hc, hf⟩ := hf
      refine m_callVi [.int y2] C h cv_X12_304 (qX12_faced hc) rfl ⟨rfl, rfl⟩ ⟨Nat.le_of_ble_eq_true rfl, Nat.le_of_ble_eq_true rfl⟩ (m_recv C h) hl.1 rfl (Nat.le_of_ble_eq_true rfl) ⟨Nat.le_refl _, Nat.le_refl _⟩ dX12_kneesBy_22 (fun H locs h => ?_)
      clear hc
      refine lv_iload_n hx hb dX12_kneesBy_25 rfl (lv_at hl 3 rfl) ?_
      refine lv_icmp_ne (tgt := 42) hx hb dX12_kneesBy_26 (by decide) (fun hq => ?_) (fun hq => ?_)
      · replace hf := if_tn hq hf
        clear hq
        exact wX12_kneesBy_42 C hk4 ih g5 y2 y3 y1 hf H locs ls h (lv_sub hl [0, 2, 3] rfl)
      · replace hf := if_t hq hf
        clear hq
        refine lv_aload_n hx hb dX12_kneesBy_29 rfl (lv_at hl 0 rfl) ?_
        refine lv_iload_n hx hb dX12_kneesBy_30 rfl (lv_at hl 3 rfl) ?_
        replace hf := bndc_some hf
        obtain ⟨x6, g7, hc, hf⟩ := hf
        refine m_callVi [.int y3] C h cv_X12_304 (qX12_faced hc) rfl ⟨rfl, rfl⟩ ⟨Nat.le_of_ble_eq_true rfl, Nat.le_of_ble_eq_true rfl⟩ (m_recv C h) hl.1 rfl (Nat.le_of_ble_eq_true rfl) ⟨Nat.le_refl _, Nat.le_refl _⟩ dX12_kneesBy_31 (fun H locs h => ?_)
        clear hc
        refine lv_iload_n hx hb dX12_kneesBy_34 rfl (lv_at hl 2 rfl) ?_
        refine lv_icmp_ne (tgt := 42) hx hb dX12_kneesBy_35 (by decide) (fun hq => ?_) (fun hq => ?_)
        · replace hf := if_tn hq hf
          clear hq
          exact wX12_kneesBy_42 C hk4 ih g7 y2 y3 y1 hf H locs ls h (lv_sub hl [0, 2, 3] rfl)
        · replace hf := if_t hq hf
          clear hq
          refine lv_iconst (v := (1 : Int32)) hx hb dX12_kneesBy_38 (by decide) ?_
          refine lv_goto (tgt := 43) hx hb dX12_kneesBy_39 (by decide) ?_
          exact wX12_kneesBy_43 C hk4 ih g7 y2 y3 y1 (1 : Int32) hf H locs ls h (lv_sub hl [0, 2, 3] rfl)

set_option maxHeartbeats 4000000 in
set_option maxRecDepth 100000 in
theorem wX12_kneesBy_4 (C : MCx p s m args meth c A RX12 cX12_kneesBy 4 (some .int) D cs)  {r : Int32} {g' : MS}  : ∀ (n : Nat) (g : MS) (y1 : Int32) (y2 : Int32), fX12_kneesBy_4 n g y1 y2 = some (r, g') → ∀ (H : Heap) (locs : List Loc) (ls : Array Slot), MH D (MW cs ad g) A s H locs → lv_has ls 4 [(0, .ref (ad 48)), (1, .int y1), (2, .int y2)] → W p l e (rM 2) s m args below meth c H locs 0 0 (MQ below (GPost D (some (.int r)) (MW cs ad g') A) args s 0 0 A) (F0 m 4 ls []) := by
  have hx := C.1
  have hb := C.2.1
  intro n
  induction n with
  | zero =>
    intro g y1 y2 hf
    exact absurd hf (by simp [fX12_kneesBy_4])
  | succ n ih =>
    intro g y1 y2 hf H locs ls h hl
    rw [fX12_kneesBy_4] at hf
    refine lv_iload_n hx hb dX12_kneesBy_4 rfl (lv_at hl 2 rfl) ?_
    refine lv_aload_n hx hb dX12_kneesBy_5 rfl (lv_at hl 0 rfl) ?_
    replace hf := bndc_some hf
    obtain ⟨x8, g9, hc, hf⟩ := hf
    refine m_callVi [] C h cv_X12_254 (qX12_size hc) rfl ⟨rfl, rfl⟩ ⟨Nat.le_of_ble_eq_true rfl, Nat.le_of_ble_eq_true rfl⟩ (m_recv C h) hl.1 rfl (Nat.le_of_ble_eq_true rfl) ⟨Nat.le_refl _, Nat.le_refl _⟩ dX12_kneesBy_6 (fun H locs h => ?_)
    clear hc
    refine lv_icmp_ge (tgt := 57) hx hb dX12_kneesBy_9 (by decide) (fun hq => ?_) (fun hq => ?_)
    · replace hf := if_t hq hf
      clear hq
      refine lv_iload_n hx hb dX12_kneesBy_57 rfl (lv_at hl 1 rfl) ?_
      obtain ⟨e1, e2⟩ := pr_inj hf
      subst e1 e2
      exact m_iret C h dX12_kneesBy_58
    · replace hf := if_f hq hf
      clear hq
      refine lv_iconst (v := (0 : Int32)) hx hb dX12_kneesBy_12 (by decide) ?_
      refine lv_istore_n (lv' := [(3, .int (0 : Int32)), (0, .ref (ad 48)), (1, .int y1), (2, .int y2)]) hx hb dX12_kneesBy_13 rfl hl (by decide) rfl (fun ls hl => ?_)
      exact wX12_kneesBy_14 C ih fuel g9 y1 y2 (0 : Int32) hf H locs ls h (lv_sub hl [1, 2, 3, 0] rfl)

set_option maxHeartbeats 4000000 in
set_option maxRecDepth 100000 in
theorem qX12_kneesBy {l : Launch} {D : va_G} {cs : Nat → ClassId} {ad : Nat → Nat} {r : Int32} {g' : MS} {g : MS}  (hf : fX12_kneesBy g = some (r, g')) : GCon l D cs yX12_kneesBy cX12_kneesBy 4 (some .int) (rM 2) 0 0 [.ref (ad 48)] (MW cs ad g) (some (.int r)) (MW cs ad g') := by
  refine GCon.of (by decide) (Nat.le_of_ble_eq_true rfl) ?_
  intro p e s m args below meth c A ls H locs C h hl
  have hx := C.1
  have hb := C.2.1
  have C : MCx p s m args meth c A RX12 cX12_kneesBy 4 (some .int) D cs := C
  have hl : lv_has ls 4 [(0, .ref (ad 48))] := hl
  unfold fX12_kneesBy at hf
  refine lv_iconst (v := (0 : Int32)) hx hb dX12_kneesBy_0 (by decide) ?_
  refine lv_istore_n (lv' := [(1, .int (0 : Int32)), (0, .ref (ad 48))]) hx hb dX12_kneesBy_1 rfl hl (by decide) rfl (fun ls hl => ?_)
  refine lv_iconst (v := (0 : Int32)) hx hb dX12_kneesBy_2 (by decide) ?_
  refine lv_istore_n (lv' := [(2, .int (0 : Int32)), (1, .int (0 : Int32)), (0, .ref (ad 48))]) hx hb dX12_kneesBy_3 rfl hl (by decide) rfl (fun ls hl => ?_)
  exact wX12_kneesBy_4 C fuel g (0 : Int32) (0 : Int32) hf H locs ls h (lv_sub hl [2, 1, 0] rfl)

set_option maxHeartbeats 4000000 in
set_option maxRecDepth 100000 in
theorem qX12_goesBy {l : Launch} {D : va_G} {cs : Nat → ClassId} {ad : Nat → Nat} {r : Int32} {g' : MS} {g : MS}  {a0 : Int32} (hf : fX12_goesBy g a0 = some (r, g')) : GCon l D cs yX12_goesBy cX12_goesBy 3 (some .int) (rM 4) 0 0 [.ref (ad 48), .int a0] (MW cs ad g) (some (.int r)) (MW cs ad g') := by
  refine GCon.of (by decide) (Nat.le_of_ble_eq_true rfl) ?_
  intro p e s m args below meth c A ls H locs C h hl
  have hx := C.1
  have hb := C.2.1
  have C : MCx p s m args meth c A RX12 cX12_goesBy 3 (some .int) D cs := C
  have hl : lv_has ls 3 [(0, .ref (ad 48)), (1, .int a0)] := hl
  unfold fX12_goesBy at hf
  refine lv_aload_n hx hb dX12_goesBy_0 rfl (lv_at hl 0 rfl) ?_
  refine mg_0 C h dX12_goesBy_1 ?_
  refine lv_iconst (v := (4 : Int32)) hx hb dX12_goesBy_4 (by decide) ?_
  replace hf := chk_some hf
  obtain ⟨hq, hf⟩ := hf
  refine ml_0 C h hq dX12_goesBy_5 ?_
  clear hq
  refine lv_if_ne (tgt := 11) hx hb dX12_goesBy_6 (by decide) (fun hq => ?_) (fun hq => ?_)
  · replace hf := if_tn hq hf
    clear hq
    refine lv_aload_n hx hb dX12_goesBy_11 rfl (lv_at hl 0 rfl) ?_
    refine lv_iload_n hx hb dX12_goesBy_12 rfl (lv_at hl 1 rfl) ?_
    refine lv_aload_n hx hb dX12_goesBy_13 rfl (lv_at hl 0 rfl) ?_
    refine mg_21 C h dX12_goesBy_14 ?_
    refine lv_iload_n hx hb dX12_goesBy_17 rfl (lv_at hl 1 rfl) ?_
    replace hf := chk_some hf
    obtain ⟨hq, hf⟩ := hf
    refine ml_21 C h hq dX12_goesBy_18 ?_
    clear hq
    refine lv_aload_n hx hb dX12_goesBy_19 rfl (lv_at hl 0 rfl) ?_
    refine mg_22 C h dX12_goesBy_20 ?_
    refine lv_iload_n hx hb dX12_goesBy_23 rfl (lv_at hl 1 rfl) ?_
    replace hf := chk_some hf
    obtain ⟨hq, hf⟩ := hf
    refine ml_22 C h hq dX12_goesBy_24 ?_
    clear hq
    replace hf := bndv_some hf
    obtain ⟨g1, hc, hf⟩ := hf
    refine m_callVv [.int a0, .int (g.2.1 21 (ix a0)), .int (g.2.1 22 (ix a0))] C h cv_X12_292 (qX12_asks hc) rfl ⟨rfl, rfl⟩ ⟨Nat.le_of_ble_eq_true rfl, Nat.le_of_ble_eq_true rfl⟩ (m_recv C h) hl.1 rfl (Nat.le_of_ble_eq_true rfl) ⟨Nat.le_refl _, Nat.le_refl _⟩ dX12_goesBy_25 (fun H locs h => ?_)
    clear hc
    refine lv_aload_n hx hb dX12_goesBy_28 rfl (lv_at hl 0 rfl) ?_
    refine lv_iconst (v := (4 : Int32)) hx hb dX12_goesBy_29 (by decide) ?_
    refine lv_sipush (v := (1949 : Int32)) hx hb dX12_goesBy_30 (by decide) ?_
    replace hf := bndc_some hf
    obtain ⟨x2, g3, hc, hf⟩ := hf
    refine m_callVi [.int (4 : Int32), .int (1949 : Int32)] C h cv_X12_296 (qX12_lawOf hc) rfl ⟨rfl, rfl⟩ ⟨Nat.le_of_ble_eq_true rfl, Nat.le_of_ble_eq_true rfl⟩ (m_recv C h) hl.1 rfl (Nat.le_of_ble_eq_true rfl) ⟨Nat.le_refl _, Nat.le_refl _⟩ dX12_goesBy_33 (fun H locs h => ?_)
    clear hc
    refine lv_aload_n hx hb dX12_goesBy_36 rfl (lv_at hl 0 rfl) ?_
    replace hf := bndc_some hf
    obtain ⟨x4, g5, hc, hf⟩ := hf
    refine m_callVi [] C h cv_X12_254 (qX12_size hc) rfl ⟨rfl, rfl⟩ ⟨Nat.le_of_ble_eq_true rfl, Nat.le_of_ble_eq_true rfl⟩ (m_recv C h) hl.1 rfl (Nat.le_of_ble_eq_true rfl) ⟨Nat.le_refl _, Nat.le_refl _⟩ dX12_goesBy_37 (fun H locs h => ?_)
    clear hc
    replace hf := chk_some hf
    obtain ⟨hq, hf⟩ := hf
    refine x_irem hx hb dX12_goesBy_40 (nz_ne hq) ?_
    clear hq
    refine lv_topi (fun x6 ex6 => ?_)
    replace hf := bnd_at ex6 hf
    clear ex6
    refine lv_istore_n (lv' := [(2, .int x6), (0, .ref (ad 48)), (1, .int a0)]) hx hb dX12_goesBy_41 rfl hl (by decide) rfl (fun ls hl => ?_)
    refine lv_iload_n hx hb dX12_goesBy_42 rfl (lv_at hl 0 rfl) ?_
    refine lv_if_ge (tgt := 55) hx hb dX12_goesBy_43 (by decide) (fun hq => ?_) (fun hq => ?_)
    · replace hf := if_t hq hf
      clear hq
      refine lv_iload_n hx hb dX12_goesBy_55 rfl (lv_at hl 0 rfl) ?_
      obtain ⟨e1, e2⟩ := pr_inj hf
      subst e1 e2
      exact m_iret C h dX12_goesBy_56
    · replace hf := if_f hq hf
      clear hq
      refine lv_iload_n hx hb dX12_goesBy_46 rfl (lv_at hl 0 rfl) ?_
      refine lv_aload_n hx hb dX12_goesBy_47 rfl (lv_at hl 1 rfl) ?_
      replace hf := bndc_some hf
      obtain ⟨x7, g8, hc, hf⟩ := hf
      refine m_callVi [] C h cv_X12_254 (qX12_size hc) rfl ⟨rfl, rfl⟩ ⟨Nat.le_of_ble_eq_true rfl, Nat.le_of_ble_eq_true rfl⟩ (m_recv C h) hl.1 rfl (Nat.le_of_ble_eq_true rfl) ⟨Nat.le_refl _, Nat.le_refl _⟩ dX12_goesBy_48 (fun H locs h => ?_)
      clear hc
      refine lv_iadd hx hb dX12_goesBy_51 ?_
      refine lv_goto (tgt := 56) hx hb dX12_goesBy_52 (by decide) ?_
      obtain ⟨e1, e2⟩ := pr_inj hf
      subst e1 e2
      exact m_iret C h dX12_goesBy_56
  · replace hf := if_t hq hf
    clear hq
    refine lv_iconst (v := (0 : Int32)) hx hb dX12_goesBy_9 (by decide) ?_
    obtain ⟨e1, e2⟩ := pr_inj hf
    subst e1 e2
    exact m_iret C h dX12_goesBy_10

set_option maxHeartbeats 4000000 in
set_option maxRecDepth 100000 in
theorem wX12_minute_45 (C : MCx p s m args meth c A RX12 cX12_minute 2 none D cs)  {g' : MS}  : ∀ (n : Nat) (g : MS) (y1 : Int32), fX12_minute_45 n g y1 = some g' → ∀ (H : Heap) (locs : List Loc) (ls : Array Slot), MH D (MW cs ad g) A s H locs → lv_has ls 2 [(0, .ref (ad 48)), (1, .int y1)] → W p l e (rM 5) s m args below meth c H locs 0 0 (MQ below (GPost D none (MW cs ad g') A) args s 0 0 A) (F0 m 45 ls []) := by
  have hx := C.1
  have hb := C.2.1
  intro n
  induction n with
  | zero =>
    intro g y1 hf
    exact absurd hf (by simp [fX12_minute_45])
  | succ n ih =>
    intro g y1 hf H locs ls h hl
    rw [fX12_minute_45] at hf
    refine lv_iload_n hx hb dX12_minute_45 rfl (lv_at hl 1 rfl) ?_
    refine lv_aload_n hx hb dX12_minute_46 rfl (lv_at hl 0 rfl) ?_
    replace hf := bndc_some hf
    obtain ⟨x1, g2, hc, hf⟩ := hf
    refine m_callVi [] C h cv_X12_254 (qX12_size hc) rfl ⟨rfl, rfl⟩ ⟨Nat.le_of_ble_eq_true rfl, Nat.le_of_ble_eq_true rfl⟩ (m_recv C h) hl.1 rfl (Nat.le_of_ble_eq_true rfl) ⟨Nat.le_refl _, Nat.le_refl _⟩ dX12_minute_47 (fun H locs h => ?_)
    clear hc
    refine lv_icmp_ge (tgt := 83) hx hb dX12_minute_50 (by decide) (fun hq => ?_) (fun hq => ?_)
    · replace hf := if_t hq hf
      clear hq
      have e1 := Option.some.inj hf
      subst e1
      exact m_vret C h dX12_minute_83
    · replace hf := if_f hq hf
      clear hq
      refine lv_aload_n hx hb dX12_minute_53 rfl (lv_at hl 0 rfl) ?_
      refine mg_21 C h dX12_minute_54 ?_
      refine lv_iload_n hx hb dX12_minute_57 rfl (lv_at hl 1 rfl) ?_
      refine lv_aload_n hx hb dX12_minute_58 rfl (lv_at hl 0 rfl) ?_
      refine mg_21 C h dX12_minute_59 ?_
      refine lv_iload_n hx hb dX12_minute_62 rfl (lv_at hl 1 rfl) ?_
      replace hf := chk_some hf
      obtain ⟨hq, hf⟩ := hf
      refine ml_21 C h hq dX12_minute_63 ?_
      clear hq
      refine lv_aload_n hx hb dX12_minute_64 rfl (lv_at hl 0 rfl) ?_
      refine mg_23 C h dX12_minute_65 ?_
      refine lv_iload_n hx hb dX12_minute_68 rfl (lv_at hl 1 rfl) ?_
      replace hf := chk_some hf
      obtain ⟨hq, hf⟩ := hf
      refine ml_23 C h hq dX12_minute_69 ?_
      clear hq
      refine lv_iadd hx hb dX12_minute_70 ?_
      refine lv_aload_n hx hb dX12_minute_71 rfl (lv_at hl 0 rfl) ?_
      replace hf := bndc_some hf
      obtain ⟨x3, g4, hc, hf⟩ := hf
      refine m_callVi [] C h cv_X12_254 (qX12_size hc) rfl ⟨rfl, rfl⟩ ⟨Nat.le_of_ble_eq_true rfl, Nat.le_of_ble_eq_true rfl⟩ (m_recv C h) hl.1 rfl (Nat.le_of_ble_eq_true rfl) ⟨Nat.le_refl _, Nat.le_refl _⟩ dX12_minute_72 (fun H locs h => ?_)
      clear hc
      replace hf := chk_some hf
      obtain ⟨hq, hf⟩ := hf
      refine x_irem hx hb dX12_minute_75 (nz_ne hq) ?_
      clear hq
      replace hf := chk_some hf
      obtain ⟨hq, hf⟩ := hf
      replace hf := bnd_ex hf
      obtain ⟨g5, eg5, hf⟩ := hf
      refine ms_21 C h hq dX12_minute_76 (fun H locs h => ?_)
      rw [← eg5] at h
      clear hq eg5
      obtain ⟨x6, ex6⟩ : ∃ z : Int32, z = y1 + (1 : Int32) := ⟨_, rfl⟩
      replace hf := bnd_at ex6 hf
      refine lv_iinc (v := x6) (lv' := [(1, .int x6), (0, .ref (ad 48))]) hx hb dX12_minute_77 hl (k := 1) rfl (by rw [ex6]; rfl) (by decide) rfl (fun ls hl => ?_)
      clear ex6
      refine lv_goto (tgt := 45) hx hb dX12_minute_80 (by decide) ?_
      exact ih g5 x6 hf H locs ls h (lv_sub hl [1, 0] rfl)

set_option maxHeartbeats 4000000 in
set_option maxRecDepth 100000 in
theorem wX12_minute_6 (C : MCx p s m args meth c A RX12 cX12_minute 2 none D cs)  {g' : MS}  : ∀ (n : Nat) (g : MS) (y1 : Int32), fX12_minute_6 n g y1 = some g' → ∀ (H : Heap) (locs : List Loc) (ls : Array Slot), MH D (MW cs ad g) A s H locs → lv_has ls 2 [(0, .ref (ad 48)), (1, .int y1)] → W p l e (rM 5) s m args below meth c H locs 0 0 (MQ below (GPost D none (MW cs ad g') A) args s 0 0 A) (F0 m 6 ls []) := by
  have hx := C.1
  have hb := C.2.1
  intro n
  induction n with
  | zero =>
    intro g y1 hf
    exact absurd hf (by simp [fX12_minute_6])
  | succ n ih =>
    intro g y1 hf H locs ls h hl
    rw [fX12_minute_6] at hf
    refine lv_iload_n hx hb dX12_minute_6 rfl (lv_at hl 1 rfl) ?_
    refine lv_aload_n hx hb dX12_minute_7 rfl (lv_at hl 0 rfl) ?_
    replace hf := bndc_some hf
    obtain ⟨x7, g8, hc, hf⟩ := hf
    refine m_callVi [] C h cv_X12_254 (qX12_size hc) rfl ⟨rfl, rfl⟩ ⟨Nat.le_of_ble_eq_true rfl, Nat.le_of_ble_eq_true rfl⟩ (m_recv C h) hl.1 rfl (Nat.le_of_ble_eq_true rfl) ⟨Nat.le_refl _, Nat.le_refl _⟩ dX12_minute_8 (fun H locs h => ?_)
    clear hc
    refine lv_icmp_ge (tgt := 43) hx hb dX12_minute_11 (by decide) (fun hq => ?_) (fun hq => ?_)
    · replace hf := if_t hq hf
      clear hq
      refine lv_iconst (v := (0 : Int32)) hx hb dX12_minute_43 (by decide) ?_
      refine lv_istore_n (lv' := [(1, .int (0 : Int32)), (0, .ref (ad 48))]) hx hb dX12_minute_44 rfl hl (by decide) rfl (fun ls hl => ?_)
      exact wX12_minute_45 C fuel g8 (0 : Int32) hf H locs ls h (lv_sub hl [1, 0] rfl)
    · replace hf := if_f hq hf
      clear hq
      refine lv_aload_n hx hb dX12_minute_14 rfl (lv_at hl 0 rfl) ?_
      refine mg_23 C h dX12_minute_15 ?_
      refine lv_iload_n hx hb dX12_minute_18 rfl (lv_at hl 1 rfl) ?_
      refine lv_aload_n hx hb dX12_minute_19 rfl (lv_at hl 0 rfl) ?_
      refine lv_iload_n hx hb dX12_minute_20 rfl (lv_at hl 1 rfl) ?_
      replace hf := bndc_some hf
      obtain ⟨x9, g10, hc, hf⟩ := hf
      refine m_callVi [.int y1] C h cv_X12_287 (qX12_isStuck hc) rfl ⟨rfl, rfl⟩ ⟨Nat.le_of_ble_eq_true rfl, Nat.le_of_ble_eq_true rfl⟩ (m_recv C h) hl.1 rfl (Nat.le_of_ble_eq_true rfl) ⟨Nat.le_refl _, Nat.le_refl _⟩ dX12_minute_21 (fun H locs h => ?_)
      clear hc
      refine lv_if_eq (tgt := 31) hx hb dX12_minute_24 (by decide) (fun hq => ?_) (fun hq => ?_)
      · replace hf := if_t hq hf
        clear hq
        refine lv_aload_n hx hb dX12_minute_31 rfl (lv_at hl 0 rfl) ?_
        refine lv_iload_n hx hb dX12_minute_32 rfl (lv_at hl 1 rfl) ?_
        replace hf := bndc_some hf
        obtain ⟨x11, g12, hc, hf⟩ := hf
        refine m_callVi [.int y1] C h cv_X12_316 (qX12_goesBy hc) rfl ⟨rfl, rfl⟩ ⟨Nat.le_of_ble_eq_true rfl, Nat.le_of_ble_eq_true rfl⟩ (m_recv C h) hl.1 rfl (Nat.le_of_ble_eq_true rfl) ⟨Nat.le_refl _, Nat.le_refl _⟩ dX12_minute_33 (fun H locs h => ?_)
        clear hc
        replace hf := chk_some hf
        obtain ⟨hq, hf⟩ := hf
        replace hf := bnd_ex hf
        obtain ⟨g13, eg13, hf⟩ := hf
        refine ms_23 C h hq dX12_minute_36 (fun H locs h => ?_)
        rw [← eg13] at h
        clear hq eg13
        obtain ⟨x14, ex14⟩ : ∃ z : Int32, z = y1 + (1 : Int32) := ⟨_, rfl⟩
        replace hf := bnd_at ex14 hf
        refine lv_iinc (v := x14) (lv' := [(1, .int x14), (0, .ref (ad 48))]) hx hb dX12_minute_37 hl (k := 1) rfl (by rw [ex14]; rfl) (by decide) rfl (fun ls hl => ?_)
        clear ex14
        refine lv_goto (tgt := 6) hx hb dX12_minute_40 (by decide) ?_
        exact ih g13 x14 hf H locs ls h (lv_sub hl [1, 0] rfl)
      · replace hf := if_f hq hf
        clear hq
        refine lv_iconst (v := (0 : Int32)) hx hb dX12_minute_27 (by decide) ?_
        refine lv_goto (tgt := 36) hx hb dX12_minute_28 (by decide) ?_
        replace hf := chk_some hf
        obtain ⟨hq, hf⟩ := hf
        replace hf := bnd_ex hf
        obtain ⟨g15, eg15, hf⟩ := hf
        refine ms_23 C h hq dX12_minute_36 (fun H locs h => ?_)
        rw [← eg15] at h
        clear hq eg15
        obtain ⟨x16, ex16⟩ : ∃ z : Int32, z = y1 + (1 : Int32) := ⟨_, rfl⟩
        replace hf := bnd_at ex16 hf
        refine lv_iinc (v := x16) (lv' := [(1, .int x16), (0, .ref (ad 48))]) hx hb dX12_minute_37 hl (k := 1) rfl (by rw [ex16]; rfl) (by decide) rfl (fun ls hl => ?_)
        clear ex16
        refine lv_goto (tgt := 6) hx hb dX12_minute_40 (by decide) ?_
        exact ih g15 x16 hf H locs ls h (lv_sub hl [1, 0] rfl)

set_option maxHeartbeats 4000000 in
set_option maxRecDepth 100000 in
theorem qX12_minute {l : Launch} {D : va_G} {cs : Nat → ClassId} {ad : Nat → Nat} {g' : MS} {g : MS}  (hf : fX12_minute g = some g') : GCon l D cs yX12_minute cX12_minute 2 none (rM 5) 0 0 [.ref (ad 48)] (MW cs ad g) none (MW cs ad g') := by
  refine GCon.of (by decide) (Nat.le_of_ble_eq_true rfl) ?_
  intro p e s m args below meth c A ls H locs C h hl
  have hx := C.1
  have hb := C.2.1
  have C : MCx p s m args meth c A RX12 cX12_minute 2 none D cs := C
  have hl : lv_has ls 2 [(0, .ref (ad 48))] := hl
  unfold fX12_minute at hf
  refine lv_aload_n hx hb dX12_minute_0 rfl (lv_at hl 0 rfl) ?_
  replace hf := bndv_some hf
  obtain ⟨g17, hc, hf⟩ := hf
  refine m_callVv [] C h cv_X12_307 (qX12_laysVotes hc) rfl ⟨rfl, rfl⟩ ⟨Nat.le_of_ble_eq_true rfl, Nat.le_of_ble_eq_true rfl⟩ (m_recv C h) hl.1 rfl (Nat.le_of_ble_eq_true rfl) ⟨Nat.le_refl _, Nat.le_refl _⟩ dX12_minute_1 (fun H locs h => ?_)
  clear hc
  refine lv_iconst (v := (0 : Int32)) hx hb dX12_minute_4 (by decide) ?_
  refine lv_istore_n (lv' := [(1, .int (0 : Int32)), (0, .ref (ad 48))]) hx hb dX12_minute_5 rfl hl (by decide) rfl (fun ls hl => ?_)
  exact wX12_minute_6 C fuel g17 (0 : Int32) hf H locs ls h (lv_sub hl [1, 0] rfl)

set_option maxHeartbeats 4000000 in
set_option maxRecDepth 100000 in
theorem wX12_member_31 (C : MCx p s m args meth c A RX12 cX12_member 3 (some .int) D cs)  {r : Int32} {g' : MS}  : ∀ (g : MS) (y1 : Int32) (y2 : Int32) (t1 : Int32), fX12_member_31 g y1 y2 t1 = some (r, g') → ∀ (H : Heap) (locs : List Loc) (ls : Array Slot), MH D (MW cs ad g) A s H locs → lv_has ls 3 [(0, .ref (ad 48)), (1, .int y1), (2, .int y2)] → W p l e (rM 5) s m args below meth c H locs 0 0 (MQ below (GPost D (some (.int r)) (MW cs ad g') A) args s 0 0 A) (F0 m 31 ls [.int t1, .ref (ad 48)]) := by
  have hx := C.1
  have hb := C.2.1
  intro g y1 y2 t1 hf H locs ls h hl
  unfold fX12_member_31 at hf
  replace hf := bnd_ex hf
  obtain ⟨g1, eg1, hf⟩ := hf
  refine mp_4 C h dX12_member_31 (fun H locs h => ?_)
  rw [← eg1] at h
  clear eg1
  refine lv_aload_n hx hb dX12_member_34 rfl (lv_at hl 0 rfl) ?_
  refine mg_4 C h dX12_member_35 ?_
  refine lv_if_le (tgt := 43) hx hb dX12_member_38 (by decide) (fun hq => ?_) (fun hq => ?_)
  · replace hf := if_t hq hf
    clear hq
    refine lv_aload_n hx hb dX12_member_43 rfl (lv_at hl 0 rfl) ?_
    replace hf := bndv_some hf
    obtain ⟨g2, hc, hf⟩ := hf
    refine m_callVv [] C h cv_X12_310 (qX12_aimsNow hc) rfl ⟨rfl, rfl⟩ ⟨Nat.le_of_ble_eq_true rfl, Nat.le_of_ble_eq_true rfl⟩ (m_recv C h) hl.1 rfl (Nat.le_of_ble_eq_true rfl) ⟨Nat.le_refl _, Nat.le_refl _⟩ dX12_member_44 (fun H locs h => ?_)
    clear hc
    refine lv_aload_n hx hb dX12_member_47 rfl (lv_at hl 0 rfl) ?_
    replace hf := bndv_some hf
    obtain ⟨g3, hc, hf⟩ := hf
    refine m_callVv [] C h cv_X12_307 (qX12_laysVotes hc) rfl ⟨rfl, rfl⟩ ⟨Nat.le_of_ble_eq_true rfl, Nat.le_of_ble_eq_true rfl⟩ (m_recv C h) hl.1 rfl (Nat.le_of_ble_eq_true rfl) ⟨Nat.le_refl _, Nat.le_refl _⟩ dX12_member_48 (fun H locs h => ?_)
    clear hc
    refine lv_iload_n hx hb dX12_member_51 rfl (lv_at hl 2 rfl) ?_
    rcases Decidable.em (y2 = (0 : Int32)) with hq | q0
    · replace hf := if_t hq hf
      subst hq
      refine lv_tableIn (off := 36) (tgt := 88) hx hb dX12_member_52 (by decide) (by decide) (by decide) (by decide) ?_
      refine lv_aload_n hx hb dX12_member_88 rfl (lv_at hl 0 rfl) ?_
      refine mg_21 C h dX12_member_89 ?_
      refine lv_iload_n hx hb dX12_member_92 rfl (lv_at hl 1 rfl) ?_
      replace hf := chk_some hf
      obtain ⟨hq, hf⟩ := hf
      refine ml_21 C h hq dX12_member_93 ?_
      clear hq
      obtain ⟨e1, e2⟩ := pr_inj hf
      subst e1 e2
      exact m_iret C h dX12_member_94
    replace hf := if_f q0 hf
    rcases Decidable.em (y2 = (1 : Int32)) with hq | q1
    · replace hf := if_t hq hf
      subst hq
      refine lv_tableIn (off := 43) (tgt := 95) hx hb dX12_member_52 (by decide) (by decide) (by decide) (by decide) ?_
      refine lv_aload_n hx hb dX12_member_95 rfl (lv_at hl 0 rfl) ?_
      refine lv_iload_n hx hb dX12_member_96 rfl (lv_at hl 1 rfl) ?_
      replace hf := bndc_some hf
      obtain ⟨x4, g5, hc, hf⟩ := hf
      refine m_callVi [.int y1] C h cv_X12_304 (qX12_faced hc) rfl ⟨rfl, rfl⟩ ⟨Nat.le_of_ble_eq_true rfl, Nat.le_of_ble_eq_true rfl⟩ (m_recv C h) hl.1 rfl (Nat.le_of_ble_eq_true rfl) ⟨Nat.le_refl _, Nat.le_refl _⟩ dX12_member_97 (fun H locs h => ?_)
      clear hc
      obtain ⟨e1, e2⟩ := pr_inj hf
      subst e1 e2
      exact m_iret C h dX12_member_100
    replace hf := if_f q1 hf
    rcases Decidable.em (y2 = (2 : Int32)) with hq | q2
    · replace hf := if_t hq hf
      subst hq
      refine lv_tableIn (off := 49) (tgt := 101) hx hb dX12_member_52 (by decide) (by decide) (by decide) (by decide) ?_
      refine lv_aload_n hx hb dX12_member_101 rfl (lv_at hl 0 rfl) ?_
      refine mg_0 C h dX12_member_102 ?_
      refine lv_bipush (v := (12 : Int32)) hx hb dX12_member_105 (by decide) ?_
      refine lv_iload_n hx hb dX12_member_107 rfl (lv_at hl 1 rfl) ?_
      refine lv_iadd hx hb dX12_member_108 ?_
      replace hf := chk_some hf
      obtain ⟨hq, hf⟩ := hf
      refine ml_0 C h hq dX12_member_109 ?_
      clear hq
      obtain ⟨e1, e2⟩ := pr_inj hf
      subst e1 e2
      exact m_iret C h dX12_member_110
    replace hf := if_f q2 hf
    rcases Decidable.em (y2 = (3 : Int32)) with hq | q3
    · replace hf := if_t hq hf
      subst hq
      refine lv_tableIn (off := 59) (tgt := 111) hx hb dX12_member_52 (by decide) (by decide) (by decide) (by decide) ?_
      refine lv_aload_n hx hb dX12_member_111 rfl (lv_at hl 0 rfl) ?_
      refine mg_22 C h dX12_member_112 ?_
      refine lv_iload_n hx hb dX12_member_115 rfl (lv_at hl 1 rfl) ?_
      replace hf := chk_some hf
      obtain ⟨hq, hf⟩ := hf
      refine ml_22 C h hq dX12_member_116 ?_
      clear hq
      obtain ⟨e1, e2⟩ := pr_inj hf
      subst e1 e2
      exact m_iret C h dX12_member_117
    replace hf := if_f q3 hf
    rcases Decidable.em (y2 = (4 : Int32)) with hq | q4
    · replace hf := if_t hq hf
      subst hq
      refine lv_tableIn (off := 66) (tgt := 118) hx hb dX12_member_52 (by decide) (by decide) (by decide) (by decide) ?_
      refine lv_aload_n hx hb dX12_member_118 rfl (lv_at hl 0 rfl) ?_
      refine lv_iload_n hx hb dX12_member_119 rfl (lv_at hl 1 rfl) ?_
      replace hf := bndc_some hf
      obtain ⟨x6, g7, hc, hf⟩ := hf
      refine m_callVi [.int y1] C h cv_X12_287 (qX12_isStuck hc) rfl ⟨rfl, rfl⟩ ⟨Nat.le_of_ble_eq_true rfl, Nat.le_of_ble_eq_true rfl⟩ (m_recv C h) hl.1 rfl (Nat.le_of_ble_eq_true rfl) ⟨Nat.le_refl _, Nat.le_refl _⟩ dX12_member_120 (fun H locs h => ?_)
      clear hc
      refine lv_if_eq (tgt := 130) hx hb dX12_member_123 (by decide) (fun hq => ?_) (fun hq => ?_)
      · replace hf := if_t hq hf
        clear hq
        refine lv_iconst (v := (0 : Int32)) hx hb dX12_member_130 (by decide) ?_
        obtain ⟨e1, e2⟩ := pr_inj hf
        subst e1 e2
        exact m_iret C h dX12_member_131
      · replace hf := if_f hq hf
        clear hq
        refine lv_iconst (v := (1 : Int32)) hx hb dX12_member_126 (by decide) ?_
        refine lv_goto (tgt := 131) hx hb dX12_member_127 (by decide) ?_
        obtain ⟨e1, e2⟩ := pr_inj hf
        subst e1 e2
        exact m_iret C h dX12_member_131
    replace hf := if_f q4 hf
    refine lv_tableOut (tgt := 132) hx hb dX12_member_52 (by
        have z0 := i32_ne q0
        have z1 := i32_ne q1
        have z2 := i32_ne q2
        have z3 := i32_ne q3
        have z4 := i32_ne q4
        simp only [i32v_0, i32v_1, i32v_2, i32v_3, i32v_4] at z0 z1 z2 z3 z4
        omega) (by decide) ?_
    clear q0 q1 q2 q3 q4
    refine lv_aload_n hx hb dX12_member_132 rfl (lv_at hl 0 rfl) ?_
    refine lv_iload_n hx hb dX12_member_133 rfl (lv_at hl 1 rfl) ?_
    replace hf := bndc_some hf
    obtain ⟨x8, g9, hc, hf⟩ := hf
    refine m_callVi [.int y1] C h cv_X12_325 (qX12_notchCosts hc) rfl ⟨rfl, rfl⟩ ⟨Nat.le_of_ble_eq_true rfl, Nat.le_of_ble_eq_true rfl⟩ (m_recv C h) hl.1 rfl (Nat.le_of_ble_eq_true rfl) ⟨Nat.le_refl _, Nat.le_refl _⟩ dX12_member_134 (fun H locs h => ?_)
    clear hc
    obtain ⟨e1, e2⟩ := pr_inj hf
    subst e1 e2
    exact m_iret C h dX12_member_137
  · replace hf := if_f hq hf
    clear hq
    refine lv_iconst (v := (0 : Int32)) hx hb dX12_member_41 (by decide) ?_
    obtain ⟨e1, e2⟩ := pr_inj hf
    subst e1 e2
    exact m_iret C h dX12_member_42

set_option maxHeartbeats 4000000 in
set_option maxRecDepth 100000 in
theorem qX12_member {l : Launch} {D : va_G} {cs : Nat → ClassId} {ad : Nat → Nat} {r : Int32} {g' : MS} {g : MS}  {a0 : Int32} {a1 : Int32} (hf : fX12_member g a0 a1 = some (r, g')) : GCon l D cs yX12_member cX12_member 3 (some .int) (rM 5) 0 0 [.ref (ad 48), .int a0, .int a1] (MW cs ad g) (some (.int r)) (MW cs ad g') := by
  refine GCon.of (by decide) (Nat.le_of_ble_eq_true rfl) ?_
  intro p e s m args below meth c A ls H locs C h hl
  have hx := C.1
  have hb := C.2.1
  have C : MCx p s m args meth c A RX12 cX12_member 3 (some .int) D cs := C
  have hl : lv_has ls 3 [(0, .ref (ad 48)), (1, .int a0), (2, .int a1)] := hl
  unfold fX12_member at hf
  refine lv_aload_n hx hb dX12_member_0 rfl (lv_at hl 0 rfl) ?_
  refine lv_aload_n hx hb dX12_member_1 rfl (lv_at hl 0 rfl) ?_
  refine lv_iload_n hx hb dX12_member_2 rfl (lv_at hl 1 rfl) ?_
  refine lv_i2l hx hb dX12_member_3 rfl ?_
  replace hf := bndc_some hf
  obtain ⟨x10, g11, hc, hf⟩ := hf
  refine m_callVi [.long a0.toInt64] C h cv_X12_319 (qX12_isMember hc) rfl ⟨rfl, rfl⟩ ⟨Nat.le_of_ble_eq_true rfl, Nat.le_of_ble_eq_true rfl⟩ (m_recv C h) hl.1 rfl (Nat.le_of_ble_eq_true rfl) ⟨Nat.le_refl _, Nat.le_refl _⟩ dX12_member_4 (fun H locs h => ?_)
  clear hc
  refine lv_if_ne (tgt := 14) hx hb dX12_member_7 (by decide) (fun hq => ?_) (fun hq => ?_)
  · replace hf := if_tn hq hf
    clear hq
    refine lv_iload_n hx hb dX12_member_14 rfl (lv_at hl 2 rfl) ?_
    refine lv_i2l hx hb dX12_member_15 rfl ?_
    refine lv_lconst (v := (0 : Int64)) hx hb dX12_member_16 rfl ?_
    refine lv_ldc2 hx hb C.2.2.2.1 (C.2.2.2.2.1 _ tb_28_12) dX12_member_17 ?_
    replace hf := bndv_some hf
    obtain ⟨x12, hc, hf⟩ := hf
    refine m_callSi [.long a1.toInt64, .long (0 : Int64), .long (5 : Int64)] C h cs_X12_147 (qX12_within hc) rfl ⟨rfl, rfl⟩ ⟨Nat.le_of_ble_eq_true rfl, Nat.le_of_ble_eq_true rfl⟩ hl.1 rfl (Nat.le_of_ble_eq_true rfl) ⟨Nat.le_refl _, Nat.le_refl _⟩ dX12_member_20 (fun H locs h => ?_)
    clear hc
    refine lv_if_eq (tgt := 30) hx hb dX12_member_23 (by decide) (fun hq => ?_) (fun hq => ?_)
    · replace hf := if_t hq hf
      clear hq
      refine lv_iconst (v := (2 : Int32)) hx hb dX12_member_30 (by decide) ?_
      exact wX12_member_31 C g11 a0 a1 (2 : Int32) hf H locs ls h (lv_sub hl [0, 1, 2] rfl)
    · replace hf := if_f hq hf
      clear hq
      refine lv_iconst (v := (0 : Int32)) hx hb dX12_member_26 (by decide) ?_
      refine lv_goto (tgt := 31) hx hb dX12_member_27 (by decide) ?_
      exact wX12_member_31 C g11 a0 a1 (0 : Int32) hf H locs ls h (lv_sub hl [0, 1, 2] rfl)
  · replace hf := if_t hq hf
    clear hq
    refine lv_iconst (v := (1 : Int32)) hx hb dX12_member_10 (by decide) ?_
    refine lv_goto (tgt := 31) hx hb dX12_member_11 (by decide) ?_
    exact wX12_member_31 C g11 a0 a1 (1 : Int32) hf H locs ls h (lv_sub hl [0, 1, 2] rfl)

set_option maxHeartbeats 4000000 in
set_option maxRecDepth 100000 in
theorem qX12_chair {l : Launch} {D : va_G} {cs : Nat → ClassId} {ad : Nat → Nat} {r : Int32} {g' : MS} {g : MS}  (hf : fX12_chair g = some (r, g')) : GCon l D cs yX12_chair cX12_chair 1 (some .int) (rM 5) 0 0 [.ref (ad 48)] (MW cs ad g) (some (.int r)) (MW cs ad g') := by
  refine GCon.of (by decide) (Nat.le_of_ble_eq_true rfl) ?_
  intro p e s m args below meth c A ls H locs C h hl
  have hx := C.1
  have hb := C.2.1
  have C : MCx p s m args meth c A RX12 cX12_chair 1 (some .int) D cs := C
  have hl : lv_has ls 1 [(0, .ref (ad 48))] := hl
  unfold fX12_chair at hf
  refine lv_aload_n hx hb dX12_chair_0 rfl (lv_at hl 0 rfl) ?_
  refine lv_iconst (v := (0 : Int32)) hx hb dX12_chair_1 (by decide) ?_
  replace hf := bnd_ex hf
  obtain ⟨g1, eg1, hf⟩ := hf
  refine mp_4 C h dX12_chair_2 (fun H locs h => ?_)
  rw [← eg1] at h
  clear eg1
  refine lv_aload_n hx hb dX12_chair_5 rfl (lv_at hl 0 rfl) ?_
  replace hf := bndc_some hf
  obtain ⟨x2, g3, hc, hf⟩ := hf
  refine m_callVi [] C h cv_X12_328 (qX12_chairNow hc) rfl ⟨rfl, rfl⟩ ⟨Nat.le_of_ble_eq_true rfl, Nat.le_of_ble_eq_true rfl⟩ (m_recv C h) hl.1 rfl (Nat.le_of_ble_eq_true rfl) ⟨Nat.le_refl _, Nat.le_refl _⟩ dX12_chair_6 (fun H locs h => ?_)
  clear hc
  obtain ⟨e1, e2⟩ := pr_inj hf
  subst e1 e2
  exact m_iret C h dX12_chair_9

set_option maxHeartbeats 4000000 in
set_option maxRecDepth 100000 in
theorem qX12_drags {l : Launch} {D : va_G} {cs : Nat → ClassId} {ad : Nat → Nat} {r : Int32} {g' : MS} {g : MS}  {a0 : Int32} (hf : fX12_drags g a0 = some (r, g')) : GCon l D cs yX12_drags cX12_drags 2 (some .int) (rM 6) 0 0 [.ref (ad 48), .int a0] (MW cs ad g) (some (.int r)) (MW cs ad g') := by
  refine GCon.of (by decide) (Nat.le_of_ble_eq_true rfl) ?_
  intro p e s m args below meth c A ls H locs C h hl
  have hx := C.1
  have hb := C.2.1
  have C : MCx p s m args meth c A RX12 cX12_drags 2 (some .int) D cs := C
  have hl : lv_has ls 2 [(0, .ref (ad 48)), (1, .int a0)] := hl
  unfold fX12_drags at hf
  refine lv_aload_n hx hb dX12_drags_0 rfl (lv_at hl 0 rfl) ?_
  refine lv_iconst (v := (0 : Int32)) hx hb dX12_drags_1 (by decide) ?_
  replace hf := bnd_ex hf
  obtain ⟨g1, eg1, hf⟩ := hf
  refine mp_4 C h dX12_drags_2 (fun H locs h => ?_)
  rw [← eg1] at h
  clear eg1
  refine lv_aload_n hx hb dX12_drags_5 rfl (lv_at hl 0 rfl) ?_
  refine lv_iload_n hx hb dX12_drags_6 rfl (lv_at hl 1 rfl) ?_
  refine lv_i2l hx hb dX12_drags_7 rfl ?_
  replace hf := bndc_some hf
  obtain ⟨x2, g3, hc, hf⟩ := hf
  refine m_callVi [.long a0.toInt64] C h cv_X12_319 (qX12_isMember hc) rfl ⟨rfl, rfl⟩ ⟨Nat.le_of_ble_eq_true rfl, Nat.le_of_ble_eq_true rfl⟩ (m_recv C h) hl.1 rfl (Nat.le_of_ble_eq_true rfl) ⟨Nat.le_refl _, Nat.le_refl _⟩ dX12_drags_8 (fun H locs h => ?_)
  clear hc
  refine lv_if_eq (tgt := 22) hx hb dX12_drags_11 (by decide) (fun hq => ?_) (fun hq => ?_)
  · replace hf := if_t hq hf
    clear hq
    refine lv_aload_n hx hb dX12_drags_22 rfl (lv_at hl 0 rfl) ?_
    refine lv_iconst (v := (1 : Int32)) hx hb dX12_drags_23 (by decide) ?_
    replace hf := bndc_some hf
    obtain ⟨x4, g5, hc, hf⟩ := hf
    refine m_callVi [.int (1 : Int32)] C h cv_X12_239 (qX12_fails hc) rfl ⟨rfl, rfl⟩ ⟨Nat.le_of_ble_eq_true rfl, Nat.le_of_ble_eq_true rfl⟩ (m_recv C h) hl.1 rfl (Nat.le_of_ble_eq_true rfl) ⟨Nat.le_refl _, Nat.le_refl _⟩ dX12_drags_24 (fun H locs h => ?_)
    clear hc
    obtain ⟨e1, e2⟩ := pr_inj hf
    subst e1 e2
    exact m_iret C h dX12_drags_27
  · replace hf := if_f hq hf
    clear hq
    refine lv_aload_n hx hb dX12_drags_14 rfl (lv_at hl 0 rfl) ?_
    refine lv_iload_n hx hb dX12_drags_15 rfl (lv_at hl 1 rfl) ?_
    replace hf := bndc_some hf
    obtain ⟨x6, g7, hc, hf⟩ := hf
    refine m_callVi [.int a0] C h cv_X12_331 (qX12_draggedBy hc) rfl ⟨rfl, rfl⟩ ⟨Nat.le_of_ble_eq_true rfl, Nat.le_of_ble_eq_true rfl⟩ (m_recv C h) hl.1 rfl (Nat.le_of_ble_eq_true rfl) ⟨Nat.le_refl _, Nat.le_refl _⟩ dX12_drags_16 (fun H locs h => ?_)
    clear hc
    refine lv_goto (tgt := 27) hx hb dX12_drags_19 (by decide) ?_
    obtain ⟨e1, e2⟩ := pr_inj hf
    subst e1 e2
    exact m_iret C h dX12_drags_27

set_option maxHeartbeats 4000000 in
set_option maxRecDepth 100000 in
theorem qX12_goes {l : Launch} {D : va_G} {cs : Nat → ClassId} {ad : Nat → Nat} {r : Int32} {g' : MS} {g : MS}  {a0 : Int32} (hf : fX12_goes g a0 = some (r, g')) : GCon l D cs yX12_goes cX12_goes 2 (some .int) (rM 5) 0 0 [.ref (ad 48), .int a0] (MW cs ad g) (some (.int r)) (MW cs ad g') := by
  refine GCon.of (by decide) (Nat.le_of_ble_eq_true rfl) ?_
  intro p e s m args below meth c A ls H locs C h hl
  have hx := C.1
  have hb := C.2.1
  have C : MCx p s m args meth c A RX12 cX12_goes 2 (some .int) D cs := C
  have hl : lv_has ls 2 [(0, .ref (ad 48)), (1, .int a0)] := hl
  unfold fX12_goes at hf
  refine lv_aload_n hx hb dX12_goes_0 rfl (lv_at hl 0 rfl) ?_
  refine lv_iconst (v := (0 : Int32)) hx hb dX12_goes_1 (by decide) ?_
  replace hf := bnd_ex hf
  obtain ⟨g1, eg1, hf⟩ := hf
  refine mp_4 C h dX12_goes_2 (fun H locs h => ?_)
  rw [← eg1] at h
  clear eg1
  refine lv_aload_n hx hb dX12_goes_5 rfl (lv_at hl 0 rfl) ?_
  refine lv_iload_n hx hb dX12_goes_6 rfl (lv_at hl 1 rfl) ?_
  refine lv_i2l hx hb dX12_goes_7 rfl ?_
  replace hf := bndc_some hf
  obtain ⟨x2, g3, hc, hf⟩ := hf
  refine m_callVi [.long a0.toInt64] C h cv_X12_319 (qX12_isMember hc) rfl ⟨rfl, rfl⟩ ⟨Nat.le_of_ble_eq_true rfl, Nat.le_of_ble_eq_true rfl⟩ (m_recv C h) hl.1 rfl (Nat.le_of_ble_eq_true rfl) ⟨Nat.le_refl _, Nat.le_refl _⟩ dX12_goes_8 (fun H locs h => ?_)
  clear hc
  refine lv_if_ne (tgt := 20) hx hb dX12_goes_11 (by decide) (fun hq => ?_) (fun hq => ?_)
  · replace hf := if_tn hq hf
    clear hq
    refine lv_aload_n hx hb dX12_goes_20 rfl (lv_at hl 0 rfl) ?_
    replace hf := bndv_some hf
    obtain ⟨g4, hc, hf⟩ := hf
    refine m_callVv [] C h cv_X12_310 (qX12_aimsNow hc) rfl ⟨rfl, rfl⟩ ⟨Nat.le_of_ble_eq_true rfl, Nat.le_of_ble_eq_true rfl⟩ (m_recv C h) hl.1 rfl (Nat.le_of_ble_eq_true rfl) ⟨Nat.le_refl _, Nat.le_refl _⟩ dX12_goes_21 (fun H locs h => ?_)
    clear hc
    refine lv_aload_n hx hb dX12_goes_24 rfl (lv_at hl 0 rfl) ?_
    replace hf := bndv_some hf
    obtain ⟨g5, hc, hf⟩ := hf
    refine m_callVv [] C h cv_X12_307 (qX12_laysVotes hc) rfl ⟨rfl, rfl⟩ ⟨Nat.le_of_ble_eq_true rfl, Nat.le_of_ble_eq_true rfl⟩ (m_recv C h) hl.1 rfl (Nat.le_of_ble_eq_true rfl) ⟨Nat.le_refl _, Nat.le_refl _⟩ dX12_goes_25 (fun H locs h => ?_)
    clear hc
    refine lv_aload_n hx hb dX12_goes_28 rfl (lv_at hl 0 rfl) ?_
    refine lv_iload_n hx hb dX12_goes_29 rfl (lv_at hl 1 rfl) ?_
    replace hf := bndc_some hf
    obtain ⟨x6, g7, hc, hf⟩ := hf
    refine m_callVi [.int a0] C h cv_X12_287 (qX12_isStuck hc) rfl ⟨rfl, rfl⟩ ⟨Nat.le_of_ble_eq_true rfl, Nat.le_of_ble_eq_true rfl⟩ (m_recv C h) hl.1 rfl (Nat.le_of_ble_eq_true rfl) ⟨Nat.le_refl _, Nat.le_refl _⟩ dX12_goes_30 (fun H locs h => ?_)
    clear hc
    refine lv_if_eq (tgt := 40) hx hb dX12_goes_33 (by decide) (fun hq => ?_) (fun hq => ?_)
    · replace hf := if_t hq hf
      clear hq
      refine lv_aload_n hx hb dX12_goes_40 rfl (lv_at hl 0 rfl) ?_
      refine lv_iload_n hx hb dX12_goes_41 rfl (lv_at hl 1 rfl) ?_
      replace hf := bndc_some hf
      obtain ⟨x8, g9, hc, hf⟩ := hf
      refine m_callVi [.int a0] C h cv_X12_316 (qX12_goesBy hc) rfl ⟨rfl, rfl⟩ ⟨Nat.le_of_ble_eq_true rfl, Nat.le_of_ble_eq_true rfl⟩ (m_recv C h) hl.1 rfl (Nat.le_of_ble_eq_true rfl) ⟨Nat.le_refl _, Nat.le_refl _⟩ dX12_goes_42 (fun H locs h => ?_)
      clear hc
      obtain ⟨e1, e2⟩ := pr_inj hf
      subst e1 e2
      exact m_iret C h dX12_goes_45
    · replace hf := if_f hq hf
      clear hq
      refine lv_iconst (v := (0 : Int32)) hx hb dX12_goes_36 (by decide) ?_
      refine lv_goto (tgt := 45) hx hb dX12_goes_37 (by decide) ?_
      obtain ⟨e1, e2⟩ := pr_inj hf
      subst e1 e2
      exact m_iret C h dX12_goes_45
  · replace hf := if_t hq hf
    clear hq
    refine lv_aload_n hx hb dX12_goes_14 rfl (lv_at hl 0 rfl) ?_
    refine lv_iconst (v := (1 : Int32)) hx hb dX12_goes_15 (by decide) ?_
    replace hf := bndc_some hf
    obtain ⟨x10, g11, hc, hf⟩ := hf
    refine m_callVi [.int (1 : Int32)] C h cv_X12_239 (qX12_fails hc) rfl ⟨rfl, rfl⟩ ⟨Nat.le_of_ble_eq_true rfl, Nat.le_of_ble_eq_true rfl⟩ (m_recv C h) hl.1 rfl (Nat.le_of_ble_eq_true rfl) ⟨Nat.le_refl _, Nat.le_refl _⟩ dX12_goes_16 (fun H locs h => ?_)
    clear hc
    obtain ⟨e1, e2⟩ := pr_inj hf
    subst e1 e2
    exact m_iret C h dX12_goes_19

set_option maxHeartbeats 4000000 in
set_option maxRecDepth 100000 in
theorem wX12_keeps_54 (C : MCx p s m args meth c A RX12 cX12_keeps 2 none D cs)  {g' : MS}  : ∀ (n : Nat) (g : MS) (y1 : Int32), fX12_keeps_54 n g y1 = some g' → ∀ (H : Heap) (locs : List Loc) (ls : Array Slot), MH D (MW cs ad g) A s H locs → lv_has ls 2 [(0, .ref (ad 48)), (1, .int y1)] → W p l e (rM 0) s m args below meth c H locs 0 0 (MQ below (GPost D none (MW cs ad g') A) args s 0 0 A) (F0 m 54 ls []) := by
  have hx := C.1
  have hb := C.2.1
  intro n
  induction n with
  | zero =>
    intro g y1 hf
    exact absurd hf (by simp [fX12_keeps_54])
  | succ n ih =>
    intro g y1 hf H locs ls h hl
    rw [fX12_keeps_54] at hf
    refine lv_iload_n hx hb dX12_keeps_54 rfl (lv_at hl 1 rfl) ?_
    refine lv_bipush (v := (13 : Int32)) hx hb dX12_keeps_55 (by decide) ?_
    refine lv_icmp_ge (tgt := 94) hx hb dX12_keeps_57 (by decide) (fun hq => ?_) (fun hq => ?_)
    · replace hf := if_t hq hf
      clear hq
      refine lv_aload_n hx hb dX12_keeps_94 rfl (lv_at hl 0 rfl) ?_
      refine mg_0 C h dX12_keeps_95 ?_
      refine lv_iconst (v := (5 : Int32)) hx hb dX12_keeps_98 (by decide) ?_
      refine lv_dup2_11 hx hb dX12_keeps_99 rfl rfl ?_
      replace hf := chk_some hf
      obtain ⟨hq, hf⟩ := hf
      refine ml_0 C h hq dX12_keeps_100 ?_
      clear hq
      refine lv_iconst (v := (1 : Int32)) hx hb dX12_keeps_101 (by decide) ?_
      refine lv_iadd hx hb dX12_keeps_102 ?_
      replace hf := chk_some hf
      obtain ⟨hq, hf⟩ := hf
      replace hf := bnd_ex hf
      obtain ⟨g1, eg1, hf⟩ := hf
      refine ms_0 C h hq dX12_keeps_103 (fun H locs h => ?_)
      rw [← eg1] at h
      clear hq eg1
      have e1 := Option.some.inj hf
      subst e1
      exact m_vret C h dX12_keeps_104
    · replace hf := if_f hq hf
      clear hq
      refine lv_aload_n hx hb dX12_keeps_60 rfl (lv_at hl 0 rfl) ?_
      refine mg_0 C h dX12_keeps_61 ?_
      refine lv_bipush (v := (19 : Int32)) hx hb dX12_keeps_64 (by decide) ?_
      refine lv_bipush (v := (13 : Int32)) hx hb dX12_keeps_66 (by decide) ?_
      refine lv_aload_n hx hb dX12_keeps_68 rfl (lv_at hl 0 rfl) ?_
      refine mg_0 C h dX12_keeps_69 ?_
      refine lv_iconst (v := (5 : Int32)) hx hb dX12_keeps_72 (by decide) ?_
      replace hf := chk_some hf
      obtain ⟨hq, hf⟩ := hf
      refine ml_0 C h hq dX12_keeps_73 ?_
      clear hq
      refine lv_imul hx hb dX12_keeps_74 ?_
      refine lv_iadd hx hb dX12_keeps_75 ?_
      refine lv_iload_n hx hb dX12_keeps_76 rfl (lv_at hl 1 rfl) ?_
      refine lv_iadd hx hb dX12_keeps_77 ?_
      refine lv_aload_n hx hb dX12_keeps_78 rfl (lv_at hl 0 rfl) ?_
      refine mg_0 C h dX12_keeps_79 ?_
      refine lv_bipush (v := (6 : Int32)) hx hb dX12_keeps_82 (by decide) ?_
      refine lv_iload_n hx hb dX12_keeps_84 rfl (lv_at hl 1 rfl) ?_
      refine lv_iadd hx hb dX12_keeps_85 ?_
      replace hf := chk_some hf
      obtain ⟨hq, hf⟩ := hf
      refine ml_0 C h hq dX12_keeps_86 ?_
      clear hq
      replace hf := chk_some hf
      obtain ⟨hq, hf⟩ := hf
      replace hf := bnd_ex hf
      obtain ⟨g2, eg2, hf⟩ := hf
      refine ms_0 C h hq dX12_keeps_87 (fun H locs h => ?_)
      rw [← eg2] at h
      clear hq eg2
      obtain ⟨x3, ex3⟩ : ∃ z : Int32, z = y1 + (1 : Int32) := ⟨_, rfl⟩
      replace hf := bnd_at ex3 hf
      refine lv_iinc (v := x3) (lv' := [(1, .int x3), (0, .ref (ad 48))]) hx hb dX12_keeps_88 hl (k := 1) rfl (by rw [ex3]; rfl) (by decide) rfl (fun ls hl => ?_)
      clear ex3
      refine lv_goto (tgt := 54) hx hb dX12_keeps_91 (by decide) ?_
      exact ih g2 x3 hf H locs ls h (lv_sub hl [1, 0] rfl)

set_option maxHeartbeats 4000000 in
set_option maxRecDepth 100000 in
theorem wX12_keeps_14 (C : MCx p s m args meth c A RX12 cX12_keeps 2 none D cs)  {g' : MS}  : ∀ (n : Nat) (g : MS) (y1 : Int32), fX12_keeps_14 n g y1 = some g' → ∀ (H : Heap) (locs : List Loc) (ls : Array Slot), MH D (MW cs ad g) A s H locs → lv_has ls 2 [(0, .ref (ad 48)), (1, .int y1)] → W p l e (rM 0) s m args below meth c H locs 0 0 (MQ below (GPost D none (MW cs ad g') A) args s 0 0 A) (F0 m 14 ls []) := by
  have hx := C.1
  have hb := C.2.1
  intro n
  induction n with
  | zero =>
    intro g y1 hf
    exact absurd hf (by simp [fX12_keeps_14])
  | succ n ih =>
    intro g y1 hf H locs ls h hl
    rw [fX12_keeps_14] at hf
    refine lv_iload_n hx hb dX12_keeps_14 rfl (lv_at hl 1 rfl) ?_
    refine lv_sipush (v := (136 : Int32)) hx hb dX12_keeps_15 (by decide) ?_
    refine lv_icmp_ge (tgt := 42) hx hb dX12_keeps_18 (by decide) (fun hq => ?_) (fun hq => ?_)
    · replace hf := if_t hq hf
      clear hq
      refine lv_aload_n hx hb dX12_keeps_42 rfl (lv_at hl 0 rfl) ?_
      refine mg_0 C h dX12_keeps_43 ?_
      refine lv_iconst (v := (5 : Int32)) hx hb dX12_keeps_46 (by decide) ?_
      refine lv_dup2_11 hx hb dX12_keeps_47 rfl rfl ?_
      replace hf := chk_some hf
      obtain ⟨hq, hf⟩ := hf
      refine ml_0 C h hq dX12_keeps_48 ?_
      clear hq
      refine lv_iconst (v := (1 : Int32)) hx hb dX12_keeps_49 (by decide) ?_
      refine lv_isub hx hb dX12_keeps_50 ?_
      replace hf := chk_some hf
      obtain ⟨hq, hf⟩ := hf
      replace hf := bnd_ex hf
      obtain ⟨g4, eg4, hf⟩ := hf
      refine ms_0 C h hq dX12_keeps_51 (fun H locs h => ?_)
      rw [← eg4] at h
      clear hq eg4
      refine lv_iconst (v := (0 : Int32)) hx hb dX12_keeps_52 (by decide) ?_
      refine lv_istore_n (lv' := [(1, .int (0 : Int32)), (0, .ref (ad 48))]) hx hb dX12_keeps_53 rfl hl (by decide) rfl (fun ls hl => ?_)
      exact wX12_keeps_54 C fuel g4 (0 : Int32) hf H locs ls h (lv_sub hl [1, 0] rfl)
    · replace hf := if_f hq hf
      clear hq
      refine lv_aload_n hx hb dX12_keeps_21 rfl (lv_at hl 0 rfl) ?_
      refine mg_0 C h dX12_keeps_22 ?_
      refine lv_iload_n hx hb dX12_keeps_25 rfl (lv_at hl 1 rfl) ?_
      refine lv_aload_n hx hb dX12_keeps_26 rfl (lv_at hl 0 rfl) ?_
      refine mg_0 C h dX12_keeps_27 ?_
      refine lv_iload_n hx hb dX12_keeps_30 rfl (lv_at hl 1 rfl) ?_
      refine lv_bipush (v := (13 : Int32)) hx hb dX12_keeps_31 (by decide) ?_
      refine lv_iadd hx hb dX12_keeps_33 ?_
      replace hf := chk_some hf
      obtain ⟨hq, hf⟩ := hf
      refine ml_0 C h hq dX12_keeps_34 ?_
      clear hq
      replace hf := chk_some hf
      obtain ⟨hq, hf⟩ := hf
      replace hf := bnd_ex hf
      obtain ⟨g5, eg5, hf⟩ := hf
      refine ms_0 C h hq dX12_keeps_35 (fun H locs h => ?_)
      rw [← eg5] at h
      clear hq eg5
      obtain ⟨x6, ex6⟩ : ∃ z : Int32, z = y1 + (1 : Int32) := ⟨_, rfl⟩
      replace hf := bnd_at ex6 hf
      refine lv_iinc (v := x6) (lv' := [(1, .int x6), (0, .ref (ad 48))]) hx hb dX12_keeps_36 hl (k := 1) rfl (by rw [ex6]; rfl) (by decide) rfl (fun ls hl => ?_)
      clear ex6
      refine lv_goto (tgt := 14) hx hb dX12_keeps_39 (by decide) ?_
      exact ih g5 x6 hf H locs ls h (lv_sub hl [1, 0] rfl)

set_option maxHeartbeats 4000000 in
set_option maxRecDepth 100000 in
theorem qX12_keeps {l : Launch} {D : va_G} {cs : Nat → ClassId} {ad : Nat → Nat} {g' : MS} {g : MS}  (hf : fX12_keeps g = some g') : GCon l D cs yX12_keeps cX12_keeps 2 none (rM 0) 0 0 [.ref (ad 48)] (MW cs ad g) none (MW cs ad g') := by
  refine GCon.of (by decide) (Nat.le_of_ble_eq_true rfl) ?_
  intro p e s m args below meth c A ls H locs C h hl
  have hx := C.1
  have hb := C.2.1
  have C : MCx p s m args meth c A RX12 cX12_keeps 2 none D cs := C
  have hl : lv_has ls 2 [(0, .ref (ad 48))] := hl
  unfold fX12_keeps at hf
  refine lv_aload_n hx hb dX12_keeps_0 rfl (lv_at hl 0 rfl) ?_
  refine mg_0 C h dX12_keeps_1 ?_
  refine lv_iconst (v := (5 : Int32)) hx hb dX12_keeps_4 (by decide) ?_
  replace hf := chk_some hf
  obtain ⟨hq, hf⟩ := hf
  refine ml_0 C h hq dX12_keeps_5 ?_
  clear hq
  refine lv_bipush (v := (10 : Int32)) hx hb dX12_keeps_6 (by decide) ?_
  refine lv_icmp_ne (tgt := 52) hx hb dX12_keeps_8 (by decide) (fun hq => ?_) (fun hq => ?_)
  · replace hf := if_tn hq hf
    clear hq
    refine lv_iconst (v := (0 : Int32)) hx hb dX12_keeps_52 (by decide) ?_
    refine lv_istore_n (lv' := [(1, .int (0 : Int32)), (0, .ref (ad 48))]) hx hb dX12_keeps_53 rfl hl (by decide) rfl (fun ls hl => ?_)
    exact wX12_keeps_54 C fuel g (0 : Int32) hf H locs ls h (lv_sub hl [1, 0] rfl)
  · replace hf := if_t hq hf
    clear hq
    refine lv_bipush (v := (19 : Int32)) hx hb dX12_keeps_11 (by decide) ?_
    refine lv_istore_n (lv' := [(1, .int (19 : Int32)), (0, .ref (ad 48))]) hx hb dX12_keeps_13 rfl hl (by decide) rfl (fun ls hl => ?_)
    exact wX12_keeps_14 C fuel g (19 : Int32) hf H locs ls h (lv_sub hl [1, 0] rfl)

set_option maxHeartbeats 4000000 in
set_option maxRecDepth 100000 in
theorem wX12_putsAside_2 (C : MCx p s m args meth c A RX12 cX12_putsAside 2 none D cs)  {g' : MS}  : ∀ (n : Nat) (g : MS) (y1 : Int32), fX12_putsAside_2 n g y1 = some g' → ∀ (H : Heap) (locs : List Loc) (ls : Array Slot), MH D (MW cs ad g) A s H locs → lv_has ls 2 [(0, .ref (ad 48)), (1, .int y1)] → W p l e (rM 0) s m args below meth c H locs 0 0 (MQ below (GPost D none (MW cs ad g') A) args s 0 0 A) (F0 m 2 ls []) := by
  have hx := C.1
  have hb := C.2.1
  intro n
  induction n with
  | zero =>
    intro g y1 hf
    exact absurd hf (by simp [fX12_putsAside_2])
  | succ n ih =>
    intro g y1 hf H locs ls h hl
    rw [fX12_putsAside_2] at hf
    refine lv_iload_n hx hb dX12_putsAside_2 rfl (lv_at hl 1 rfl) ?_
    refine lv_bipush (v := (13 : Int32)) hx hb dX12_putsAside_3 (by decide) ?_
    refine lv_icmp_ge (tgt := 29) hx hb dX12_putsAside_5 (by decide) (fun hq => ?_) (fun hq => ?_)
    · replace hf := if_t hq hf
      clear hq
      have e1 := Option.some.inj hf
      subst e1
      exact m_vret C h dX12_putsAside_29
    · replace hf := if_f hq hf
      clear hq
      refine lv_aload_n hx hb dX12_putsAside_8 rfl (lv_at hl 0 rfl) ?_
      refine mg_24 C h dX12_putsAside_9 ?_
      refine lv_iload_n hx hb dX12_putsAside_12 rfl (lv_at hl 1 rfl) ?_
      refine lv_aload_n hx hb dX12_putsAside_13 rfl (lv_at hl 0 rfl) ?_
      refine mg_0 C h dX12_putsAside_14 ?_
      refine lv_bipush (v := (6 : Int32)) hx hb dX12_putsAside_17 (by decide) ?_
      refine lv_iload_n hx hb dX12_putsAside_19 rfl (lv_at hl 1 rfl) ?_
      refine lv_iadd hx hb dX12_putsAside_20 ?_
      replace hf := chk_some hf
      obtain ⟨hq, hf⟩ := hf
      refine ml_0 C h hq dX12_putsAside_21 ?_
      clear hq
      replace hf := chk_some hf
      obtain ⟨hq, hf⟩ := hf
      replace hf := bnd_ex hf
      obtain ⟨g1, eg1, hf⟩ := hf
      refine ms_24 C h hq dX12_putsAside_22 (fun H locs h => ?_)
      rw [← eg1] at h
      clear hq eg1
      obtain ⟨x2, ex2⟩ : ∃ z : Int32, z = y1 + (1 : Int32) := ⟨_, rfl⟩
      replace hf := bnd_at ex2 hf
      refine lv_iinc (v := x2) (lv' := [(1, .int x2), (0, .ref (ad 48))]) hx hb dX12_putsAside_23 hl (k := 1) rfl (by rw [ex2]; rfl) (by decide) rfl (fun ls hl => ?_)
      clear ex2
      refine lv_goto (tgt := 2) hx hb dX12_putsAside_26 (by decide) ?_
      exact ih g1 x2 hf H locs ls h (lv_sub hl [1, 0] rfl)

set_option maxHeartbeats 4000000 in
set_option maxRecDepth 100000 in
theorem qX12_putsAside {l : Launch} {D : va_G} {cs : Nat → ClassId} {ad : Nat → Nat} {g' : MS} {g : MS}  (hf : fX12_putsAside g = some g') : GCon l D cs yX12_putsAside cX12_putsAside 2 none (rM 0) 0 0 [.ref (ad 48)] (MW cs ad g) none (MW cs ad g') := by
  refine GCon.of (by decide) (Nat.le_of_ble_eq_true rfl) ?_
  intro p e s m args below meth c A ls H locs C h hl
  have hx := C.1
  have hb := C.2.1
  have C : MCx p s m args meth c A RX12 cX12_putsAside 2 none D cs := C
  have hl : lv_has ls 2 [(0, .ref (ad 48))] := hl
  unfold fX12_putsAside at hf
  refine lv_iconst (v := (0 : Int32)) hx hb dX12_putsAside_0 (by decide) ?_
  refine lv_istore_n (lv' := [(1, .int (0 : Int32)), (0, .ref (ad 48))]) hx hb dX12_putsAside_1 rfl hl (by decide) rfl (fun ls hl => ?_)
  exact wX12_putsAside_2 C fuel g (0 : Int32) hf H locs ls h (lv_sub hl [1, 0] rfl)

set_option maxHeartbeats 4000000 in
set_option maxRecDepth 100000 in
theorem wX12_putsBack_2 (C : MCx p s m args meth c A RX12 cX12_putsBack 2 none D cs)  {g' : MS}  : ∀ (n : Nat) (g : MS) (y1 : Int32), fX12_putsBack_2 n g y1 = some g' → ∀ (H : Heap) (locs : List Loc) (ls : Array Slot), MH D (MW cs ad g) A s H locs → lv_has ls 2 [(0, .ref (ad 48)), (1, .int y1)] → W p l e (rM 0) s m args below meth c H locs 0 0 (MQ below (GPost D none (MW cs ad g') A) args s 0 0 A) (F0 m 2 ls []) := by
  have hx := C.1
  have hb := C.2.1
  intro n
  induction n with
  | zero =>
    intro g y1 hf
    exact absurd hf (by simp [fX12_putsBack_2])
  | succ n ih =>
    intro g y1 hf H locs ls h hl
    rw [fX12_putsBack_2] at hf
    refine lv_iload_n hx hb dX12_putsBack_2 rfl (lv_at hl 1 rfl) ?_
    refine lv_bipush (v := (13 : Int32)) hx hb dX12_putsBack_3 (by decide) ?_
    refine lv_icmp_ge (tgt := 29) hx hb dX12_putsBack_5 (by decide) (fun hq => ?_) (fun hq => ?_)
    · replace hf := if_t hq hf
      clear hq
      have e1 := Option.some.inj hf
      subst e1
      exact m_vret C h dX12_putsBack_29
    · replace hf := if_f hq hf
      clear hq
      refine lv_aload_n hx hb dX12_putsBack_8 rfl (lv_at hl 0 rfl) ?_
      refine mg_0 C h dX12_putsBack_9 ?_
      refine lv_bipush (v := (6 : Int32)) hx hb dX12_putsBack_12 (by decide) ?_
      refine lv_iload_n hx hb dX12_putsBack_14 rfl (lv_at hl 1 rfl) ?_
      refine lv_iadd hx hb dX12_putsBack_15 ?_
      refine lv_aload_n hx hb dX12_putsBack_16 rfl (lv_at hl 0 rfl) ?_
      refine mg_24 C h dX12_putsBack_17 ?_
      refine lv_iload_n hx hb dX12_putsBack_20 rfl (lv_at hl 1 rfl) ?_
      replace hf := chk_some hf
      obtain ⟨hq, hf⟩ := hf
      refine ml_24 C h hq dX12_putsBack_21 ?_
      clear hq
      replace hf := chk_some hf
      obtain ⟨hq, hf⟩ := hf
      replace hf := bnd_ex hf
      obtain ⟨g1, eg1, hf⟩ := hf
      refine ms_0 C h hq dX12_putsBack_22 (fun H locs h => ?_)
      rw [← eg1] at h
      clear hq eg1
      obtain ⟨x2, ex2⟩ : ∃ z : Int32, z = y1 + (1 : Int32) := ⟨_, rfl⟩
      replace hf := bnd_at ex2 hf
      refine lv_iinc (v := x2) (lv' := [(1, .int x2), (0, .ref (ad 48))]) hx hb dX12_putsBack_23 hl (k := 1) rfl (by rw [ex2]; rfl) (by decide) rfl (fun ls hl => ?_)
      clear ex2
      refine lv_goto (tgt := 2) hx hb dX12_putsBack_26 (by decide) ?_
      exact ih g1 x2 hf H locs ls h (lv_sub hl [1, 0] rfl)

set_option maxHeartbeats 4000000 in
set_option maxRecDepth 100000 in
theorem qX12_putsBack {l : Launch} {D : va_G} {cs : Nat → ClassId} {ad : Nat → Nat} {g' : MS} {g : MS}  (hf : fX12_putsBack g = some g') : GCon l D cs yX12_putsBack cX12_putsBack 2 none (rM 0) 0 0 [.ref (ad 48)] (MW cs ad g) none (MW cs ad g') := by
  refine GCon.of (by decide) (Nat.le_of_ble_eq_true rfl) ?_
  intro p e s m args below meth c A ls H locs C h hl
  have hx := C.1
  have hb := C.2.1
  have C : MCx p s m args meth c A RX12 cX12_putsBack 2 none D cs := C
  have hl : lv_has ls 2 [(0, .ref (ad 48))] := hl
  unfold fX12_putsBack at hf
  refine lv_iconst (v := (0 : Int32)) hx hb dX12_putsBack_0 (by decide) ?_
  refine lv_istore_n (lv' := [(1, .int (0 : Int32)), (0, .ref (ad 48))]) hx hb dX12_putsBack_1 rfl hl (by decide) rfl (fun ls hl => ?_)
  exact wX12_putsBack_2 C fuel g (0 : Int32) hf H locs ls h (lv_sub hl [1, 0] rfl)

set_option maxHeartbeats 4000000 in
set_option maxRecDepth 100000 in
theorem wX12_whyTurn_23 (C : MCx p s m args meth c A RX12 cX12_whyTurn 5 (some .int) D cs)  {r : Int32} {g' : MS}  : ∀ (g : MS), fX12_whyTurn_23 g = some (r, g') → ∀ (H : Heap) (locs : List Loc) (ls : Array Slot), MH D (MW cs ad g) A s H locs → lv_has ls 5 [] → W p l e (rM 2) s m args below meth c H locs 0 0 (MQ below (GPost D (some (.int r)) (MW cs ad g') A) args s 0 0 A) (F0 m 23 ls []) := by
  have hx := C.1
  have hb := C.2.1
  intro g hf H locs ls h hl
  unfold fX12_whyTurn_23 at hf
  refine lv_iconst (v := (1 : Int32)) hx hb dX12_whyTurn_23 (by decide) ?_
  refine lv_goto (tgt := 41) hx hb dX12_whyTurn_24 (by decide) ?_
  obtain ⟨e1, e2⟩ := pr_inj hf
  subst e1 e2
  exact m_iret C h dX12_whyTurn_41

set_option maxHeartbeats 4000000 in
set_option maxRecDepth 100000 in
theorem qX12_whyTurn {l : Launch} {D : va_G} {cs : Nat → ClassId} {ad : Nat → Nat} {r : Int32} {g' : MS} {g : MS}  {a0 : Int64} {a1 : Int64} (hf : fX12_whyTurn g a0 a1 = some (r, g')) : GCon l D cs yX12_whyTurn cX12_whyTurn 5 (some .int) (rM 2) 0 0 [.ref (ad 48), .long a0, .long a1] (MW cs ad g) (some (.int r)) (MW cs ad g') := by
  refine GCon.of (by decide) (Nat.le_of_ble_eq_true rfl) ?_
  intro p e s m args below meth c A ls H locs C h hl
  have hx := C.1
  have hb := C.2.1
  have C : MCx p s m args meth c A RX12 cX12_whyTurn 5 (some .int) D cs := C
  have hl : lv_has ls 5 [(0, .ref (ad 48)), (1, .long a0), (3, .long a1)] := hl
  unfold fX12_whyTurn at hf
  refine lv_aload_n hx hb dX12_whyTurn_0 rfl (lv_at hl 0 rfl) ?_
  refine lv_lload_n hx hb dX12_whyTurn_1 rfl (lv_at hl 1 rfl) ?_
  replace hf := bndc_some hf
  obtain ⟨x1, g2, hc, hf⟩ := hf
  refine m_callVi [.long a0] C h cv_X12_319 (qX12_isMember hc) rfl ⟨rfl, rfl⟩ ⟨Nat.le_of_ble_eq_true rfl, Nat.le_of_ble_eq_true rfl⟩ (m_recv C h) hl.1 rfl (Nat.le_of_ble_eq_true rfl) ⟨Nat.le_refl _, Nat.le_refl _⟩ dX12_whyTurn_2 (fun H locs h => ?_)
  clear hc
  refine lv_if_eq (tgt := 23) hx hb dX12_whyTurn_5 (by decide) (fun hq => ?_) (fun hq => ?_)
  · replace hf := if_t hq hf
    clear hq
    exact wX12_whyTurn_23 C g2 hf H locs ls h (lv_sub hl [] rfl)
  · replace hf := if_f hq hf
    clear hq
    refine lv_lload_n hx hb dX12_whyTurn_8 rfl (lv_at hl 2 rfl) ?_
    refine lv_lconst (v := (1 : Int64)) hx hb dX12_whyTurn_9 rfl ?_
    refine lv_aload_n hx hb dX12_whyTurn_10 rfl (lv_at hl 0 rfl) ?_
    replace hf := bndc_some hf
    obtain ⟨x3, g4, hc, hf⟩ := hf
    refine m_callVi [] C h cv_X12_254 (qX12_size hc) rfl ⟨rfl, rfl⟩ ⟨Nat.le_of_ble_eq_true rfl, Nat.le_of_ble_eq_true rfl⟩ (m_recv C h) hl.1 rfl (Nat.le_of_ble_eq_true rfl) ⟨Nat.le_refl _, Nat.le_refl _⟩ dX12_whyTurn_11 (fun H locs h => ?_)
    clear hc
    refine lv_iconst (v := (1 : Int32)) hx hb dX12_whyTurn_14 (by decide) ?_
    refine lv_isub hx hb dX12_whyTurn_15 ?_
    refine lv_i2l hx hb dX12_whyTurn_16 rfl ?_
    replace hf := bndv_some hf
    obtain ⟨x5, hc, hf⟩ := hf
    refine m_callSi [.long a1, .long (1 : Int64), .long ((x3 - (1 : Int32)).toInt64)] C h cs_X12_147 (qX12_within hc) rfl ⟨rfl, rfl⟩ ⟨Nat.le_of_ble_eq_true rfl, Nat.le_of_ble_eq_true rfl⟩ hl.1 rfl (Nat.le_of_ble_eq_true rfl) ⟨Nat.le_refl _, Nat.le_refl _⟩ dX12_whyTurn_17 (fun H locs h => ?_)
    clear hc
    refine lv_if_ne (tgt := 27) hx hb dX12_whyTurn_20 (by decide) (fun hq => ?_) (fun hq => ?_)
    · replace hf := if_tn hq hf
      clear hq
      refine lv_aload_n hx hb dX12_whyTurn_27 rfl (lv_at hl 0 rfl) ?_
      refine lv_lload_n hx hb dX12_whyTurn_28 rfl (lv_at hl 1 rfl) ?_
      refine lv_l2i hx hb dX12_whyTurn_29 rfl ?_
      replace hf := bndc_some hf
      obtain ⟨x6, g7, hc, hf⟩ := hf
      refine m_callVi [.int a0.toInt32] C h cv_X12_287 (qX12_isStuck hc) rfl ⟨rfl, rfl⟩ ⟨Nat.le_of_ble_eq_true rfl, Nat.le_of_ble_eq_true rfl⟩ (m_recv C h) hl.1 rfl (Nat.le_of_ble_eq_true rfl) ⟨Nat.le_refl _, Nat.le_refl _⟩ dX12_whyTurn_30 (fun H locs h => ?_)
      clear hc
      refine lv_if_eq (tgt := 40) hx hb dX12_whyTurn_33 (by decide) (fun hq => ?_) (fun hq => ?_)
      · replace hf := if_t hq hf
        clear hq
        refine lv_iconst (v := (0 : Int32)) hx hb dX12_whyTurn_40 (by decide) ?_
        obtain ⟨e1, e2⟩ := pr_inj hf
        subst e1 e2
        exact m_iret C h dX12_whyTurn_41
      · replace hf := if_f hq hf
        clear hq
        refine lv_iconst (v := (2 : Int32)) hx hb dX12_whyTurn_36 (by decide) ?_
        refine lv_goto (tgt := 41) hx hb dX12_whyTurn_37 (by decide) ?_
        obtain ⟨e1, e2⟩ := pr_inj hf
        subst e1 e2
        exact m_iret C h dX12_whyTurn_41
    · replace hf := if_t hq hf
      clear hq
      exact wX12_whyTurn_23 C g4 hf H locs ls h (lv_sub hl [] rfl)

set_option maxHeartbeats 4000000 in
set_option maxRecDepth 100000 in
theorem wX12_turnsBy_9 (C : MCx p s m args meth c A RX12 cX12_turnsBy 5 none D cs)  {g' : MS}  : ∀ (n : Nat) (g : MS) (y2 : Int32) (y3 : Int32) (y4 : Int32), fX12_turnsBy_9 n g y2 y3 y4 = some g' → ∀ (H : Heap) (locs : List Loc) (ls : Array Slot), MH D (MW cs ad g) A s H locs → lv_has ls 5 [(0, .ref (ad 48)), (2, .int y2), (3, .int y3), (4, .int y4)] → W p l e (rM 6) s m args below meth c H locs 0 0 (MQ below (GPost D none (MW cs ad g') A) args s 0 0 A) (F0 m 9 ls []) := by
  have hx := C.1
  have hb := C.2.1
  intro n
  induction n with
  | zero =>
    intro g y2 y3 y4 hf
    exact absurd hf (by simp [fX12_turnsBy_9])
  | succ n ih =>
    intro g y2 y3 y4 hf H locs ls h hl
    rw [fX12_turnsBy_9] at hf
    refine lv_iload hx hb dX12_turnsBy_9 (lv_at hl 3 rfl) ?_
    refine lv_aload_n hx hb dX12_turnsBy_11 rfl (lv_at hl 0 rfl) ?_
    replace hf := bndc_some hf
    obtain ⟨x1, g2, hc, hf⟩ := hf
    refine m_callVi [] C h cv_X12_254 (qX12_size hc) rfl ⟨rfl, rfl⟩ ⟨Nat.le_of_ble_eq_true rfl, Nat.le_of_ble_eq_true rfl⟩ (m_recv C h) hl.1 rfl (Nat.le_of_ble_eq_true rfl) ⟨Nat.le_refl _, Nat.le_refl _⟩ dX12_turnsBy_12 (fun H locs h => ?_)
    clear hc
    refine lv_icmp_ge (tgt := 60) hx hb dX12_turnsBy_15 (by decide) (fun hq => ?_) (fun hq => ?_)
    · replace hf := if_t hq hf
      clear hq
      have e1 := Option.some.inj hf
      subst e1
      exact m_vret C h dX12_turnsBy_60
    · replace hf := if_f hq hf
      clear hq
      refine lv_iload_n hx hb dX12_turnsBy_18 rfl (lv_at hl 2 rfl) ?_
      refine lv_iload hx hb dX12_turnsBy_19 (lv_at hl 3 rfl) ?_
      replace hf := bndv_some hf
      obtain ⟨x3, hc, hf⟩ := hf
      refine m_callSi [.int y3, .int y4] C h cs_X12_257 (qX12_has hc) rfl ⟨rfl, rfl⟩ ⟨Nat.le_of_ble_eq_true rfl, Nat.le_of_ble_eq_true rfl⟩ hl.1 rfl (Nat.le_of_ble_eq_true rfl) ⟨Nat.le_refl _, Nat.le_refl _⟩ dX12_turnsBy_21 (fun H locs h => ?_)
      clear hc
      refine lv_if_eq (tgt := 54) hx hb dX12_turnsBy_24 (by decide) (fun hq => ?_) (fun hq => ?_)
      · replace hf := if_t hq hf
        clear hq
        obtain ⟨x4, ex4⟩ : ∃ z : Int32, z = y4 + (1 : Int32) := ⟨_, rfl⟩
        replace hf := bnd_at ex4 hf
        refine lv_iinc (v := x4) (lv' := [(4, .int x4), (0, .ref (ad 48)), (2, .int y2), (3, .int y3)]) hx hb dX12_turnsBy_54 hl (k := 3) rfl (by rw [ex4]; rfl) (by decide) rfl (fun ls hl => ?_)
        clear ex4
        refine lv_goto (tgt := 9) hx hb dX12_turnsBy_57 (by decide) ?_
        exact ih g2 y2 y3 x4 hf H locs ls h (lv_sub hl [1, 2, 3, 0] rfl)
      · replace hf := if_f hq hf
        clear hq
        refine lv_aload_n hx hb dX12_turnsBy_27 rfl (lv_at hl 0 rfl) ?_
        refine mg_0 C h dX12_turnsBy_28 ?_
        refine lv_bipush (v := (6 : Int32)) hx hb dX12_turnsBy_31 (by decide) ?_
        refine lv_iload hx hb dX12_turnsBy_33 (lv_at hl 3 rfl) ?_
        refine lv_iadd hx hb dX12_turnsBy_35 ?_
        refine lv_aload_n hx hb dX12_turnsBy_36 rfl (lv_at hl 0 rfl) ?_
        refine mg_0 C h dX12_turnsBy_37 ?_
        refine lv_bipush (v := (6 : Int32)) hx hb dX12_turnsBy_40 (by decide) ?_
        refine lv_iload hx hb dX12_turnsBy_42 (lv_at hl 3 rfl) ?_
        refine lv_iadd hx hb dX12_turnsBy_44 ?_
        replace hf := chk_some hf
        obtain ⟨hq, hf⟩ := hf
        refine ml_0 C h hq dX12_turnsBy_45 ?_
        clear hq
        refine lv_iload_n hx hb dX12_turnsBy_46 rfl (lv_at hl 1 rfl) ?_
        refine lv_iadd hx hb dX12_turnsBy_47 ?_
        refine lv_aload_n hx hb dX12_turnsBy_48 rfl (lv_at hl 0 rfl) ?_
        replace hf := bndc_some hf
        obtain ⟨x5, g6, hc, hf⟩ := hf
        refine m_callVi [] C h cv_X12_254 (qX12_size hc) rfl ⟨rfl, rfl⟩ ⟨Nat.le_of_ble_eq_true rfl, Nat.le_of_ble_eq_true rfl⟩ (m_recv C h) hl.1 rfl (Nat.le_of_ble_eq_true rfl) ⟨Nat.le_refl _, Nat.le_refl _⟩ dX12_turnsBy_49 (fun H locs h => ?_)
        clear hc
        replace hf := chk_some hf
        obtain ⟨hq, hf⟩ := hf
        refine x_irem hx hb dX12_turnsBy_52 (nz_ne hq) ?_
        clear hq
        replace hf := chk_some hf
        obtain ⟨hq, hf⟩ := hf
        replace hf := bnd_ex hf
        obtain ⟨g7, eg7, hf⟩ := hf
        refine ms_0 C h hq dX12_turnsBy_53 (fun H locs h => ?_)
        rw [← eg7] at h
        clear hq eg7
        obtain ⟨x8, ex8⟩ : ∃ z : Int32, z = y4 + (1 : Int32) := ⟨_, rfl⟩
        replace hf := bnd_at ex8 hf
        refine lv_iinc (v := x8) (lv' := [(4, .int x8), (0, .ref (ad 48)), (2, .int y2), (3, .int y3)]) hx hb dX12_turnsBy_54 hl (k := 3) rfl (by rw [ex8]; rfl) (by decide) rfl (fun ls hl => ?_)
        clear ex8
        refine lv_goto (tgt := 9) hx hb dX12_turnsBy_57 (by decide) ?_
        exact ih g7 y2 y3 x8 hf H locs ls h (lv_sub hl [1, 2, 3, 0] rfl)

set_option maxHeartbeats 4000000 in
set_option maxRecDepth 100000 in
theorem qX12_turnsBy {l : Launch} {D : va_G} {cs : Nat → ClassId} {ad : Nat → Nat} {g' : MS} {g : MS}  {a0 : Int32} {a1 : Int32} (hf : fX12_turnsBy g a0 a1 = some g') : GCon l D cs yX12_turnsBy cX12_turnsBy 5 none (rM 6) 0 0 [.ref (ad 48), .int a0, .int a1] (MW cs ad g) none (MW cs ad g') := by
  refine GCon.of (by decide) (Nat.le_of_ble_eq_true rfl) ?_
  intro p e s m args below meth c A ls H locs C h hl
  have hx := C.1
  have hb := C.2.1
  have C : MCx p s m args meth c A RX12 cX12_turnsBy 5 none D cs := C
  have hl : lv_has ls 5 [(0, .ref (ad 48)), (1, .int a0), (2, .int a1)] := hl
  unfold fX12_turnsBy at hf
  refine lv_aload_n hx hb dX12_turnsBy_0 rfl (lv_at hl 0 rfl) ?_
  refine lv_iload_n hx hb dX12_turnsBy_1 rfl (lv_at hl 1 rfl) ?_
  replace hf := bndc_some hf
  obtain ⟨x9, g10, hc, hf⟩ := hf
  refine m_callVi [.int a0] C h cv_X12_331 (qX12_draggedBy hc) rfl ⟨rfl, rfl⟩ ⟨Nat.le_of_ble_eq_true rfl, Nat.le_of_ble_eq_true rfl⟩ (m_recv C h) hl.1 rfl (Nat.le_of_ble_eq_true rfl) ⟨Nat.le_refl _, Nat.le_refl _⟩ dX12_turnsBy_2 (fun H locs h => ?_)
  clear hc
  refine lv_istore_n (lv' := [(3, .int x9), (0, .ref (ad 48)), (1, .int a0), (2, .int a1)]) hx hb dX12_turnsBy_5 rfl hl (by decide) rfl (fun ls hl => ?_)
  refine lv_iconst (v := (0 : Int32)) hx hb dX12_turnsBy_6 (by decide) ?_
  refine lv_istore (lv' := [(4, .int (0 : Int32)), (3, .int x9), (0, .ref (ad 48)), (1, .int a0), (2, .int a1)]) hx hb dX12_turnsBy_7 hl (by decide) rfl (fun ls hl => ?_)
  exact wX12_turnsBy_9 C fuel g10 a1 x9 (0 : Int32) hf H locs ls h (lv_sub hl [2, 4, 1, 0] rfl)

set_option maxHeartbeats 4000000 in
set_option maxRecDepth 100000 in
theorem wX12_minuteNow_10 (C : MCx p s m args meth c A RX12 cX12_minuteNow 2 none D cs)  {g' : MS}  : ∀ (n : Nat) (g : MS) (y1 : Int32), fX12_minuteNow_10 n g y1 = some g' → ∀ (H : Heap) (locs : List Loc) (ls : Array Slot), MH D (MW cs ad g) A s H locs → lv_has ls 2 [(0, .ref (ad 48)), (1, .int y1)] → W p l e (rM 6) s m args below meth c H locs 0 0 (MQ below (GPost D none (MW cs ad g') A) args s 0 0 A) (F0 m 10 ls []) := by
  have hx := C.1
  have hb := C.2.1
  intro n
  induction n with
  | zero =>
    intro g y1 hf
    exact absurd hf (by simp [fX12_minuteNow_10])
  | succ n ih =>
    intro g y1 hf H locs ls h hl
    rw [fX12_minuteNow_10] at hf
    refine lv_iload_n hx hb dX12_minuteNow_10 rfl (lv_at hl 1 rfl) ?_
    refine lv_aload_n hx hb dX12_minuteNow_11 rfl (lv_at hl 0 rfl) ?_
    replace hf := bndc_some hf
    obtain ⟨x1, g2, hc, hf⟩ := hf
    refine m_callVi [] C h cv_X12_254 (qX12_size hc) rfl ⟨rfl, rfl⟩ ⟨Nat.le_of_ble_eq_true rfl, Nat.le_of_ble_eq_true rfl⟩ (m_recv C h) hl.1 rfl (Nat.le_of_ble_eq_true rfl) ⟨Nat.le_refl _, Nat.le_refl _⟩ dX12_minuteNow_12 (fun H locs h => ?_)
    clear hc
    refine lv_icmp_ge (tgt := 39) hx hb dX12_minuteNow_15 (by decide) (fun hq => ?_) (fun hq => ?_)
    · replace hf := if_t hq hf
      clear hq
      have e1 := Option.some.inj hf
      subst e1
      exact m_vret C h dX12_minuteNow_39
    · replace hf := if_f hq hf
      clear hq
      refine lv_aload_n hx hb dX12_minuteNow_18 rfl (lv_at hl 0 rfl) ?_
      refine mg_0 C h dX12_minuteNow_19 ?_
      refine lv_bipush (v := (6 : Int32)) hx hb dX12_minuteNow_22 (by decide) ?_
      refine lv_iload_n hx hb dX12_minuteNow_24 rfl (lv_at hl 1 rfl) ?_
      refine lv_iadd hx hb dX12_minuteNow_25 ?_
      refine lv_aload_n hx hb dX12_minuteNow_26 rfl (lv_at hl 0 rfl) ?_
      refine mg_21 C h dX12_minuteNow_27 ?_
      refine lv_iload_n hx hb dX12_minuteNow_30 rfl (lv_at hl 1 rfl) ?_
      replace hf := chk_some hf
      obtain ⟨hq, hf⟩ := hf
      refine ml_21 C h hq dX12_minuteNow_31 ?_
      clear hq
      replace hf := chk_some hf
      obtain ⟨hq, hf⟩ := hf
      replace hf := bnd_ex hf
      obtain ⟨g3, eg3, hf⟩ := hf
      refine ms_0 C h hq dX12_minuteNow_32 (fun H locs h => ?_)
      rw [← eg3] at h
      clear hq eg3
      obtain ⟨x4, ex4⟩ : ∃ z : Int32, z = y1 + (1 : Int32) := ⟨_, rfl⟩
      replace hf := bnd_at ex4 hf
      refine lv_iinc (v := x4) (lv' := [(1, .int x4), (0, .ref (ad 48))]) hx hb dX12_minuteNow_33 hl (k := 1) rfl (by rw [ex4]; rfl) (by decide) rfl (fun ls hl => ?_)
      clear ex4
      refine lv_goto (tgt := 10) hx hb dX12_minuteNow_36 (by decide) ?_
      exact ih g3 x4 hf H locs ls h (lv_sub hl [1, 0] rfl)

set_option maxHeartbeats 4000000 in
set_option maxRecDepth 100000 in
theorem qX12_minuteNow {l : Launch} {D : va_G} {cs : Nat → ClassId} {ad : Nat → Nat} {g' : MS} {g : MS}  (hf : fX12_minuteNow g = some g') : GCon l D cs yX12_minuteNow cX12_minuteNow 2 none (rM 6) 0 0 [.ref (ad 48)] (MW cs ad g) none (MW cs ad g') := by
  refine GCon.of (by decide) (Nat.le_of_ble_eq_true rfl) ?_
  intro p e s m args below meth c A ls H locs C h hl
  have hx := C.1
  have hb := C.2.1
  have C : MCx p s m args meth c A RX12 cX12_minuteNow 2 none D cs := C
  have hl : lv_has ls 2 [(0, .ref (ad 48))] := hl
  unfold fX12_minuteNow at hf
  refine lv_aload_n hx hb dX12_minuteNow_0 rfl (lv_at hl 0 rfl) ?_
  replace hf := bndv_some hf
  obtain ⟨g5, hc, hf⟩ := hf
  refine m_callVv [] C h cv_X12_310 (qX12_aimsNow hc) rfl ⟨rfl, rfl⟩ ⟨Nat.le_of_ble_eq_true rfl, Nat.le_of_ble_eq_true rfl⟩ (m_recv C h) hl.1 rfl (Nat.le_of_ble_eq_true rfl) ⟨Nat.le_refl _, Nat.le_refl _⟩ dX12_minuteNow_1 (fun H locs h => ?_)
  clear hc
  refine lv_aload_n hx hb dX12_minuteNow_4 rfl (lv_at hl 0 rfl) ?_
  replace hf := bndv_some hf
  obtain ⟨g6, hc, hf⟩ := hf
  refine m_callVv [] C h cv_X12_334 (qX12_minute hc) rfl ⟨rfl, rfl⟩ ⟨Nat.le_of_ble_eq_true rfl, Nat.le_of_ble_eq_true rfl⟩ (m_recv C h) hl.1 rfl (Nat.le_of_ble_eq_true rfl) ⟨Nat.le_refl _, Nat.le_refl _⟩ dX12_minuteNow_5 (fun H locs h => ?_)
  clear hc
  refine lv_iconst (v := (0 : Int32)) hx hb dX12_minuteNow_8 (by decide) ?_
  refine lv_istore_n (lv' := [(1, .int (0 : Int32)), (0, .ref (ad 48))]) hx hb dX12_minuteNow_9 rfl hl (by decide) rfl (fun ls hl => ?_)
  exact wX12_minuteNow_10 C fuel g6 (0 : Int32) hf H locs ls h (lv_sub hl [1, 0] rfl)

set_option maxHeartbeats 4000000 in
set_option maxRecDepth 100000 in
theorem qX12_turn {l : Launch} {D : va_G} {cs : Nat → ClassId} {ad : Nat → Nat} {r : Int32} {g' : MS} {g : MS}  {a0 : Int32} {a1 : Int32} (hf : fX12_turn g a0 a1 = some (r, g')) : GCon l D cs yX12_turn cX12_turn 4 (some .int) (rM 7) 0 0 [.ref (ad 48), .int a0, .int a1] (MW cs ad g) (some (.int r)) (MW cs ad g') := by
  refine GCon.of (by decide) (Nat.le_of_ble_eq_true rfl) ?_
  intro p e s m args below meth c A ls H locs C h hl
  have hx := C.1
  have hb := C.2.1
  have C : MCx p s m args meth c A RX12 cX12_turn 4 (some .int) D cs := C
  have hl : lv_has ls 4 [(0, .ref (ad 48)), (1, .int a0), (2, .int a1)] := hl
  unfold fX12_turn at hf
  refine lv_aload_n hx hb dX12_turn_0 rfl (lv_at hl 0 rfl) ?_
  refine lv_iconst (v := (0 : Int32)) hx hb dX12_turn_1 (by decide) ?_
  replace hf := bnd_ex hf
  obtain ⟨g1, eg1, hf⟩ := hf
  refine mp_4 C h dX12_turn_2 (fun H locs h => ?_)
  rw [← eg1] at h
  clear eg1
  refine lv_aload_n hx hb dX12_turn_5 rfl (lv_at hl 0 rfl) ?_
  refine lv_iload_n hx hb dX12_turn_6 rfl (lv_at hl 1 rfl) ?_
  refine lv_i2l hx hb dX12_turn_7 rfl ?_
  refine lv_iload_n hx hb dX12_turn_8 rfl (lv_at hl 2 rfl) ?_
  refine lv_i2l hx hb dX12_turn_9 rfl ?_
  replace hf := bndc_some hf
  obtain ⟨x2, g3, hc, hf⟩ := hf
  refine m_callVi [.long a0.toInt64, .long a1.toInt64] C h cv_X12_337 (qX12_whyTurn hc) rfl ⟨rfl, rfl⟩ ⟨Nat.le_of_ble_eq_true rfl, Nat.le_of_ble_eq_true rfl⟩ (m_recv C h) hl.1 rfl (Nat.le_of_ble_eq_true rfl) ⟨Nat.le_refl _, Nat.le_refl _⟩ dX12_turn_10 (fun H locs h => ?_)
  clear hc
  refine lv_istore_n (lv' := [(3, .int x2), (0, .ref (ad 48)), (1, .int a0), (2, .int a1)]) hx hb dX12_turn_13 rfl hl (by decide) rfl (fun ls hl => ?_)
  refine lv_iload_n hx hb dX12_turn_14 rfl (lv_at hl 0 rfl) ?_
  refine lv_if_eq (tgt := 21) hx hb dX12_turn_15 (by decide) (fun hq => ?_) (fun hq => ?_)
  · replace hf := if_t hq hf
    clear hq
    refine lv_aload_n hx hb dX12_turn_21 rfl (lv_at hl 1 rfl) ?_
    replace hf := bndv_some hf
    obtain ⟨g4, hc, hf⟩ := hf
    refine m_callVv [] C h cv_X12_341 (qX12_keeps hc) rfl ⟨rfl, rfl⟩ ⟨Nat.le_of_ble_eq_true rfl, Nat.le_of_ble_eq_true rfl⟩ (m_recv C h) hl.1 rfl (Nat.le_of_ble_eq_true rfl) ⟨Nat.le_refl _, Nat.le_refl _⟩ dX12_turn_22 (fun H locs h => ?_)
    clear hc
    refine lv_aload_n hx hb dX12_turn_25 rfl (lv_at hl 1 rfl) ?_
    refine lv_iload_n hx hb dX12_turn_26 rfl (lv_at hl 2 rfl) ?_
    refine lv_iload_n hx hb dX12_turn_27 rfl (lv_at hl 3 rfl) ?_
    replace hf := bndv_some hf
    obtain ⟨g5, hc, hf⟩ := hf
    refine m_callVv [.int a0, .int a1] C h cv_X12_344 (qX12_turnsBy hc) rfl ⟨rfl, rfl⟩ ⟨Nat.le_of_ble_eq_true rfl, Nat.le_of_ble_eq_true rfl⟩ (m_recv C h) hl.1 rfl (Nat.le_of_ble_eq_true rfl) ⟨Nat.le_refl _, Nat.le_refl _⟩ dX12_turn_28 (fun H locs h => ?_)
    clear hc
    refine lv_iload_n hx hb dX12_turn_31 rfl (lv_at hl 3 rfl) ?_
    refine lv_aload_n hx hb dX12_turn_32 rfl (lv_at hl 1 rfl) ?_
    refine lv_iload_n hx hb dX12_turn_33 rfl (lv_at hl 2 rfl) ?_
    replace hf := bndc_some hf
    obtain ⟨x6, g7, hc, hf⟩ := hf
    refine m_callVi [.int a0] C h cv_X12_325 (qX12_notchCosts hc) rfl ⟨rfl, rfl⟩ ⟨Nat.le_of_ble_eq_true rfl, Nat.le_of_ble_eq_true rfl⟩ (m_recv C h) hl.1 rfl (Nat.le_of_ble_eq_true rfl) ⟨Nat.le_refl _, Nat.le_refl _⟩ dX12_turn_34 (fun H locs h => ?_)
    clear hc
    refine lv_imul hx hb dX12_turn_37 ?_
    obtain ⟨e1, e2⟩ := pr_inj hf
    subst e1 e2
    exact m_iret C h dX12_turn_38
  · replace hf := if_f hq hf
    clear hq
    refine lv_iload_n hx hb dX12_turn_18 rfl (lv_at hl 0 rfl) ?_
    refine lv_ineg hx hb dX12_turn_19 ?_
    obtain ⟨e1, e2⟩ := pr_inj hf
    subst e1 e2
    exact m_iret C h dX12_turn_20

set_option maxHeartbeats 4000000 in
set_option maxRecDepth 100000 in
theorem qX12_weigh {l : Launch} {D : va_G} {cs : Nat → ClassId} {ad : Nat → Nat} {r : Int32} {g' : MS} {g : MS}  {a0 : Int32} {a1 : Int32} (hf : fX12_weigh g a0 a1 = some (r, g')) : GCon l D cs yX12_weigh cX12_weigh 4 (some .int) (rM 2) 0 0 [.ref (ad 48), .int a0, .int a1] (MW cs ad g) (some (.int r)) (MW cs ad g') := by
  refine GCon.of (by decide) (Nat.le_of_ble_eq_true rfl) ?_
  intro p e s m args below meth c A ls H locs C h hl
  have hx := C.1
  have hb := C.2.1
  have C : MCx p s m args meth c A RX12 cX12_weigh 4 (some .int) D cs := C
  have hl : lv_has ls 4 [(0, .ref (ad 48)), (1, .int a0), (2, .int a1)] := hl
  unfold fX12_weigh at hf
  refine lv_aload_n hx hb dX12_weigh_0 rfl (lv_at hl 0 rfl) ?_
  refine lv_iconst (v := (0 : Int32)) hx hb dX12_weigh_1 (by decide) ?_
  replace hf := bnd_ex hf
  obtain ⟨g1, eg1, hf⟩ := hf
  refine mp_4 C h dX12_weigh_2 (fun H locs h => ?_)
  rw [← eg1] at h
  clear eg1
  refine lv_aload_n hx hb dX12_weigh_5 rfl (lv_at hl 0 rfl) ?_
  refine lv_iload_n hx hb dX12_weigh_6 rfl (lv_at hl 1 rfl) ?_
  refine lv_i2l hx hb dX12_weigh_7 rfl ?_
  replace hf := bndc_some hf
  obtain ⟨x2, g3, hc, hf⟩ := hf
  refine m_callVi [.long a0.toInt64] C h cv_X12_319 (qX12_isMember hc) rfl ⟨rfl, rfl⟩ ⟨Nat.le_of_ble_eq_true rfl, Nat.le_of_ble_eq_true rfl⟩ (m_recv C h) hl.1 rfl (Nat.le_of_ble_eq_true rfl) ⟨Nat.le_refl _, Nat.le_refl _⟩ dX12_weigh_8 (fun H locs h => ?_)
  clear hc
  refine lv_if_eq (tgt := 26) hx hb dX12_weigh_11 (by decide) (fun hq => ?_) (fun hq => ?_)
  · replace hf := if_t hq hf
    clear hq
    refine lv_iconst (v := (-1 : Int32)) hx hb dX12_weigh_26 (by decide) ?_
    obtain ⟨e1, e2⟩ := pr_inj hf
    subst e1 e2
    exact m_iret C h dX12_weigh_27
  · replace hf := if_f hq hf
    clear hq
    refine lv_iload_n hx hb dX12_weigh_14 rfl (lv_at hl 2 rfl) ?_
    refine lv_i2l hx hb dX12_weigh_15 rfl ?_
    refine lv_lconst (v := (1 : Int64)) hx hb dX12_weigh_16 rfl ?_
    refine lv_ldc2 hx hb C.2.2.2.1 (C.2.2.2.2.1 _ tb_36_5) dX12_weigh_17 ?_
    replace hf := bndv_some hf
    obtain ⟨x4, hc, hf⟩ := hf
    refine m_callSi [.long a1.toInt64, .long (1 : Int64), .long (9 : Int64)] C h cs_X12_147 (qX12_within hc) rfl ⟨rfl, rfl⟩ ⟨Nat.le_of_ble_eq_true rfl, Nat.le_of_ble_eq_true rfl⟩ hl.1 rfl (Nat.le_of_ble_eq_true rfl) ⟨Nat.le_refl _, Nat.le_refl _⟩ dX12_weigh_20 (fun H locs h => ?_)
    clear hc
    refine lv_if_ne (tgt := 28) hx hb dX12_weigh_23 (by decide) (fun hq => ?_) (fun hq => ?_)
    · replace hf := if_tn hq hf
      clear hq
      refine lv_aload_n hx hb dX12_weigh_28 rfl (lv_at hl 0 rfl) ?_
      replace hf := bndv_some hf
      obtain ⟨g5, hc, hf⟩ := hf
      refine m_callVv [] C h cv_X12_341 (qX12_keeps hc) rfl ⟨rfl, rfl⟩ ⟨Nat.le_of_ble_eq_true rfl, Nat.le_of_ble_eq_true rfl⟩ (m_recv C h) hl.1 rfl (Nat.le_of_ble_eq_true rfl) ⟨Nat.le_refl _, Nat.le_refl _⟩ dX12_weigh_29 (fun H locs h => ?_)
      clear hc
      refine lv_aload_n hx hb dX12_weigh_32 rfl (lv_at hl 0 rfl) ?_
      refine mg_0 C h dX12_weigh_33 ?_
      refine lv_bipush (v := (12 : Int32)) hx hb dX12_weigh_36 (by decide) ?_
      refine lv_iload_n hx hb dX12_weigh_38 rfl (lv_at hl 1 rfl) ?_
      refine lv_iadd hx hb dX12_weigh_39 ?_
      replace hf := chk_some hf
      obtain ⟨hq, hf⟩ := hf
      refine ml_0 C h hq dX12_weigh_40 ?_
      clear hq
      refine lv_topi (fun x6 ex6 => ?_)
      replace hf := bnd_at ex6 hf
      clear ex6
      refine lv_istore_n (lv' := [(3, .int x6), (0, .ref (ad 48)), (1, .int a0), (2, .int a1)]) hx hb dX12_weigh_41 rfl hl (by decide) rfl (fun ls hl => ?_)
      refine lv_aload_n hx hb dX12_weigh_42 rfl (lv_at hl 1 rfl) ?_
      refine mg_0 C h dX12_weigh_43 ?_
      refine lv_bipush (v := (12 : Int32)) hx hb dX12_weigh_46 (by decide) ?_
      refine lv_iload_n hx hb dX12_weigh_48 rfl (lv_at hl 2 rfl) ?_
      refine lv_iadd hx hb dX12_weigh_49 ?_
      refine lv_iload_n hx hb dX12_weigh_50 rfl (lv_at hl 3 rfl) ?_
      replace hf := chk_some hf
      obtain ⟨hq, hf⟩ := hf
      replace hf := bnd_ex hf
      obtain ⟨g7, eg7, hf⟩ := hf
      refine ms_0 C h hq dX12_weigh_51 (fun H locs h => ?_)
      rw [← eg7] at h
      clear hq eg7
      refine lv_iload_n hx hb dX12_weigh_52 rfl (lv_at hl 0 rfl) ?_
      obtain ⟨e1, e2⟩ := pr_inj hf
      subst e1 e2
      exact m_iret C h dX12_weigh_53
    · replace hf := if_t hq hf
      clear hq
      refine lv_iconst (v := (-1 : Int32)) hx hb dX12_weigh_26 (by decide) ?_
      obtain ⟨e1, e2⟩ := pr_inj hf
      subst e1 e2
      exact m_iret C h dX12_weigh_27

set_option maxHeartbeats 4000000 in
set_option maxRecDepth 100000 in
theorem qX12_stick {l : Launch} {D : va_G} {cs : Nat → ClassId} {ad : Nat → Nat} {r : Int32} {g' : MS} {g : MS}  {a0 : Int32} (hf : fX12_stick g a0 = some (r, g')) : GCon l D cs yX12_stick cX12_stick 2 (some .int) (rM 2) 0 0 [.ref (ad 48), .int a0] (MW cs ad g) (some (.int r)) (MW cs ad g') := by
  refine GCon.of (by decide) (Nat.le_of_ble_eq_true rfl) ?_
  intro p e s m args below meth c A ls H locs C h hl
  have hx := C.1
  have hb := C.2.1
  have C : MCx p s m args meth c A RX12 cX12_stick 2 (some .int) D cs := C
  have hl : lv_has ls 2 [(0, .ref (ad 48)), (1, .int a0)] := hl
  unfold fX12_stick at hf
  refine lv_aload_n hx hb dX12_stick_0 rfl (lv_at hl 0 rfl) ?_
  refine lv_iconst (v := (0 : Int32)) hx hb dX12_stick_1 (by decide) ?_
  replace hf := bnd_ex hf
  obtain ⟨g1, eg1, hf⟩ := hf
  refine mp_4 C h dX12_stick_2 (fun H locs h => ?_)
  rw [← eg1] at h
  clear eg1
  refine lv_aload_n hx hb dX12_stick_5 rfl (lv_at hl 0 rfl) ?_
  refine lv_iload_n hx hb dX12_stick_6 rfl (lv_at hl 1 rfl) ?_
  refine lv_i2l hx hb dX12_stick_7 rfl ?_
  replace hf := bndc_some hf
  obtain ⟨x2, g3, hc, hf⟩ := hf
  refine m_callVi [.long a0.toInt64] C h cv_X12_319 (qX12_isMember hc) rfl ⟨rfl, rfl⟩ ⟨Nat.le_of_ble_eq_true rfl, Nat.le_of_ble_eq_true rfl⟩ (m_recv C h) hl.1 rfl (Nat.le_of_ble_eq_true rfl) ⟨Nat.le_refl _, Nat.le_refl _⟩ dX12_stick_8 (fun H locs h => ?_)
  clear hc
  refine lv_if_ne (tgt := 16) hx hb dX12_stick_11 (by decide) (fun hq => ?_) (fun hq => ?_)
  · replace hf := if_tn hq hf
    clear hq
    refine lv_aload_n hx hb dX12_stick_16 rfl (lv_at hl 0 rfl) ?_
    replace hf := bndv_some hf
    obtain ⟨g4, hc, hf⟩ := hf
    refine m_callVv [] C h cv_X12_341 (qX12_keeps hc) rfl ⟨rfl, rfl⟩ ⟨Nat.le_of_ble_eq_true rfl, Nat.le_of_ble_eq_true rfl⟩ (m_recv C h) hl.1 rfl (Nat.le_of_ble_eq_true rfl) ⟨Nat.le_refl _, Nat.le_refl _⟩ dX12_stick_17 (fun H locs h => ?_)
    clear hc
    refine lv_aload_n hx hb dX12_stick_20 rfl (lv_at hl 0 rfl) ?_
    refine mg_0 C h dX12_stick_21 ?_
    refine lv_bipush (v := (18 : Int32)) hx hb dX12_stick_24 (by decide) ?_
    refine lv_dup2_11 hx hb dX12_stick_26 rfl rfl ?_
    replace hf := chk_some hf
    obtain ⟨hq, hf⟩ := hf
    refine ml_0 C h hq dX12_stick_27 ?_
    clear hq
    refine lv_iconst (v := (1 : Int32)) hx hb dX12_stick_28 (by decide) ?_
    refine lv_iload_n hx hb dX12_stick_29 rfl (lv_at hl 1 rfl) ?_
    refine x_ishl hx hb dX12_stick_30 ?_
    refine lv_ixor hx hb dX12_stick_31 ?_
    replace hf := chk_some hf
    obtain ⟨hq, hf⟩ := hf
    replace hf := bnd_ex hf
    obtain ⟨g5, eg5, hf⟩ := hf
    refine ms_0 C h hq dX12_stick_32 (fun H locs h => ?_)
    rw [← eg5] at h
    clear hq eg5
    refine lv_aload_n hx hb dX12_stick_33 rfl (lv_at hl 0 rfl) ?_
    refine lv_iload_n hx hb dX12_stick_34 rfl (lv_at hl 1 rfl) ?_
    replace hf := bndc_some hf
    obtain ⟨x6, g7, hc, hf⟩ := hf
    refine m_callVi [.int a0] C h cv_X12_287 (qX12_isStuck hc) rfl ⟨rfl, rfl⟩ ⟨Nat.le_of_ble_eq_true rfl, Nat.le_of_ble_eq_true rfl⟩ (m_recv C h) hl.1 rfl (Nat.le_of_ble_eq_true rfl) ⟨Nat.le_refl _, Nat.le_refl _⟩ dX12_stick_35 (fun H locs h => ?_)
    clear hc
    refine lv_if_eq (tgt := 45) hx hb dX12_stick_38 (by decide) (fun hq => ?_) (fun hq => ?_)
    · replace hf := if_t hq hf
      clear hq
      refine lv_iconst (v := (0 : Int32)) hx hb dX12_stick_45 (by decide) ?_
      obtain ⟨e1, e2⟩ := pr_inj hf
      subst e1 e2
      exact m_iret C h dX12_stick_46
    · replace hf := if_f hq hf
      clear hq
      refine lv_iconst (v := (1 : Int32)) hx hb dX12_stick_41 (by decide) ?_
      refine lv_goto (tgt := 46) hx hb dX12_stick_42 (by decide) ?_
      obtain ⟨e1, e2⟩ := pr_inj hf
      subst e1 e2
      exact m_iret C h dX12_stick_46
  · replace hf := if_t hq hf
    clear hq
    refine lv_iconst (v := (-1 : Int32)) hx hb dX12_stick_14 (by decide) ?_
    obtain ⟨e1, e2⟩ := pr_inj hf
    subst e1 e2
    exact m_iret C h dX12_stick_15
end
