section
variable {p : Program} {l : Launch} {e : Env} {s : State} {m : MethodId} {args : Array Value} {below : List Frame} {meth : Method} {c : Code} {D : va_G} {cs : Nat → ClassId} {ad al adK adV : Nat → Nat} {P : PL} {A : Nat → Prop}
set_option maxHeartbeats 4000000 in
set_option maxRecDepth 100000 in
theorem wJ7_fill_031fb_5 (C : MCx p s m args meth c A RJ7 cJ7_fill_031fb 4 none D cs)  {g' : CS}  : ∀ (n : Nat) (g : CS) (y1 : Int32) (y2 : Int32) (y3 : Int32), fJ7_fill_031fb_5 P n g y1 y2 y3 = some g' → ∀ (H : Heap) (locs : List Loc) (ls : Array Slot), MH D (SW cs ad al P g) A s H locs → lv_has ls 4 [(0, .ref (ad 28)), (1, .int y1), (2, .int y2), (3, .int y3)] → W p l e (rM 0) s m args below meth c H locs 0 0 (MQ below (GPost D none (SW cs ad al P g') A) args s 0 0 A) (F0 m 5 ls []) := by
  have hx := C.1
  have hb := C.2.1
  intro n
  induction n with
  | zero =>
    intro g y1 y2 y3 hf
    exact absurd hf (by simp [fJ7_fill_031fb_5])
  | succ n ih =>
    intro g y1 y2 y3 hf H locs ls h hl
    rw [fJ7_fill_031fb_5] at hf
    refine lv_iload_n hx hb dJ7_fill_031fb_5 rfl (lv_at hl 2 rfl) ?_
    refine lv_iload_n hx hb dJ7_fill_031fb_6 rfl (lv_at hl 3 rfl) ?_
    refine lv_icmp_ge (tgt := 20) hx hb dJ7_fill_031fb_7 (by decide) (fun hq => ?_) (fun hq => ?_)
    · replace hf := if_t hq hf
      clear hq
      have e1 := Option.some.inj hf
      subst e1
      exact m_vret C h dJ7_fill_031fb_20
    · replace hf := if_f hq hf
      clear hq
      refine lv_aload_n hx hb dJ7_fill_031fb_10 rfl (lv_at hl 0 rfl) ?_
      refine lv_iload_n hx hb dJ7_fill_031fb_11 rfl (lv_at hl 2 rfl) ?_
      refine lv_iload_n hx hb dJ7_fill_031fb_12 rfl (lv_at hl 1 rfl) ?_
      replace hf := chk_some hf
      obtain ⟨hq, hf⟩ := hf
      replace hf := chk_some hf
      obtain ⟨hz, hf⟩ := hf
      replace hf := bnd_ex hf
      obtain ⟨g1, eg1, hf⟩ := hf
      refine ys_28 C h hq hz dJ7_fill_031fb_13 (fun H locs h => ?_)
      rw [← eg1] at h
      clear hq hz eg1
      obtain ⟨x2, ex2⟩ : ∃ z : Int32, z = y2 + (1 : Int32) := ⟨_, rfl⟩
      replace hf := bnd_at ex2 hf
      refine lv_iinc (v := x2) (lv' := [(2, .int x2), (0, .ref (ad 28)), (1, .int y1), (3, .int y3)]) hx hb dJ7_fill_031fb_14 hl (k := 2) rfl (by rw [ex2]; rfl) (by decide) rfl (fun ls hl => ?_)
      clear ex2
      refine lv_goto (tgt := 5) hx hb dJ7_fill_031fb_17 (by decide) ?_
      exact ih g1 y1 x2 y3 hf H locs ls h (lv_sub hl [1, 2, 0, 3] rfl)

set_option maxHeartbeats 4000000 in
set_option maxRecDepth 100000 in
theorem qJ7_fill_031fb {l : Launch} {D : va_G} {cs : Nat → ClassId} {ad al : Nat → Nat} {P : PL} {g' : CS} {g : CS}  {a1 : Int32} (hf : fJ7_fill_031fb P g a1 = some g') : GCon l D cs yJ7_fill_031fb cJ7_fill_031fb 4 none (rM 0) 0 0 [.ref (ad 28), .int a1] (SW cs ad al P g) none (SW cs ad al P g') := by
  refine GCon.of (by decide) (Nat.le_of_ble_eq_true rfl) ?_
  intro p e s m args below meth c A ls H locs C h hl
  have hx := C.1
  have hb := C.2.1
  have C : MCx p s m args meth c A RJ7 cJ7_fill_031fb 4 none D cs := C
  have hl : lv_has ls 4 [(0, .ref (ad 28)), (1, .int a1)] := hl
  unfold fJ7_fill_031fb at hf
  refine lv_iconst (v := (0 : Int32)) hx hb dJ7_fill_031fb_0 (by decide) ?_
  refine lv_istore_n (lv' := [(2, .int (0 : Int32)), (0, .ref (ad 28)), (1, .int a1)]) hx hb dJ7_fill_031fb_1 rfl hl (by decide) rfl (fun ls hl => ?_)
  refine lv_aload_n hx hb dJ7_fill_031fb_2 rfl (lv_at hl 1 rfl) ?_
  refine ya_28 (v := (2304 : Int32)) C h (by decide) dJ7_fill_031fb_3 ?_
  refine lv_istore_n (lv' := [(3, .int (2304 : Int32)), (2, .int (0 : Int32)), (0, .ref (ad 28)), (1, .int a1)]) hx hb dJ7_fill_031fb_4 rfl hl (by decide) rfl (fun ls hl => ?_)
  exact wJ7_fill_031fb_5 (P := P) C fuel g a1 (0 : Int32) (2304 : Int32) hf H locs ls h (lv_sub hl [2, 3, 1, 0] rfl)

set_option maxHeartbeats 4000000 in
set_option maxRecDepth 100000 in
theorem qX1_at {l : Launch} {D : va_G} {cs : Nat → ClassId} {r : Int32}  {a0 : Int32} {a1 : Int32} (hf : fX1_at a0 a1 = some r) : GCon l D cs yX1_at cX1_at 2 (some .int) (rM 0) 0 0 [.int a0, .int a1] [] (some (.int r)) [] := by
  refine GCon.of (by decide) (Nat.le_of_ble_eq_true rfl) ?_
  intro p e s m args below meth c A ls H locs C h hl
  have hx := C.1
  have hb := C.2.1
  have C : MCx p s m args meth c A RX1 cX1_at 2 (some .int) D cs := C
  have hl : lv_has ls 2 [(0, .int a0), (1, .int a1)] := hl
  unfold fX1_at at hf
  refine lv_iload_n hx hb dX1_at_0 rfl (lv_at hl 0 rfl) ?_
  refine lv_iload_n hx hb dX1_at_1 rfl (lv_at hl 1 rfl) ?_
  refine lv_iconst (v := (2 : Int32)) hx hb dX1_at_2 (by decide) ?_
  refine x_ishl hx hb dX1_at_3 ?_
  refine x_iushr hx hb dX1_at_4 ?_
  refine lv_bipush (v := (15 : Int32)) hx hb dX1_at_5 (by decide) ?_
  refine lv_iand hx hb dX1_at_7 ?_
  have e1 := Option.some.inj hf
  subst e1
  exact m_iret C h dX1_at_8

set_option maxHeartbeats 4000000 in
set_option maxRecDepth 100000 in
theorem qX4_bounded {l : Launch} {D : va_G} {cs : Nat → ClassId} {r : Int32}  {a0 : Int64} (hf : fX4_bounded a0 = some r) : GCon l D cs yX4_bounded cX4_bounded 2 (some .int) (rM 0) 0 0 [.long a0] [] (some (.int r)) [] := by
  refine GCon.of (by decide) (Nat.le_of_ble_eq_true rfl) ?_
  intro p e s m args below meth c A ls H locs C h hl
  have hx := C.1
  have hb := C.2.1
  have C : MCx p s m args meth c A RX4 cX4_bounded 2 (some .int) D cs := C
  have hl : lv_has ls 2 [(0, .long a0)] := hl
  unfold fX4_bounded at hf
  refine lv_lload_n hx hb dX4_bounded_0 rfl (lv_at hl 0 rfl) ?_
  refine lv_ldc2 hx hb C.2.2.2.1 (C.2.2.2.2.1 _ tb_28_4) dX4_bounded_1 ?_
  refine W.lcmp hx hb dX4_bounded_4 ?_
  refine lv_if_le (tgt := 11) hx hb dX4_bounded_5 (by decide) (fun hq => ?_) (fun hq => ?_)
  · replace hf := if_t hq hf
    clear hq
    refine lv_lload_n hx hb dX4_bounded_11 rfl (lv_at hl 0 rfl) ?_
    refine lv_ldc2 hx hb C.2.2.2.1 (C.2.2.2.2.1 _ tb_28_6) dX4_bounded_12 ?_
    refine W.lcmp hx hb dX4_bounded_15 ?_
    refine lv_if_ge (tgt := 24) hx hb dX4_bounded_16 (by decide) (fun hq => ?_) (fun hq => ?_)
    · replace hf := if_t hq hf
      clear hq
      refine lv_lload_n hx hb dX4_bounded_24 rfl (lv_at hl 0 rfl) ?_
      refine lv_l2i hx hb dX4_bounded_25 rfl ?_
      have e1 := Option.some.inj hf
      subst e1
      exact m_iret C h dX4_bounded_26
    · replace hf := if_f hq hf
      clear hq
      refine lv_ldc hx hb C.2.2.2.1 (C.2.2.2.2.1 _ tb_28_7) dX4_bounded_19 ?_
      refine lv_goto (tgt := 26) hx hb dX4_bounded_21 (by decide) ?_
      have e1 := Option.some.inj hf
      subst e1
      exact m_iret C h dX4_bounded_26
  · replace hf := if_f hq hf
    clear hq
    refine lv_ldc hx hb C.2.2.2.1 (C.2.2.2.2.1 _ tb_28_5) dX4_bounded_8 ?_
    have e1 := Option.some.inj hf
    subst e1
    exact m_iret C h dX4_bounded_10

set_option maxHeartbeats 4000000 in
set_option maxRecDepth 100000 in
theorem wX4_join_102 (C : MCx p s m args meth c A RX4 cX4_join 3 (some .long) D cs)  {r : Int64}  : ∀ (y1 : Int32) (y2 : Int32), fX4_join_102 y1 y2 = some r → ∀ (H : Heap) (locs : List Loc) (ls : Array Slot), MH D [] A s H locs → lv_has ls 3 [(1, .int y1), (2, .int y2)] → W p l e (rM 0) s m args below meth c H locs 0 0 (MQ below (GPost D (some (.long r)) [] A) args s 0 0 A) (F0 m 102 ls []) := by
  have hx := C.1
  have hb := C.2.1
  intro y1 y2 hf H locs ls h hl
  unfold fX4_join_102 at hf
  refine lv_iload_n hx hb dX4_join_102 rfl (lv_at hl 0 rfl) ?_
  refine lv_iload_n hx hb dX4_join_103 rfl (lv_at hl 1 rfl) ?_
  refine lv_ior hx hb dX4_join_104 ?_
  refine lv_i2l hx hb dX4_join_105 rfl ?_
  have e1 := Option.some.inj hf
  subst e1
  exact m_lret C h dX4_join_106

set_option maxHeartbeats 4000000 in
set_option maxRecDepth 100000 in
theorem qX4_join {l : Launch} {D : va_G} {cs : Nat → ClassId} {r : Int64}  {a0 : Int32} {a1 : Int32} {a2 : Int32} (hf : fX4_join a0 a1 a2 = some r) : GCon l D cs yX4_join cX4_join 3 (some .long) (rM 0) 0 0 [.int a0, .int a1, .int a2] [] (some (.long r)) [] := by
  refine GCon.of (by decide) (Nat.le_of_ble_eq_true rfl) ?_
  intro p e s m args below meth c A ls H locs C h hl
  have hx := C.1
  have hb := C.2.1
  have C : MCx p s m args meth c A RX4 cX4_join 3 (some .long) D cs := C
  have hl : lv_has ls 3 [(0, .int a0), (1, .int a1), (2, .int a2)] := hl
  unfold fX4_join at hf
  refine lv_iload_n hx hb dX4_join_0 rfl (lv_at hl 0 rfl) ?_
  rcases Decidable.em (a0 = (-12 : Int32)) with hq | qm12
  · replace hf := if_t hq hf
    subst hq
    refine lv_tableIn (off := 96) (tgt := 97) hx hb dX4_join_1 (by decide) (by decide) (by decide) (by decide) ?_
    refine lv_iload_n hx hb dX4_join_97 rfl (lv_at hl 1 rfl) ?_
    refine lv_iload_n hx hb dX4_join_98 rfl (lv_at hl 2 rfl) ?_
    refine lv_iand hx hb dX4_join_99 ?_
    refine lv_i2l hx hb dX4_join_100 rfl ?_
    have e1 := Option.some.inj hf
    subst e1
    exact m_lret C h dX4_join_101
  replace hf := if_f qm12 hf
  rcases Decidable.em (a0 = (-10 : Int32)) with hq | qm10
  · replace hf := if_t hq hf
    subst hq
    refine lv_tableIn (off := 85) (tgt := 86) hx hb dX4_join_1 (by decide) (by decide) (by decide) (by decide) ?_
    refine lv_iload_n hx hb dX4_join_86 rfl (lv_at hl 1 rfl) ?_
    refine lv_iload_n hx hb dX4_join_87 rfl (lv_at hl 2 rfl) ?_
    refine lv_icmp_le (tgt := 95) hx hb dX4_join_88 (by decide) (fun hq => ?_) (fun hq => ?_)
    · replace hf := if_t hq hf
      clear hq
      refine lv_lconst (v := (0 : Int64)) hx hb dX4_join_95 rfl ?_
      have e1 := Option.some.inj hf
      subst e1
      exact m_lret C h dX4_join_96
    · replace hf := if_f hq hf
      clear hq
      refine lv_lconst (v := (1 : Int64)) hx hb dX4_join_91 rfl ?_
      refine lv_goto (tgt := 96) hx hb dX4_join_92 (by decide) ?_
      have e1 := Option.some.inj hf
      subst e1
      exact m_lret C h dX4_join_96
  replace hf := if_f qm10 hf
  rcases Decidable.em (a0 = (-9 : Int32)) with hq | qm9
  · replace hf := if_t hq hf
    subst hq
    refine lv_tableIn (off := 74) (tgt := 75) hx hb dX4_join_1 (by decide) (by decide) (by decide) (by decide) ?_
    refine lv_iload_n hx hb dX4_join_75 rfl (lv_at hl 1 rfl) ?_
    refine lv_iload_n hx hb dX4_join_76 rfl (lv_at hl 2 rfl) ?_
    refine lv_icmp_ge (tgt := 84) hx hb dX4_join_77 (by decide) (fun hq => ?_) (fun hq => ?_)
    · replace hf := if_t hq hf
      clear hq
      refine lv_lconst (v := (0 : Int64)) hx hb dX4_join_84 rfl ?_
      have e1 := Option.some.inj hf
      subst e1
      exact m_lret C h dX4_join_85
    · replace hf := if_f hq hf
      clear hq
      refine lv_lconst (v := (1 : Int64)) hx hb dX4_join_80 rfl ?_
      refine lv_goto (tgt := 85) hx hb dX4_join_81 (by decide) ?_
      have e1 := Option.some.inj hf
      subst e1
      exact m_lret C h dX4_join_85
  replace hf := if_f qm9 hf
  rcases Decidable.em (a0 = (-8 : Int32)) with hq | qm8
  · replace hf := if_t hq hf
    subst hq
    refine lv_tableIn (off := 63) (tgt := 64) hx hb dX4_join_1 (by decide) (by decide) (by decide) (by decide) ?_
    refine lv_iload_n hx hb dX4_join_64 rfl (lv_at hl 1 rfl) ?_
    refine lv_iload_n hx hb dX4_join_65 rfl (lv_at hl 2 rfl) ?_
    refine lv_icmp_ne (tgt := 73) hx hb dX4_join_66 (by decide) (fun hq => ?_) (fun hq => ?_)
    · replace hf := if_tn hq hf
      clear hq
      refine lv_lconst (v := (0 : Int64)) hx hb dX4_join_73 rfl ?_
      have e1 := Option.some.inj hf
      subst e1
      exact m_lret C h dX4_join_74
    · replace hf := if_t hq hf
      clear hq
      refine lv_lconst (v := (1 : Int64)) hx hb dX4_join_69 rfl ?_
      refine lv_goto (tgt := 74) hx hb dX4_join_70 (by decide) ?_
      have e1 := Option.some.inj hf
      subst e1
      exact m_lret C h dX4_join_74
  replace hf := if_f qm8 hf
  rcases Decidable.em (a0 = (-7 : Int32)) with hq | qm7
  · replace hf := if_t hq hf
    subst hq
    refine lv_tableIn (off := 57) (tgt := 58) hx hb dX4_join_1 (by decide) (by decide) (by decide) (by decide) ?_
    refine lv_iload_n hx hb dX4_join_58 rfl (lv_at hl 1 rfl) ?_
    refine lv_i2l hx hb dX4_join_59 rfl ?_
    refine lv_iload_n hx hb dX4_join_60 rfl (lv_at hl 2 rfl) ?_
    refine lv_i2l hx hb dX4_join_61 rfl ?_
    refine lv_lmul hx hb dX4_join_62 ?_
    have e1 := Option.some.inj hf
    subst e1
    exact m_lret C h dX4_join_63
  replace hf := if_f qm7 hf
  rcases Decidable.em (a0 = (-6 : Int32)) with hq | qm6
  · replace hf := if_t hq hf
    subst hq
    refine lv_tableIn (off := 52) (tgt := 53) hx hb dX4_join_1 (by decide) (by decide) (by decide) (by decide) ?_
    refine lv_iload_n hx hb dX4_join_53 rfl (lv_at hl 1 rfl) ?_
    refine lv_iload_n hx hb dX4_join_54 rfl (lv_at hl 2 rfl) ?_
    refine lv_isub hx hb dX4_join_55 ?_
    refine lv_i2l hx hb dX4_join_56 rfl ?_
    have e1 := Option.some.inj hf
    subst e1
    exact m_lret C h dX4_join_57
  replace hf := if_f qm6 hf
  rcases Decidable.em (a0 = (-5 : Int32)) with hq | qm5
  · replace hf := if_t hq hf
    subst hq
    refine lv_tableIn (off := 47) (tgt := 48) hx hb dX4_join_1 (by decide) (by decide) (by decide) (by decide) ?_
    refine lv_iload_n hx hb dX4_join_48 rfl (lv_at hl 1 rfl) ?_
    refine lv_iload_n hx hb dX4_join_49 rfl (lv_at hl 2 rfl) ?_
    refine lv_iadd hx hb dX4_join_50 ?_
    refine lv_i2l hx hb dX4_join_51 rfl ?_
    have e1 := Option.some.inj hf
    subst e1
    exact m_lret C h dX4_join_52
  replace hf := if_f qm5 hf
  rcases Decidable.em (a0 = (-11 : Int32)) with hq | qm11
  · subst hq
    refine lv_tableIn (off := 101) (tgt := 102) hx hb dX4_join_1 (by decide) (by decide) (by decide) (by decide) ?_
    exact wX4_join_102 C a1 a2 hf H locs ls h (lv_sub hl [1, 2] rfl)
  refine lv_tableOut (tgt := 102) hx hb dX4_join_1 (by
      have zm12 := i32_ne qm12
      have zm11 := i32_ne qm11
      have zm10 := i32_ne qm10
      have zm9 := i32_ne qm9
      have zm8 := i32_ne qm8
      have zm7 := i32_ne qm7
      have zm6 := i32_ne qm6
      have zm5 := i32_ne qm5
      simp only [i32v_m12, i32v_m11, i32v_m10, i32v_m9, i32v_m8, i32v_m7, i32v_m6, i32v_m5] at zm12 zm11 zm10 zm9 zm8 zm7 zm6 zm5
      omega) (by decide) ?_
  exact wX4_join_102 C a1 a2 hf H locs ls h (lv_sub hl [1, 2] rfl)

set_option maxHeartbeats 4000000 in
set_option maxRecDepth 100000 in
theorem qX4_pop {l : Launch} {D : va_G} {cs : Nat → ClassId} {ad al : Nat → Nat} {P : PL} {r : Int32} {g' : CS} {g : CS}  (hf : fX4_pop P g = some (r, g')) : GCon l D cs yX4_pop cX4_pop 1 (some .int) (rM 0) 0 0 [.ref (ad 10)] (SW cs ad al P g) (some (.int r)) (SW cs ad al P g') := by
  refine GCon.of (by decide) (Nat.le_of_ble_eq_true rfl) ?_
  intro p e s m args below meth c A ls H locs C h hl
  have hx := C.1
  have hb := C.2.1
  have C : MCx p s m args meth c A RX4 cX4_pop 1 (some .int) D cs := C
  have hl : lv_has ls 1 [(0, .ref (ad 10))] := hl
  unfold fX4_pop at hf
  refine lv_aload_n hx hb dX4_pop_0 rfl (lv_at hl 0 rfl) ?_
  refine xg_X4 1 C h (by decide) tb_27_13 rfl rfl dX4_pop_1 ?_
  refine lv_iconst (v := (1 : Int32)) hx hb dX4_pop_4 (by decide) ?_
  refine lv_icmp_ge (tgt := 10) hx hb dX4_pop_5 (by decide) (fun hq => ?_) (fun hq => ?_)
  · replace hf := if_t hq hf
    clear hq
    refine lv_aload_n hx hb dX4_pop_10 rfl (lv_at hl 0 rfl) ?_
    refine lv_dup hx hb dX4_pop_11 rfl ?_
    refine xg_X4 1 C h (by decide) tb_27_13 rfl rfl dX4_pop_12 ?_
    refine lv_iconst (v := (1 : Int32)) hx hb dX4_pop_15 (by decide) ?_
    refine lv_isub hx hb dX4_pop_16 ?_
    replace hf := bnd_ex hf
    obtain ⟨g1, eg1, hf⟩ := hf
    refine xp_X4_1 C h tb_27_13 dX4_pop_17 (fun H locs h => ?_)
    rw [← eg1] at h
    clear eg1
    refine lv_aload_n hx hb dX4_pop_20 rfl (lv_at hl 0 rfl) ?_
    refine xg_X4 0 C h (by decide) tb_4_8 rfl rfl dX4_pop_21 ?_
    refine lv_aload_n hx hb dX4_pop_24 rfl (lv_at hl 0 rfl) ?_
    refine xg_X4 1 C h (by decide) tb_27_13 rfl rfl dX4_pop_25 ?_
    replace hf := chk_some hf
    obtain ⟨hq, hf⟩ := hf
    refine yl_11 C h hq dX4_pop_28 ?_
    clear hq
    obtain ⟨e1, e2⟩ := pr_inj hf
    subst e1 e2
    exact m_iret C h dX4_pop_29
  · replace hf := if_f hq hf
    clear hq
    refine lv_iconst (v := (0 : Int32)) hx hb dX4_pop_8 (by decide) ?_
    obtain ⟨e1, e2⟩ := pr_inj hf
    subst e1 e2
    exact m_iret C h dX4_pop_9

set_option maxHeartbeats 4000000 in
set_option maxRecDepth 100000 in
theorem qX4_push {l : Launch} {D : va_G} {cs : Nat → ClassId} {ad al : Nat → Nat} {P : PL} {g' : CS} {g : CS}  {a0 : Int32} (hf : fX4_push P g a0 = some g') : GCon l D cs yX4_push cX4_push 2 none (rM 0) 0 0 [.ref (ad 10), .int a0] (SW cs ad al P g) none (SW cs ad al P g') := by
  refine GCon.of (by decide) (Nat.le_of_ble_eq_true rfl) ?_
  intro p e s m args below meth c A ls H locs C h hl
  have hx := C.1
  have hb := C.2.1
  have C : MCx p s m args meth c A RX4 cX4_push 2 none D cs := C
  have hl : lv_has ls 2 [(0, .ref (ad 10)), (1, .int a0)] := hl
  unfold fX4_push at hf
  refine lv_aload_n hx hb dX4_push_0 rfl (lv_at hl 0 rfl) ?_
  refine xg_X4 1 C h (by decide) tb_27_13 rfl rfl dX4_push_1 ?_
  refine lv_bipush (v := (64 : Int32)) hx hb dX4_push_4 (by decide) ?_
  refine lv_icmp_ge (tgt := 29) hx hb dX4_push_6 (by decide) (fun hq => ?_) (fun hq => ?_)
  · replace hf := if_t hq hf
    clear hq
    have e1 := Option.some.inj hf
    subst e1
    exact m_vret C h dX4_push_29
  · replace hf := if_f hq hf
    clear hq
    refine lv_aload_n hx hb dX4_push_9 rfl (lv_at hl 0 rfl) ?_
    refine xg_X4 0 C h (by decide) tb_4_8 rfl rfl dX4_push_10 ?_
    refine lv_aload_n hx hb dX4_push_13 rfl (lv_at hl 0 rfl) ?_
    refine xg_X4 1 C h (by decide) tb_27_13 rfl rfl dX4_push_14 ?_
    refine lv_iload_n hx hb dX4_push_17 rfl (lv_at hl 1 rfl) ?_
    replace hf := chk_some hf
    obtain ⟨hq, hf⟩ := hf
    replace hf := bnd_ex hf
    obtain ⟨g1, eg1, hf⟩ := hf
    refine ys_11 C h hq dX4_push_18 (fun H locs h => ?_)
    rw [← eg1] at h
    clear hq eg1
    refine lv_aload_n hx hb dX4_push_19 rfl (lv_at hl 0 rfl) ?_
    refine lv_dup hx hb dX4_push_20 rfl ?_
    refine xg_X4 1 C h (by decide) tb_27_13 rfl rfl dX4_push_21 ?_
    refine lv_iconst (v := (1 : Int32)) hx hb dX4_push_24 (by decide) ?_
    refine lv_iadd hx hb dX4_push_25 ?_
    replace hf := bnd_ex hf
    obtain ⟨g2, eg2, hf⟩ := hf
    refine xp_X4_1 C h tb_27_13 dX4_push_26 (fun H locs h => ?_)
    rw [← eg2] at h
    clear eg2
    have e1 := Option.some.inj hf
    subst e1
    exact m_vret C h dX4_push_29

set_option maxHeartbeats 4000000 in
set_option maxRecDepth 100000 in
theorem wX4_reckon_127 (C : MCx p s m args meth c A RX4 cX4_reckon 9 (some .int) D cs)  {r : Int32} {g' : CS}  {k8 : CS → Nat → Int32 → Int32 → Int32 → Int32 → Int32 → Option (Int32 × CS)} (hk8 : ∀ (g : CS) (y1 : Nat) (y2 : Int32) (y3 : Int32) (y4 : Int32) (y5 : Int32) (y6 : Int32), k8 g y1 y2 y3 y4 y5 y6 = some (r, g') → ∀ (H : Heap) (locs : List Loc) (ls : Array Slot), MH D (SW cs ad al P g) A s H locs → lv_has ls 9 [(0, .ref (ad 10)), (1, .ref (al y1)), (2, .int y2), (3, .int y3), (4, .int y4), (5, .int y5), (6, .int y6)] → W p l e (rM 1) s m args below meth c H locs 0 0 (MQ below (GPost D (some (.int r)) (SW cs ad al P g') A) args s 0 0 A) (F0 m 8 ls [])) : ∀ (g : CS) (y1 : Nat) (y2 : Int32) (y3 : Int32) (y4 : Int32) (y5 : Int32) (y6 : Int32) (y7 : Int32), fX4_reckon_127 P k8 g y1 y2 y3 y4 y5 y6 y7 = some (r, g') → ∀ (H : Heap) (locs : List Loc) (ls : Array Slot), MH D (SW cs ad al P g) A s H locs → lv_has ls 9 [(0, .ref (ad 10)), (1, .ref (al y1)), (2, .int y2), (3, .int y3), (4, .int y4), (5, .int y5), (6, .int y6), (7, .int y7)] → W p l e (rM 1) s m args below meth c H locs 0 0 (MQ below (GPost D (some (.int r)) (SW cs ad al P g') A) args s 0 0 A) (F0 m 127 ls []) := by
  have hx := C.1
  have hb := C.2.1
  intro g y1 y2 y3 y4 y5 y6 y7 hf H locs ls h hl
  unfold fX4_reckon_127 at hf
  refine lv_iload hx hb dX4_reckon_127 (lv_at hl 7 rfl) ?_
  refine lv_if_lt (tgt := 141) hx hb dX4_reckon_129 (by decide) (fun hq => ?_) (fun hq => ?_)
  · replace hf := if_t hq hf
    clear hq
    refine lv_aload_n hx hb dX4_reckon_141 rfl (lv_at hl 0 rfl) ?_
    replace hf := bndc_some hf
    obtain ⟨x1, g2, hc, hf⟩ := hf
    refine m_callVi [] C h cv_X4_21 (qX4_pop hc) rfl ⟨rfl, rfl⟩ ⟨Nat.le_of_ble_eq_true rfl, Nat.le_of_ble_eq_true rfl⟩ (rv_X4 C h) hl.1 rfl (Nat.le_of_ble_eq_true rfl) ⟨Nat.le_refl _, Nat.le_refl _⟩ dX4_reckon_142 (fun H locs h => ?_)
    clear hc
    refine lv_istore (lv' := [(8, .int x1), (0, .ref (ad 10)), (1, .ref (al y1)), (2, .int y2), (3, .int y3), (4, .int y4), (5, .int y5), (6, .int y6), (7, .int y7)]) hx hb dX4_reckon_145 hl (by decide) rfl (fun ls hl => ?_)
    refine lv_aload_n hx hb dX4_reckon_147 rfl (lv_at hl 1 rfl) ?_
    refine lv_iload hx hb dX4_reckon_148 (lv_at hl 8 rfl) ?_
    refine lv_aload_n hx hb dX4_reckon_150 rfl (lv_at hl 1 rfl) ?_
    replace hf := bndc_some hf
    obtain ⟨x3, g4, hc, hf⟩ := hf
    refine m_callVi [] C h cv_X4_21 (qX4_pop hc) rfl ⟨rfl, rfl⟩ ⟨Nat.le_of_ble_eq_true rfl, Nat.le_of_ble_eq_true rfl⟩ (rv_X4 C h) hl.1 rfl (Nat.le_of_ble_eq_true rfl) ⟨Nat.le_refl _, Nat.le_refl _⟩ dX4_reckon_151 (fun H locs h => ?_)
    clear hc
    refine lv_iload hx hb dX4_reckon_154 (lv_at hl 0 rfl) ?_
    replace hf := bndv_some hf
    obtain ⟨x5, hc, hf⟩ := hf
    refine m_callSl [.int y7, .int x3, .int x1] C h cs_X4_25 (qX4_join hc) rfl ⟨rfl, rfl⟩ ⟨Nat.le_of_ble_eq_true rfl, Nat.le_of_ble_eq_true rfl⟩ hl.1 rfl (Nat.le_of_ble_eq_true rfl) ⟨Nat.le_refl _, Nat.le_refl _⟩ dX4_reckon_156 (fun H locs h => ?_)
    clear hc
    replace hf := bndv_some hf
    obtain ⟨x6, hc, hf⟩ := hf
    refine m_callSi [.long x5] C h cs_X4_29 (qX4_bounded hc) rfl ⟨rfl, rfl⟩ ⟨Nat.le_of_ble_eq_true rfl, Nat.le_of_ble_eq_true rfl⟩ hl.1 rfl (Nat.le_of_ble_eq_true rfl) ⟨Nat.le_refl _, Nat.le_refl _⟩ dX4_reckon_159 (fun H locs h => ?_)
    clear hc
    replace hf := bndv_some hf
    obtain ⟨g7, hc, hf⟩ := hf
    refine m_callVv [.int x6] C h cv_X4_17 (qX4_push hc) rfl ⟨rfl, rfl⟩ ⟨Nat.le_of_ble_eq_true rfl, Nat.le_of_ble_eq_true rfl⟩ (rv_X4 C h) hl.1 rfl (Nat.le_of_ble_eq_true rfl) ⟨Nat.le_refl _, Nat.le_refl _⟩ dX4_reckon_162 (fun H locs h => ?_)
    clear hc
    obtain ⟨x8, ex8⟩ : ∃ z : Int32, z = y6 + (1 : Int32) := ⟨_, rfl⟩
    replace hf := bnd_at ex8 hf
    refine lv_iinc (v := x8) (lv' := [(6, .int x8), (8, .int x1), (0, .ref (ad 10)), (1, .ref (al y1)), (2, .int y2), (3, .int y3), (4, .int y4), (5, .int y5), (7, .int y7)]) hx hb dX4_reckon_165 hl (k := 7) rfl (by rw [ex8]; rfl) (by decide) rfl (fun ls hl => ?_)
    clear ex8
    refine lv_goto (tgt := 8) hx hb dX4_reckon_168 (by decide) ?_
    exact hk8 g7 y1 y2 y3 y4 y5 x8 hf H locs ls h (lv_sub hl [2, 3, 4, 5, 6, 7, 0] rfl)
  · replace hf := if_f hq hf
    clear hq
    refine lv_aload_n hx hb dX4_reckon_132 rfl (lv_at hl 0 rfl) ?_
    refine lv_iload hx hb dX4_reckon_133 (lv_at hl 7 rfl) ?_
    replace hf := bndv_some hf
    obtain ⟨g9, hc, hf⟩ := hf
    refine m_callVv [.int y7] C h cv_X4_17 (qX4_push hc) rfl ⟨rfl, rfl⟩ ⟨Nat.le_of_ble_eq_true rfl, Nat.le_of_ble_eq_true rfl⟩ (rv_X4 C h) hl.1 rfl (Nat.le_of_ble_eq_true rfl) ⟨Nat.le_refl _, Nat.le_refl _⟩ dX4_reckon_135 (fun H locs h => ?_)
    clear hc
    refine lv_goto (tgt := 165) hx hb dX4_reckon_138 (by decide) ?_
    obtain ⟨x10, ex10⟩ : ∃ z : Int32, z = y6 + (1 : Int32) := ⟨_, rfl⟩
    replace hf := bnd_at ex10 hf
    refine lv_iinc (v := x10) (lv' := [(6, .int x10), (0, .ref (ad 10)), (1, .ref (al y1)), (2, .int y2), (3, .int y3), (4, .int y4), (5, .int y5), (7, .int y7)]) hx hb dX4_reckon_165 hl (k := 6) rfl (by rw [ex10]; rfl) (by decide) rfl (fun ls hl => ?_)
    clear ex10
    refine lv_goto (tgt := 8) hx hb dX4_reckon_168 (by decide) ?_
    exact hk8 g9 y1 y2 y3 y4 y5 x10 hf H locs ls h (lv_sub hl [1, 2, 3, 4, 5, 6, 0] rfl)

set_option maxHeartbeats 4000000 in
set_option maxRecDepth 100000 in
theorem wX4_reckon_8 (C : MCx p s m args meth c A RX4 cX4_reckon 9 (some .int) D cs)  {r : Int32} {g' : CS}  : ∀ (n : Nat) (g : CS) (y1 : Nat) (y2 : Int32) (y3 : Int32) (y4 : Int32) (y5 : Int32) (y6 : Int32), fX4_reckon_8 P n g y1 y2 y3 y4 y5 y6 = some (r, g') → ∀ (H : Heap) (locs : List Loc) (ls : Array Slot), MH D (SW cs ad al P g) A s H locs → lv_has ls 9 [(0, .ref (ad 10)), (1, .ref (al y1)), (2, .int y2), (3, .int y3), (4, .int y4), (5, .int y5), (6, .int y6)] → W p l e (rM 1) s m args below meth c H locs 0 0 (MQ below (GPost D (some (.int r)) (SW cs ad al P g') A) args s 0 0 A) (F0 m 8 ls []) := by
  have hx := C.1
  have hb := C.2.1
  intro n
  induction n with
  | zero =>
    intro g y1 y2 y3 y4 y5 y6 hf
    exact absurd hf (by simp [fX4_reckon_8])
  | succ n ih =>
    intro g y1 y2 y3 y4 y5 y6 hf H locs ls h hl
    rw [fX4_reckon_8] at hf
    refine lv_iload hx hb dX4_reckon_8 (lv_at hl 6 rfl) ?_
    refine lv_aload_n hx hb dX4_reckon_10 rfl (lv_at hl 1 rfl) ?_
    replace hf := chk_some hf
    obtain ⟨hw, hf⟩ := hf
    refine ya_w C h hw rfl dX4_reckon_11 ?_
    clear hw
    refine lv_icmp_ge (tgt := 171) hx hb dX4_reckon_12 (by decide) (fun hq => ?_) (fun hq => ?_)
    · replace hf := if_t hq hf
      clear hq
      refine lv_aload_n hx hb dX4_reckon_171 rfl (lv_at hl 0 rfl) ?_
      replace hf := bndc_some hf
      obtain ⟨x11, g12, hc, hf⟩ := hf
      refine m_callVi [] C h cv_X4_21 (qX4_pop hc) rfl ⟨rfl, rfl⟩ ⟨Nat.le_of_ble_eq_true rfl, Nat.le_of_ble_eq_true rfl⟩ (rv_X4 C h) hl.1 rfl (Nat.le_of_ble_eq_true rfl) ⟨Nat.le_refl _, Nat.le_refl _⟩ dX4_reckon_172 (fun H locs h => ?_)
      clear hc
      obtain ⟨e1, e2⟩ := pr_inj hf
      subst e1 e2
      exact m_iret C h dX4_reckon_175
    · replace hf := if_f hq hf
      clear hq
      refine lv_aload_n hx hb dX4_reckon_15 rfl (lv_at hl 1 rfl) ?_
      refine lv_iload hx hb dX4_reckon_16 (lv_at hl 6 rfl) ?_
      replace hf := chk_some hf
      obtain ⟨hw, hf⟩ := hf
      replace hf := chk_some hf
      obtain ⟨hq, hf⟩ := hf
      refine yl_w C h hw hq dX4_reckon_18 ?_
      clear hq hw
      refine lv_topi (fun x13 ex13 => ?_)
      replace hf := bnd_at ex13 hf
      clear ex13
      refine lv_istore (lv' := [(7, .int x13), (0, .ref (ad 10)), (1, .ref (al y1)), (2, .int y2), (3, .int y3), (4, .int y4), (5, .int y5), (6, .int y6)]) hx hb dX4_reckon_19 hl (by decide) rfl (fun ls hl => ?_)
      refine lv_iload hx hb dX4_reckon_21 (lv_at hl 0 rfl) ?_
      rcases Decidable.em (x13 = (-11 : Int32)) with hq | qm11
      · replace hf := if_t hq hf
        subst hq
        refine lv_tableIn (off := 91) (tgt := 114) hx hb dX4_reckon_23 (by decide) (by decide) (by decide) (by decide) ?_
        refine lv_aload_n hx hb dX4_reckon_114 rfl (lv_at hl 1 rfl) ?_
        refine lv_iconst (v := (1 : Int32)) hx hb dX4_reckon_115 (by decide) ?_
        refine lv_aload_n hx hb dX4_reckon_116 rfl (lv_at hl 1 rfl) ?_
        replace hf := bndc_some hf
        obtain ⟨x18, g19, hc, hf⟩ := hf
        refine m_callVi [] C h cv_X4_21 (qX4_pop hc) rfl ⟨rfl, rfl⟩ ⟨Nat.le_of_ble_eq_true rfl, Nat.le_of_ble_eq_true rfl⟩ (rv_X4 C h) hl.1 rfl (Nat.le_of_ble_eq_true rfl) ⟨Nat.le_refl _, Nat.le_refl _⟩ dX4_reckon_117 (fun H locs h => ?_)
        clear hc
        refine lv_isub hx hb dX4_reckon_120 ?_
        replace hf := bndv_some hf
        obtain ⟨g20, hc, hf⟩ := hf
        refine m_callVv [.int ((1 : Int32) - x18)] C h cv_X4_17 (qX4_push hc) rfl ⟨rfl, rfl⟩ ⟨Nat.le_of_ble_eq_true rfl, Nat.le_of_ble_eq_true rfl⟩ (rv_X4 C h) hl.1 rfl (Nat.le_of_ble_eq_true rfl) ⟨Nat.le_refl _, Nat.le_refl _⟩ dX4_reckon_121 (fun H locs h => ?_)
        clear hc
        refine lv_goto (tgt := 165) hx hb dX4_reckon_124 (by decide) ?_
        obtain ⟨x21, ex21⟩ : ∃ z : Int32, z = y6 + (1 : Int32) := ⟨_, rfl⟩
        replace hf := bnd_at ex21 hf
        refine lv_iinc (v := x21) (lv' := [(6, .int x21), (7, .int (-11 : Int32)), (0, .ref (ad 10)), (1, .ref (al y1)), (2, .int y2), (3, .int y3), (4, .int y4), (5, .int y5)]) hx hb dX4_reckon_165 hl (k := 7) rfl (by rw [ex21]; rfl) (by decide) rfl (fun ls hl => ?_)
        clear ex21
        refine lv_goto (tgt := 8) hx hb dX4_reckon_168 (by decide) ?_
        exact ih g20 y1 y2 y3 y4 y5 x21 hf H locs ls h (lv_sub hl [2, 3, 4, 5, 6, 7, 0] rfl)
      replace hf := if_f qm11 hf
      rcases Decidable.em (x13 = (-4 : Int32)) with hq | qm4
      · replace hf := if_t hq hf
        subst hq
        refine lv_tableIn (off := 82) (tgt := 105) hx hb dX4_reckon_23 (by decide) (by decide) (by decide) (by decide) ?_
        refine lv_aload_n hx hb dX4_reckon_105 rfl (lv_at hl 1 rfl) ?_
        refine lv_iload hx hb dX4_reckon_106 (lv_at hl 6 rfl) ?_
        replace hf := bndv_some hf
        obtain ⟨g24, hc, hf⟩ := hf
        refine m_callVv [.int y5] C h cv_X4_17 (qX4_push hc) rfl ⟨rfl, rfl⟩ ⟨Nat.le_of_ble_eq_true rfl, Nat.le_of_ble_eq_true rfl⟩ (rv_X4 C h) hl.1 rfl (Nat.le_of_ble_eq_true rfl) ⟨Nat.le_refl _, Nat.le_refl _⟩ dX4_reckon_108 (fun H locs h => ?_)
        clear hc
        refine lv_goto (tgt := 165) hx hb dX4_reckon_111 (by decide) ?_
        obtain ⟨x25, ex25⟩ : ∃ z : Int32, z = y6 + (1 : Int32) := ⟨_, rfl⟩
        replace hf := bnd_at ex25 hf
        refine lv_iinc (v := x25) (lv' := [(6, .int x25), (7, .int (-4 : Int32)), (0, .ref (ad 10)), (1, .ref (al y1)), (2, .int y2), (3, .int y3), (4, .int y4), (5, .int y5)]) hx hb dX4_reckon_165 hl (k := 7) rfl (by rw [ex25]; rfl) (by decide) rfl (fun ls hl => ?_)
        clear ex25
        refine lv_goto (tgt := 8) hx hb dX4_reckon_168 (by decide) ?_
        exact ih g24 y1 y2 y3 y4 y5 x25 hf H locs ls h (lv_sub hl [2, 3, 4, 5, 6, 7, 0] rfl)
      replace hf := if_f qm4 hf
      rcases Decidable.em (x13 = (-3 : Int32)) with hq | qm3
      · replace hf := if_t hq hf
        subst hq
        refine lv_tableIn (off := 73) (tgt := 96) hx hb dX4_reckon_23 (by decide) (by decide) (by decide) (by decide) ?_
        refine lv_aload_n hx hb dX4_reckon_96 rfl (lv_at hl 1 rfl) ?_
        refine lv_iload hx hb dX4_reckon_97 (lv_at hl 5 rfl) ?_
        replace hf := bndv_some hf
        obtain ⟨g28, hc, hf⟩ := hf
        refine m_callVv [.int y4] C h cv_X4_17 (qX4_push hc) rfl ⟨rfl, rfl⟩ ⟨Nat.le_of_ble_eq_true rfl, Nat.le_of_ble_eq_true rfl⟩ (rv_X4 C h) hl.1 rfl (Nat.le_of_ble_eq_true rfl) ⟨Nat.le_refl _, Nat.le_refl _⟩ dX4_reckon_99 (fun H locs h => ?_)
        clear hc
        refine lv_goto (tgt := 165) hx hb dX4_reckon_102 (by decide) ?_
        obtain ⟨x29, ex29⟩ : ∃ z : Int32, z = y6 + (1 : Int32) := ⟨_, rfl⟩
        replace hf := bnd_at ex29 hf
        refine lv_iinc (v := x29) (lv' := [(6, .int x29), (7, .int (-3 : Int32)), (0, .ref (ad 10)), (1, .ref (al y1)), (2, .int y2), (3, .int y3), (4, .int y4), (5, .int y5)]) hx hb dX4_reckon_165 hl (k := 7) rfl (by rw [ex29]; rfl) (by decide) rfl (fun ls hl => ?_)
        clear ex29
        refine lv_goto (tgt := 8) hx hb dX4_reckon_168 (by decide) ?_
        exact ih g28 y1 y2 y3 y4 y5 x29 hf H locs ls h (lv_sub hl [2, 3, 4, 5, 6, 7, 0] rfl)
      replace hf := if_f qm3 hf
      rcases Decidable.em (x13 = (-2 : Int32)) with hq | qm2
      · replace hf := if_t hq hf
        subst hq
        refine lv_tableIn (off := 65) (tgt := 88) hx hb dX4_reckon_23 (by decide) (by decide) (by decide) (by decide) ?_
        refine lv_aload_n hx hb dX4_reckon_88 rfl (lv_at hl 1 rfl) ?_
        refine lv_iload_n hx hb dX4_reckon_89 rfl (lv_at hl 4 rfl) ?_
        replace hf := bndv_some hf
        obtain ⟨g32, hc, hf⟩ := hf
        refine m_callVv [.int y3] C h cv_X4_17 (qX4_push hc) rfl ⟨rfl, rfl⟩ ⟨Nat.le_of_ble_eq_true rfl, Nat.le_of_ble_eq_true rfl⟩ (rv_X4 C h) hl.1 rfl (Nat.le_of_ble_eq_true rfl) ⟨Nat.le_refl _, Nat.le_refl _⟩ dX4_reckon_90 (fun H locs h => ?_)
        clear hc
        refine lv_goto (tgt := 165) hx hb dX4_reckon_93 (by decide) ?_
        obtain ⟨x33, ex33⟩ : ∃ z : Int32, z = y6 + (1 : Int32) := ⟨_, rfl⟩
        replace hf := bnd_at ex33 hf
        refine lv_iinc (v := x33) (lv' := [(6, .int x33), (7, .int (-2 : Int32)), (0, .ref (ad 10)), (1, .ref (al y1)), (2, .int y2), (3, .int y3), (4, .int y4), (5, .int y5)]) hx hb dX4_reckon_165 hl (k := 7) rfl (by rw [ex33]; rfl) (by decide) rfl (fun ls hl => ?_)
        clear ex33
        refine lv_goto (tgt := 8) hx hb dX4_reckon_168 (by decide) ?_
        exact ih g32 y1 y2 y3 y4 y5 x33 hf H locs ls h (lv_sub hl [2, 3, 4, 5, 6, 7, 0] rfl)
      replace hf := if_f qm2 hf
      rcases Decidable.em (x13 = (-1 : Int32)) with hq | qm1
      · replace hf := if_t hq hf
        subst hq
        refine lv_tableIn (off := 57) (tgt := 80) hx hb dX4_reckon_23 (by decide) (by decide) (by decide) (by decide) ?_
        refine lv_aload_n hx hb dX4_reckon_80 rfl (lv_at hl 1 rfl) ?_
        refine lv_iload_n hx hb dX4_reckon_81 rfl (lv_at hl 3 rfl) ?_
        replace hf := bndv_some hf
        obtain ⟨g36, hc, hf⟩ := hf
        refine m_callVv [.int y2] C h cv_X4_17 (qX4_push hc) rfl ⟨rfl, rfl⟩ ⟨Nat.le_of_ble_eq_true rfl, Nat.le_of_ble_eq_true rfl⟩ (rv_X4 C h) hl.1 rfl (Nat.le_of_ble_eq_true rfl) ⟨Nat.le_refl _, Nat.le_refl _⟩ dX4_reckon_82 (fun H locs h => ?_)
        clear hc
        refine lv_goto (tgt := 165) hx hb dX4_reckon_85 (by decide) ?_
        obtain ⟨x37, ex37⟩ : ∃ z : Int32, z = y6 + (1 : Int32) := ⟨_, rfl⟩
        replace hf := bnd_at ex37 hf
        refine lv_iinc (v := x37) (lv' := [(6, .int x37), (7, .int (-1 : Int32)), (0, .ref (ad 10)), (1, .ref (al y1)), (2, .int y2), (3, .int y3), (4, .int y4), (5, .int y5)]) hx hb dX4_reckon_165 hl (k := 7) rfl (by rw [ex37]; rfl) (by decide) rfl (fun ls hl => ?_)
        clear ex37
        refine lv_goto (tgt := 8) hx hb dX4_reckon_168 (by decide) ?_
        exact ih g36 y1 y2 y3 y4 y5 x37 hf H locs ls h (lv_sub hl [2, 3, 4, 5, 6, 7, 0] rfl)
      replace hf := if_f qm1 hf
      rcases Decidable.em (x13 = (-10 : Int32)) with hq | qm10
      · subst hq
        refine lv_tableIn (off := 104) (tgt := 127) hx hb dX4_reckon_23 (by decide) (by decide) (by decide) (by decide) ?_
        exact wX4_reckon_127 (P := P) C ih g y1 y2 y3 y4 y5 y6 (-10 : Int32) hf H locs ls h (lv_sub hl [1, 2, 3, 4, 5, 6, 7, 0] rfl)
      rcases Decidable.em (x13 = (-9 : Int32)) with hq | qm9
      · subst hq
        refine lv_tableIn (off := 104) (tgt := 127) hx hb dX4_reckon_23 (by decide) (by decide) (by decide) (by decide) ?_
        exact wX4_reckon_127 (P := P) C ih g y1 y2 y3 y4 y5 y6 (-9 : Int32) hf H locs ls h (lv_sub hl [1, 2, 3, 4, 5, 6, 7, 0] rfl)
      rcases Decidable.em (x13 = (-8 : Int32)) with hq | qm8
      · subst hq
        refine lv_tableIn (off := 104) (tgt := 127) hx hb dX4_reckon_23 (by decide) (by decide) (by decide) (by decide) ?_
        exact wX4_reckon_127 (P := P) C ih g y1 y2 y3 y4 y5 y6 (-8 : Int32) hf H locs ls h (lv_sub hl [1, 2, 3, 4, 5, 6, 7, 0] rfl)
      rcases Decidable.em (x13 = (-7 : Int32)) with hq | qm7
      · subst hq
        refine lv_tableIn (off := 104) (tgt := 127) hx hb dX4_reckon_23 (by decide) (by decide) (by decide) (by decide) ?_
        exact wX4_reckon_127 (P := P) C ih g y1 y2 y3 y4 y5 y6 (-7 : Int32) hf H locs ls h (lv_sub hl [1, 2, 3, 4, 5, 6, 7, 0] rfl)
      rcases Decidable.em (x13 = (-6 : Int32)) with hq | qm6
      · subst hq
        refine lv_tableIn (off := 104) (tgt := 127) hx hb dX4_reckon_23 (by decide) (by decide) (by decide) (by decide) ?_
        exact wX4_reckon_127 (P := P) C ih g y1 y2 y3 y4 y5 y6 (-6 : Int32) hf H locs ls h (lv_sub hl [1, 2, 3, 4, 5, 6, 7, 0] rfl)
      rcases Decidable.em (x13 = (-5 : Int32)) with hq | qm5
      · subst hq
        refine lv_tableIn (off := 104) (tgt := 127) hx hb dX4_reckon_23 (by decide) (by decide) (by decide) (by decide) ?_
        exact wX4_reckon_127 (P := P) C ih g y1 y2 y3 y4 y5 y6 (-5 : Int32) hf H locs ls h (lv_sub hl [1, 2, 3, 4, 5, 6, 7, 0] rfl)
      refine lv_tableOut (tgt := 127) hx hb dX4_reckon_23 (by
          have zm11 := i32_ne qm11
          have zm10 := i32_ne qm10
          have zm9 := i32_ne qm9
          have zm8 := i32_ne qm8
          have zm7 := i32_ne qm7
          have zm6 := i32_ne qm6
          have zm5 := i32_ne qm5
          have zm4 := i32_ne qm4
          have zm3 := i32_ne qm3
          have zm2 := i32_ne qm2
          have zm1 := i32_ne qm1
          simp only [i32v_m11, i32v_m10, i32v_m9, i32v_m8, i32v_m7, i32v_m6, i32v_m5, i32v_m4, i32v_m3, i32v_m2, i32v_m1] at zm11 zm10 zm9 zm8 zm7 zm6 zm5 zm4 zm3 zm2 zm1
          omega) (by decide) ?_
      exact wX4_reckon_127 (P := P) C ih g y1 y2 y3 y4 y5 y6 x13 hf H locs ls h (lv_sub hl [1, 2, 3, 4, 5, 6, 7, 0] rfl)

set_option maxHeartbeats 4000000 in
set_option maxRecDepth 100000 in
theorem qX4_reckon {l : Launch} {D : va_G} {cs : Nat → ClassId} {ad al : Nat → Nat} {P : PL} {r : Int32} {g' : CS} {g : CS}  {a0 : Nat} {a1 : Int32} {a2 : Int32} {a3 : Int32} {a4 : Int32} (hf : fX4_reckon P g a0 a1 a2 a3 a4 = some (r, g')) : GCon l D cs yX4_reckon cX4_reckon 9 (some .int) (rM 1) 0 0 [.ref (ad 10), .ref (al a0), .int a1, .int a2, .int a3, .int a4] (SW cs ad al P g) (some (.int r)) (SW cs ad al P g') := by
  refine GCon.of (by decide) (Nat.le_of_ble_eq_true rfl) ?_
  intro p e s m args below meth c A ls H locs C h hl
  have hx := C.1
  have hb := C.2.1
  have C : MCx p s m args meth c A RX4 cX4_reckon 9 (some .int) D cs := C
  have hl : lv_has ls 9 [(0, .ref (ad 10)), (1, .ref (al a0)), (2, .int a1), (3, .int a2), (4, .int a3), (5, .int a4)] := hl
  unfold fX4_reckon at hf
  refine lv_aload_n hx hb dX4_reckon_0 rfl (lv_at hl 0 rfl) ?_
  refine lv_iconst (v := (0 : Int32)) hx hb dX4_reckon_1 (by decide) ?_
  replace hf := bnd_ex hf
  obtain ⟨g38, eg38, hf⟩ := hf
  refine xp_X4_1 C h tb_27_13 dX4_reckon_2 (fun H locs h => ?_)
  rw [← eg38] at h
  clear eg38
  refine lv_iconst (v := (0 : Int32)) hx hb dX4_reckon_5 (by decide) ?_
  refine lv_istore (lv' := [(6, .int (0 : Int32)), (0, .ref (ad 10)), (1, .ref (al a0)), (2, .int a1), (3, .int a2), (4, .int a3), (5, .int a4)]) hx hb dX4_reckon_6 hl (by decide) rfl (fun ls hl => ?_)
  exact wX4_reckon_8 (P := P) C fuel g38 a0 a1 a2 a3 a4 (0 : Int32) hf H locs ls h (lv_sub hl [1, 2, 3, 4, 5, 6, 0] rfl)

set_option maxHeartbeats 4000000 in
set_option maxRecDepth 100000 in
theorem qX6_pace {l : Launch} {D : va_G} {cs : Nat → ClassId} {ad al : Nat → Nat} {P : PL} {r : Int32} {g' : CS} {g : CS}  {o : Nat} {a0 : Int32} {a1 : Int32} {a2 : Int32} (hn_o : okS o) (hf : fX6_pace P g o a0 a1 a2 = some (r, g')) : GCon l D cs yX6_pace cX6_pace 4 (some .int) (rM 2) 0 0 [.ref (ad o), .int a0, .int a1, .int a2] (SW cs ad al P g) (some (.int r)) (SW cs ad al P g') := by
  refine GCon.of (by decide) (Nat.le_of_ble_eq_true rfl) ?_
  intro p e s m args below meth c A ls H locs C h hl
  have hx := C.1
  have hb := C.2.1
  have C : MCx p s m args meth c A RX6 cX6_pace 4 (some .int) D cs := C
  have hl : lv_has ls 4 [(0, .ref (ad o)), (1, .int a0), (2, .int a1), (3, .int a2)] := hl
  unfold fX6_pace at hf
  refine lv_aload_n hx hb dX6_pace_0 rfl (lv_at hl 0 rfl) ?_
  refine xg_X6 10 hn_o C h (by decide) tb_4_18 rfl rfl dX6_pace_1 ?_
  replace hf := chk_some hf
  obtain ⟨hw, hf⟩ := hf
  refine ya_w C h hw rfl dX6_pace_4 ?_
  clear hw
  refine lv_if_eq (tgt := 16) hx hb dX6_pace_5 (by decide) (fun hq => ?_) (fun hq => ?_)
  · replace hf := if_t hq hf
    clear hq
    refine lv_iconst (v := (0 : Int32)) hx hb dX6_pace_16 (by decide) ?_
    obtain ⟨e1, e2⟩ := pr_inj hf
    subst e1 e2
    exact m_iret C h dX6_pace_17
  · replace hf := if_f hq hf
    clear hq
    refine lv_aload_n hx hb dX6_pace_8 rfl (lv_at hl 0 rfl) ?_
    refine xg_X6 1 hn_o C h (by decide) tb_4_14 rfl rfl dX6_pace_9 ?_
    refine lv_iconst (v := (1 : Int32)) hx hb dX6_pace_12 (by decide) ?_
    refine lv_icmp_ge (tgt := 18) hx hb dX6_pace_13 (by decide) (fun hq => ?_) (fun hq => ?_)
    · replace hf := if_t hq hf
      clear hq
      refine lv_aload_n hx hb dX6_pace_18 rfl (lv_at hl 0 rfl) ?_
      refine xg_X6 0 hn_o C h (by decide) tb_4_13 rfl rfl dX6_pace_19 ?_
      refine lv_aload_n hx hb dX6_pace_22 rfl (lv_at hl 0 rfl) ?_
      refine xg_X6 10 hn_o C h (by decide) tb_4_18 rfl rfl dX6_pace_23 ?_
      refine lv_iload_n hx hb dX6_pace_26 rfl (lv_at hl 1 rfl) ?_
      refine lv_aload_n hx hb dX6_pace_27 rfl (lv_at hl 0 rfl) ?_
      refine xg_X6 4 hn_o C h (by decide) tb_4_15 rfl rfl dX6_pace_28 ?_
      refine lv_iload_n hx hb dX6_pace_31 rfl (lv_at hl 1 rfl) ?_
      replace hf := bndv_some hf
      obtain ⟨x1, hc, hf⟩ := hf
      refine m_callSi [.int (g.1 o 4), .int a0] C h cs_X6_79 (qX1_at hc) rfl ⟨rfl, rfl⟩ ⟨Nat.le_of_ble_eq_true rfl, Nat.le_of_ble_eq_true rfl⟩ hl.1 rfl (Nat.le_of_ble_eq_true rfl) ⟨Nat.le_refl _, Nat.le_refl _⟩ dX6_pace_32 (fun H locs h => ?_)
      clear hc
      refine lv_iload_n hx hb dX6_pace_35 rfl (lv_at hl 2 rfl) ?_
      refine lv_iload_n hx hb dX6_pace_36 rfl (lv_at hl 3 rfl) ?_
      replace hf := bndc_some hf
      obtain ⟨x2, g3, hc, hf⟩ := hf
      refine m_callVi [.ref (al (g.2.2.2 o 10)), .int a0, .int x1, .int a1, .int a2] C h cv_X6_87 (qX4_reckon hc) rfl ⟨rfl, rfl⟩ ⟨Nat.le_of_ble_eq_true rfl, Nat.le_of_ble_eq_true rfl⟩ (rv_X4 C h) hl.1 rfl (Nat.le_of_ble_eq_true rfl) ⟨Nat.le_refl _, Nat.le_refl _⟩ dX6_pace_37 (fun H locs h => ?_)
      clear hc
      refine lv_aload_n hx hb dX6_pace_40 rfl (lv_at hl 0 rfl) ?_
      refine xg_X6 1 hn_o C h (by decide) tb_4_14 rfl rfl dX6_pace_41 ?_
      replace hf := chk_some hf
      obtain ⟨hq, hf⟩ := hf
      refine x_fmod tb_33_16 C hl.1 (nz_ne hq) (Nat.le_of_ble_eq_true rfl) (Nat.le_of_ble_eq_true rfl) (Nat.le_refl _) (Nat.le_refl _) dX6_pace_44 ?_
      clear hq
      obtain ⟨e1, e2⟩ := pr_inj hf
      subst e1 e2
      exact m_iret C h dX6_pace_47
    · replace hf := if_f hq hf
      clear hq
      refine lv_iconst (v := (0 : Int32)) hx hb dX6_pace_16 (by decide) ?_
      obtain ⟨e1, e2⟩ := pr_inj hf
      subst e1 e2
      exact m_iret C h dX6_pace_17

set_option maxHeartbeats 4000000 in
set_option maxRecDepth 100000 in
theorem wX0_paceOf_59 (C : MCx p s m args meth c A RX0 cX0_paceOf 5 (some .int) D cs)  {r : Int32} {g' : CS}  : ∀ (g : CS) (y4 : Int32), fX0_paceOf_59 P g y4 = some (r, g') → ∀ (H : Heap) (locs : List Loc) (ls : Array Slot), MH D (SW cs ad al P g) A s H locs → lv_has ls 5 [(0, .ref (ad 27)), (4, .int y4)] → W p l e (rM 3) s m args below meth c H locs 0 0 (MQ below (GPost D (some (.int r)) (SW cs ad al P g') A) args s 0 0 A) (F0 m 59 ls []) := by
  have hx := C.1
  have hb := C.2.1
  intro g y4 hf H locs ls h hl
  unfold fX0_paceOf_59 at hf
  refine lv_aload_n hx hb dX0_paceOf_59 rfl (lv_at hl 0 rfl) ?_
  refine xg_X0 2 C h (by decide) tb_6_21 rfl rfl dX0_paceOf_60 ?_
  refine lv_iload hx hb dX0_paceOf_63 (lv_at hl 1 rfl) ?_
  replace hf := chk_some hf
  obtain ⟨hq, hf⟩ := hf
  refine yl_28 C h hq dX0_paceOf_65 ?_
  clear hq
  obtain ⟨e1, e2⟩ := pr_inj hf
  subst e1 e2
  exact m_iret C h dX0_paceOf_66

set_option maxHeartbeats 4000000 in
set_option maxRecDepth 100000 in
theorem qX0_paceOf {l : Launch} {D : va_G} {cs : Nat → ClassId} {ad al : Nat → Nat} {P : PL} {r : Int32} {g' : CS} {g : CS}  {a0 : Int32} {a1 : Int32} {a2 : Int32} (hf : fX0_paceOf P g a0 a1 a2 = some (r, g')) : GCon l D cs yX0_paceOf cX0_paceOf 5 (some .int) (rM 3) 0 0 [.ref (ad 27), .int a0, .int a1, .int a2] (SW cs ad al P g) (some (.int r)) (SW cs ad al P g') := by
  refine GCon.of (by decide) (Nat.le_of_ble_eq_true rfl) ?_
  intro p e s m args below meth c A ls H locs C h hl
  have hx := C.1
  have hb := C.2.1
  have C : MCx p s m args meth c A RX0 cX0_paceOf 5 (some .int) D cs := C
  have hl : lv_has ls 5 [(0, .ref (ad 27)), (1, .int a0), (2, .int a1), (3, .int a2)] := hl
  unfold fX0_paceOf at hf
  refine lv_iload_n hx hb dX0_paceOf_0 rfl (lv_at hl 1 rfl) ?_
  refine lv_bipush (v := (6 : Int32)) hx hb dX0_paceOf_1 (by decide) ?_
  refine lv_imul hx hb dX0_paceOf_3 ?_
  refine lv_iload_n hx hb dX0_paceOf_4 rfl (lv_at hl 2 rfl) ?_
  refine lv_iadd hx hb dX0_paceOf_5 ?_
  refine lv_bipush (v := (64 : Int32)) hx hb dX0_paceOf_6 (by decide) ?_
  refine lv_imul hx hb dX0_paceOf_8 ?_
  refine lv_iload_n hx hb dX0_paceOf_9 rfl (lv_at hl 3 rfl) ?_
  refine lv_iadd hx hb dX0_paceOf_10 ?_
  refine lv_topi (fun x1 ex1 => ?_)
  replace hf := bnd_at ex1 hf
  clear ex1
  refine lv_istore (lv' := [(4, .int x1), (0, .ref (ad 27)), (1, .int a0), (2, .int a1), (3, .int a2)]) hx hb dX0_paceOf_11 hl (by decide) rfl (fun ls hl => ?_)
  refine lv_iload hx hb dX0_paceOf_13 (lv_at hl 0 rfl) ?_
  refine lv_if_lt (tgt := 28) hx hb dX0_paceOf_15 (by decide) (fun hq => ?_) (fun hq => ?_)
  · replace hf := if_t hq hf
    clear hq
    refine lv_iconst (v := (0 : Int32)) hx hb dX0_paceOf_28 (by decide) ?_
    obtain ⟨e1, e2⟩ := pr_inj hf
    subst e1 e2
    exact m_iret C h dX0_paceOf_29
  · replace hf := if_f hq hf
    clear hq
    refine lv_iload hx hb dX0_paceOf_18 (lv_at hl 0 rfl) ?_
    refine lv_aload_n hx hb dX0_paceOf_20 rfl (lv_at hl 1 rfl) ?_
    refine xg_X0 2 C h (by decide) tb_6_21 rfl rfl dX0_paceOf_21 ?_
    refine ya_28 (v := (2304 : Int32)) C h (by decide) dX0_paceOf_24 ?_
    refine lv_icmp_lt (tgt := 30) hx hb dX0_paceOf_25 (by decide) (fun hq => ?_) (fun hq => ?_)
    · replace hf := if_t hq hf
      clear hq
      refine lv_aload_n hx hb dX0_paceOf_30 rfl (lv_at hl 1 rfl) ?_
      refine xg_X0 2 C h (by decide) tb_6_21 rfl rfl dX0_paceOf_31 ?_
      refine lv_iload hx hb dX0_paceOf_34 (lv_at hl 0 rfl) ?_
      replace hf := chk_some hf
      obtain ⟨hq, hf⟩ := hf
      refine yl_28 C h hq dX0_paceOf_36 ?_
      clear hq
      refine lv_iconst (v := (-1 : Int32)) hx hb dX0_paceOf_37 (by decide) ?_
      refine lv_icmp_ne (tgt := 59) hx hb dX0_paceOf_38 (by decide) (fun hq => ?_) (fun hq => ?_)
      · replace hf := if_tn hq hf
        clear hq
        exact wX0_paceOf_59 (P := P) C g x1 hf H locs ls h (lv_sub hl [1, 0] rfl)
      · replace hf := if_t hq hf
        clear hq
        refine lv_aload_n hx hb dX0_paceOf_41 rfl (lv_at hl 1 rfl) ?_
        refine xg_X0 2 C h (by decide) tb_6_21 rfl rfl dX0_paceOf_42 ?_
        refine lv_iload hx hb dX0_paceOf_45 (lv_at hl 0 rfl) ?_
        refine lv_aload_n hx hb dX0_paceOf_47 rfl (lv_at hl 1 rfl) ?_
        refine xg_X0 0 C h (by decide) tb_6_19 rfl rfl dX0_paceOf_48 ?_
        refine lv_iload_n hx hb dX0_paceOf_51 rfl (lv_at hl 2 rfl) ?_
        refine lv_iload_n hx hb dX0_paceOf_52 rfl (lv_at hl 3 rfl) ?_
        refine lv_iload_n hx hb dX0_paceOf_53 rfl (lv_at hl 4 rfl) ?_
        replace hf := bndc_some hf
        obtain ⟨x2, g3, hc, hf⟩ := hf
        refine m_callVi [.int a0, .int a1, .int a2] C h cv_X0_82 (qX6_pace (by simp [okS, okT, ok6]) hc) rfl ⟨rfl, rfl⟩ ⟨Nat.le_of_ble_eq_true rfl, Nat.le_of_ble_eq_true rfl⟩ (rv_X6 (by simp [okS, okT, ok6]) C h) hl.1 rfl (Nat.le_of_ble_eq_true rfl) ⟨Nat.le_refl _, Nat.le_refl _⟩ dX0_paceOf_54 (fun H locs h => ?_)
        clear hc
        refine lv_i2b hx hb dX0_paceOf_57 rfl ?_
        replace hf := chk_some hf
        obtain ⟨hq, hf⟩ := hf
        replace hf := chk_some hf
        obtain ⟨hz, hf⟩ := hf
        replace hf := bnd_ex hf
        obtain ⟨g4, eg4, hf⟩ := hf
        refine ys_28 C h hq hz dX0_paceOf_58 (fun H locs h => ?_)
        rw [← eg4] at h
        clear hq hz eg4
        exact wX0_paceOf_59 (P := P) C g4 x1 hf H locs ls h (lv_sub hl [1, 0] rfl)
    · replace hf := if_f hq hf
      clear hq
      refine lv_iconst (v := (0 : Int32)) hx hb dX0_paceOf_28 (by decide) ?_
      obtain ⟨e1, e2⟩ := pr_inj hf
      subst e1 e2
      exact m_iret C h dX0_paceOf_29

set_option maxHeartbeats 4000000 in
set_option maxRecDepth 100000 in
theorem qX1_plus {l : Launch} {D : va_G} {cs : Nat → ClassId} {r : Int32}  {a0 : Int32} {a1 : Int32} {a2 : Int32} (hf : fX1_plus a0 a1 a2 = some r) : GCon l D cs yX1_plus cX1_plus 5 (some .int) (rM 0) 0 0 [.int a0, .int a1, .int a2] [] (some (.int r)) [] := by
  refine GCon.of (by decide) (Nat.le_of_ble_eq_true rfl) ?_
  intro p e s m args below meth c A ls H locs C h hl
  have hx := C.1
  have hb := C.2.1
  have C : MCx p s m args meth c A RX1 cX1_plus 5 (some .int) D cs := C
  have hl : lv_has ls 5 [(0, .int a0), (1, .int a1), (2, .int a2)] := hl
  unfold fX1_plus at hf
  refine lv_iload_n hx hb dX1_plus_0 rfl (lv_at hl 0 rfl) ?_
  refine lv_iload_n hx hb dX1_plus_1 rfl (lv_at hl 1 rfl) ?_
  refine lv_iadd hx hb dX1_plus_2 ?_
  refine lv_topi (fun x1 ex1 => ?_)
  replace hf := bnd_at ex1 hf
  clear ex1
  refine lv_istore_n (lv' := [(3, .int x1), (0, .int a0), (1, .int a1), (2, .int a2)]) hx hb dX1_plus_3 rfl hl (by decide) rfl (fun ls hl => ?_)
  refine lv_iload_n hx hb dX1_plus_4 rfl (lv_at hl 0 rfl) ?_
  refine lv_bipush (v := (8 : Int32)) hx hb dX1_plus_5 (by decide) ?_
  refine lv_iload_n hx hb dX1_plus_7 rfl (lv_at hl 3 rfl) ?_
  refine lv_isub hx hb dX1_plus_8 ?_
  refine lv_ldc hx hb C.2.2.2.1 (C.2.2.2.2.1 _ tb_34_22) dX1_plus_9 ?_
  refine lv_imul hx hb dX1_plus_11 ?_
  refine lv_iadd hx hb dX1_plus_12 ?_
  refine lv_ldc hx hb C.2.2.2.1 (C.2.2.2.2.1 _ tb_34_23) dX1_plus_13 ?_
  refine lv_iand hx hb dX1_plus_15 ?_
  refine lv_iconst (v := (3 : Int32)) hx hb dX1_plus_16 (by decide) ?_
  refine x_iushr hx hb dX1_plus_17 ?_
  refine lv_topi (fun x2 ex2 => ?_)
  replace hf := bnd_at ex2 hf
  clear ex2
  refine lv_istore (lv' := [(4, .int x2), (3, .int x1), (0, .int a0), (1, .int a1), (2, .int a2)]) hx hb dX1_plus_18 hl (by decide) rfl (fun ls hl => ?_)
  refine lv_iload_n hx hb dX1_plus_20 rfl (lv_at hl 1 rfl) ?_
  refine lv_iload hx hb dX1_plus_21 (lv_at hl 0 rfl) ?_
  refine lv_iload_n hx hb dX1_plus_23 rfl (lv_at hl 4 rfl) ?_
  refine lv_imul hx hb dX1_plus_24 ?_
  refine lv_isub hx hb dX1_plus_25 ?_
  have e1 := Option.some.inj hf
  subst e1
  exact m_iret C h dX1_plus_26

set_option maxHeartbeats 4000000 in
set_option maxRecDepth 100000 in
theorem qX1_votesAt {l : Launch} {D : va_G} {cs : Nat → ClassId} {r : Int32}  {a0 : Int64} {a1 : Int32} (hf : fX1_votesAt a0 a1 = some r) : GCon l D cs yX1_votesAt cX1_votesAt 3 (some .int) (rM 0) 0 0 [.long a0, .int a1] [] (some (.int r)) [] := by
  refine GCon.of (by decide) (Nat.le_of_ble_eq_true rfl) ?_
  intro p e s m args below meth c A ls H locs C h hl
  have hx := C.1
  have hb := C.2.1
  have C : MCx p s m args meth c A RX1 cX1_votesAt 3 (some .int) D cs := C
  have hl : lv_has ls 3 [(0, .long a0), (2, .int a1)] := hl
  unfold fX1_votesAt at hf
  refine lv_lload_n hx hb dX1_votesAt_0 rfl (lv_at hl 0 rfl) ?_
  refine lv_iload_n hx hb dX1_votesAt_1 rfl (lv_at hl 1 rfl) ?_
  refine lv_iconst (v := (3 : Int32)) hx hb dX1_votesAt_2 (by decide) ?_
  refine x_ishl hx hb dX1_votesAt_3 ?_
  refine x_lushr hx hb dX1_votesAt_4 ?_
  refine lv_l2i hx hb dX1_votesAt_5 rfl ?_
  refine lv_sipush (v := (255 : Int32)) hx hb dX1_votesAt_6 (by decide) ?_
  refine lv_iand hx hb dX1_votesAt_9 ?_
  have e1 := Option.some.inj hf
  subst e1
  exact m_iret C h dX1_votesAt_10

set_option maxHeartbeats 4000000 in
set_option maxRecDepth 100000 in
theorem qX6_isStuck {l : Launch} {D : va_G} {cs : Nat → ClassId} {ad al : Nat → Nat} {P : PL} {r : Int32} {g' : CS} {g : CS}  {o : Nat} {a0 : Int32} (hn_o : okS o) (hf : fX6_isStuck P g o a0 = some (r, g')) : GCon l D cs yX6_isStuck cX6_isStuck 2 (some .boolean) (rM 0) 0 0 [.ref (ad o), .int a0] (SW cs ad al P g) (some (.int r)) (SW cs ad al P g') := by
  refine GCon.of (by decide) (Nat.le_of_ble_eq_true rfl) ?_
  intro p e s m args below meth c A ls H locs C h hl
  have hx := C.1
  have hb := C.2.1
  have C : MCx p s m args meth c A RX6 cX6_isStuck 2 (some .boolean) D cs := C
  have hl : lv_has ls 2 [(0, .ref (ad o)), (1, .int a0)] := hl
  unfold fX6_isStuck at hf
  refine lv_aload_n hx hb dX6_isStuck_0 rfl (lv_at hl 0 rfl) ?_
  refine xg_X6 5 hn_o C h (by decide) tb_19_15 rfl rfl dX6_isStuck_1 ?_
  refine lv_iload_n hx hb dX6_isStuck_4 rfl (lv_at hl 1 rfl) ?_
  refine x_ishr hx hb dX6_isStuck_5 ?_
  refine lv_iconst (v := (1 : Int32)) hx hb dX6_isStuck_6 (by decide) ?_
  refine lv_iand hx hb dX6_isStuck_7 ?_
  refine lv_if_eq (tgt := 15) hx hb dX6_isStuck_8 (by decide) (fun hq => ?_) (fun hq => ?_)
  · replace hf := if_t hq hf
    clear hq
    refine lv_iconst (v := (0 : Int32)) hx hb dX6_isStuck_15 (by decide) ?_
    obtain ⟨e1, e2⟩ := pr_inj hf
    subst e1 e2
    exact m_zret C h rfl dX6_isStuck_16
  · replace hf := if_f hq hf
    clear hq
    refine lv_iconst (v := (1 : Int32)) hx hb dX6_isStuck_11 (by decide) ?_
    refine lv_goto (tgt := 16) hx hb dX6_isStuck_12 (by decide) ?_
    obtain ⟨e1, e2⟩ := pr_inj hf
    subst e1 e2
    exact m_zret C h rfl dX6_isStuck_16

set_option maxHeartbeats 4000000 in
set_option maxRecDepth 100000 in
theorem wX6_votesIn_81 (C : MCx p s m args meth c A RX6 cX6_votesIn 9 (some .long) D cs)  {r : Int64} {g' : CS}  {k14 : CS → Nat → Int64 → Int32 → Int32 → Int32 → Option (Int64 × CS)} (hk14 : ∀ (g : CS) (y0 : Nat) (y2 : Int64) (y4 : Int32) (y5 : Int32) (y6 : Int32), okS y0 → k14 g y0 y2 y4 y5 y6 = some (r, g') → ∀ (H : Heap) (locs : List Loc) (ls : Array Slot), MH D (SW cs ad al P g) A s H locs → lv_has ls 9 [(0, .ref (ad y0)), (2, .long y2), (4, .int y4), (5, .int y5), (6, .int y6)] → W p l e (rM 0) s m args below meth c H locs 0 0 (MQ below (GPost D (some (.long r)) (SW cs ad al P g') A) args s 0 0 A) (F0 m 14 ls [])) : ∀ (g : CS) (y0 : Nat) (y2 : Int64) (y4 : Int32) (y5 : Int32) (y6 : Int32), okS y0 → fX6_votesIn_81 P k14 g y0 y2 y4 y5 y6 = some (r, g') → ∀ (H : Heap) (locs : List Loc) (ls : Array Slot), MH D (SW cs ad al P g) A s H locs → lv_has ls 9 [(0, .ref (ad y0)), (2, .long y2), (4, .int y4), (5, .int y5), (6, .int y6)] → W p l e (rM 0) s m args below meth c H locs 0 0 (MQ below (GPost D (some (.long r)) (SW cs ad al P g') A) args s 0 0 A) (F0 m 81 ls []) := by
  have hx := C.1
  have hb := C.2.1
  intro g y0 y2 y4 y5 y6 hn_y0 hf H locs ls h hl
  unfold fX6_votesIn_81 at hf
  refine lv_iload hx hb dX6_votesIn_81 (lv_at hl 2 rfl) ?_
  refine lv_iconst (v := (4 : Int32)) hx hb dX6_votesIn_83 (by decide) ?_
  refine x_iushr hx hb dX6_votesIn_84 ?_
  refine lv_topi (fun x1 ex1 => ?_)
  replace hf := bnd_at ex1 hf
  clear ex1
  refine lv_istore (lv' := [(4, .int x1), (0, .ref (ad y0)), (2, .long y2), (5, .int y5), (6, .int y6)]) hx hb dX6_votesIn_85 hl (by decide) rfl (fun ls hl => ?_)
  refine lv_iload hx hb dX6_votesIn_87 (lv_at hl 3 rfl) ?_
  refine lv_iconst (v := (4 : Int32)) hx hb dX6_votesIn_89 (by decide) ?_
  refine x_iushr hx hb dX6_votesIn_90 ?_
  refine lv_topi (fun x2 ex2 => ?_)
  replace hf := bnd_at ex2 hf
  clear ex2
  refine lv_istore (lv' := [(5, .int x2), (4, .int x1), (0, .ref (ad y0)), (2, .long y2), (6, .int y6)]) hx hb dX6_votesIn_91 hl (by decide) rfl (fun ls hl => ?_)
  obtain ⟨x3, ex3⟩ : ∃ z : Int32, z = y6 + (1 : Int32) := ⟨_, rfl⟩
  replace hf := bnd_at ex3 hf
  refine lv_iinc (v := x3) (lv' := [(6, .int x3), (5, .int x2), (4, .int x1), (0, .ref (ad y0)), (2, .long y2)]) hx hb dX6_votesIn_93 hl (k := 4) rfl (by rw [ex3]; rfl) (by decide) rfl (fun ls hl => ?_)
  clear ex3
  refine lv_goto (tgt := 14) hx hb dX6_votesIn_96 (by decide) ?_
  exact hk14 g y0 y2 x1 x2 x3 hn_y0 hf H locs ls h (lv_sub hl [3, 4, 2, 1, 0] rfl)

set_option maxHeartbeats 4000000 in
set_option maxRecDepth 100000 in
theorem wX6_votesIn_65 (C : MCx p s m args meth c A RX6 cX6_votesIn 9 (some .long) D cs)  {r : Int64} {g' : CS}  {k14 : CS → Nat → Int64 → Int32 → Int32 → Int32 → Option (Int64 × CS)} (hk14 : ∀ (g : CS) (y0 : Nat) (y2 : Int64) (y4 : Int32) (y5 : Int32) (y6 : Int32), okS y0 → k14 g y0 y2 y4 y5 y6 = some (r, g') → ∀ (H : Heap) (locs : List Loc) (ls : Array Slot), MH D (SW cs ad al P g) A s H locs → lv_has ls 9 [(0, .ref (ad y0)), (2, .long y2), (4, .int y4), (5, .int y5), (6, .int y6)] → W p l e (rM 0) s m args below meth c H locs 0 0 (MQ below (GPost D (some (.long r)) (SW cs ad al P g') A) args s 0 0 A) (F0 m 14 ls [])) : ∀ (g : CS) (y0 : Nat) (y2 : Int64) (y4 : Int32) (y5 : Int32) (y6 : Int32) (t0 : Int32), okS y0 → fX6_votesIn_65 P k14 g y0 y2 y4 y5 y6 t0 = some (r, g') → ∀ (H : Heap) (locs : List Loc) (ls : Array Slot), MH D (SW cs ad al P g) A s H locs → lv_has ls 9 [(0, .ref (ad y0)), (2, .long y2), (4, .int y4), (5, .int y5), (6, .int y6)] → W p l e (rM 0) s m args below meth c H locs 0 0 (MQ below (GPost D (some (.long r)) (SW cs ad al P g') A) args s 0 0 A) (F0 m 65 ls [.int t0]) := by
  have hx := C.1
  have hb := C.2.1
  intro g y0 y2 y4 y5 y6 t0 hn_y0 hf H locs ls h hl
  unfold fX6_votesIn_65 at hf
  refine lv_istore (lv' := [(8, .int t0), (0, .ref (ad y0)), (2, .long y2), (4, .int y4), (5, .int y5), (6, .int y6)]) hx hb dX6_votesIn_65 hl (by decide) rfl (fun ls hl => ?_)
  refine lv_lload_n hx hb dX6_votesIn_67 rfl (lv_at hl 2 rfl) ?_
  refine lv_iload hx hb dX6_votesIn_68 (lv_at hl 4 rfl) ?_
  refine lv_bipush (v := (15 : Int32)) hx hb dX6_votesIn_70 (by decide) ?_
  refine lv_iand hx hb dX6_votesIn_72 ?_
  refine lv_i2l hx hb dX6_votesIn_73 rfl ?_
  refine lv_iload hx hb dX6_votesIn_74 (lv_at hl 0 rfl) ?_
  refine lv_iconst (v := (3 : Int32)) hx hb dX6_votesIn_76 (by decide) ?_
  refine x_ishl hx hb dX6_votesIn_77 ?_
  refine x_lshl hx hb dX6_votesIn_78 ?_
  refine lv_ladd hx hb dX6_votesIn_79 ?_
  refine lv_topl (fun x4 ex4 => ?_)
  replace hf := bnd_at ex4 hf
  clear ex4
  refine lv_lstore_n (lv' := [(2, .long x4), (8, .int t0), (0, .ref (ad y0)), (4, .int y4), (5, .int y5), (6, .int y6)]) hx hb dX6_votesIn_80 rfl hl (by decide) rfl (fun ls hl => ?_)
  exact wX6_votesIn_81 (P := P) C hk14 g y0 x4 y4 y5 y6 hn_y0 hf H locs ls h (lv_sub hl [2, 0, 3, 4, 5] rfl)

set_option maxHeartbeats 4000000 in
set_option maxRecDepth 100000 in
theorem wX6_votesIn_14 (C : MCx p s m args meth c A RX6 cX6_votesIn 9 (some .long) D cs)  {r : Int64} {g' : CS}  : ∀ (n : Nat) (g : CS) (y0 : Nat) (y2 : Int64) (y4 : Int32) (y5 : Int32) (y6 : Int32), okS y0 → fX6_votesIn_14 P n g y0 y2 y4 y5 y6 = some (r, g') → ∀ (H : Heap) (locs : List Loc) (ls : Array Slot), MH D (SW cs ad al P g) A s H locs → lv_has ls 9 [(0, .ref (ad y0)), (2, .long y2), (4, .int y4), (5, .int y5), (6, .int y6)] → W p l e (rM 0) s m args below meth c H locs 0 0 (MQ below (GPost D (some (.long r)) (SW cs ad al P g') A) args s 0 0 A) (F0 m 14 ls []) := by
  have hx := C.1
  have hb := C.2.1
  intro n
  induction n with
  | zero =>
    intro g y0 y2 y4 y5 y6 hn_y0 hf
    exact absurd hf (by simp [fX6_votesIn_14])
  | succ n ih =>
    intro g y0 y2 y4 y5 y6 hn_y0 hf H locs ls h hl
    rw [fX6_votesIn_14] at hf
    refine lv_iload hx hb dX6_votesIn_14 (lv_at hl 4 rfl) ?_
    refine lv_aload_n hx hb dX6_votesIn_16 rfl (lv_at hl 0 rfl) ?_
    refine xg_X6 1 hn_y0 C h (by decide) tb_4_14 rfl rfl dX6_votesIn_17 ?_
    refine lv_icmp_ge (tgt := 99) hx hb dX6_votesIn_20 (by decide) (fun hq => ?_) (fun hq => ?_)
    · replace hf := if_t hq hf
      clear hq
      refine lv_lload_n hx hb dX6_votesIn_99 rfl (lv_at hl 1 rfl) ?_
      obtain ⟨e1, e2⟩ := pr_inj hf
      subst e1 e2
      exact m_lret C h dX6_votesIn_100
    · replace hf := if_f hq hf
      clear hq
      refine lv_iload hx hb dX6_votesIn_23 (lv_at hl 2 rfl) ?_
      refine lv_bipush (v := (15 : Int32)) hx hb dX6_votesIn_25 (by decide) ?_
      refine lv_iand hx hb dX6_votesIn_27 ?_
      refine lv_topi (fun x5 ex5 => ?_)
      replace hf := bnd_at ex5 hf
      clear ex5
      refine lv_istore (lv' := [(7, .int x5), (0, .ref (ad y0)), (2, .long y2), (4, .int y4), (5, .int y5), (6, .int y6)]) hx hb dX6_votesIn_28 hl (by decide) rfl (fun ls hl => ?_)
      refine lv_iload hx hb dX6_votesIn_30 (lv_at hl 0 rfl) ?_
      refine lv_if_eq (tgt := 81) hx hb dX6_votesIn_32 (by decide) (fun hq => ?_) (fun hq => ?_)
      · replace hf := if_t hq hf
        clear hq
        exact wX6_votesIn_81 (P := P) C ih g y0 y2 y4 y5 y6 hn_y0 hf H locs ls h (lv_sub hl [1, 2, 3, 4, 5] rfl)
      · replace hf := if_f hq hf
        clear hq
        refine lv_iload hx hb dX6_votesIn_35 (lv_at hl 5 rfl) ?_
        refine lv_iload hx hb dX6_votesIn_37 (lv_at hl 0 rfl) ?_
        refine lv_iadd hx hb dX6_votesIn_39 ?_
        refine lv_aload_n hx hb dX6_votesIn_40 rfl (lv_at hl 1 rfl) ?_
        refine xg_X6 1 hn_y0 C h (by decide) tb_4_14 rfl rfl dX6_votesIn_41 ?_
        refine lv_icmp_ge (tgt := 55) hx hb dX6_votesIn_44 (by decide) (fun hq => ?_) (fun hq => ?_)
        · replace hf := if_t hq hf
          clear hq
          refine lv_iload hx hb dX6_votesIn_55 (lv_at hl 5 rfl) ?_
          refine lv_iload hx hb dX6_votesIn_57 (lv_at hl 0 rfl) ?_
          refine lv_iadd hx hb dX6_votesIn_59 ?_
          refine lv_aload_n hx hb dX6_votesIn_60 rfl (lv_at hl 1 rfl) ?_
          refine xg_X6 1 hn_y0 C h (by decide) tb_4_14 rfl rfl dX6_votesIn_61 ?_
          refine lv_isub hx hb dX6_votesIn_64 ?_
          exact wX6_votesIn_65 (P := P) C ih g y0 y2 y4 y5 y6 ((y6 + x5) - (g.1 y0 1)) hn_y0 hf H locs ls h (lv_sub hl [1, 2, 3, 4, 5] rfl)
        · replace hf := if_f hq hf
          clear hq
          refine lv_iload hx hb dX6_votesIn_47 (lv_at hl 5 rfl) ?_
          refine lv_iload hx hb dX6_votesIn_49 (lv_at hl 0 rfl) ?_
          refine lv_iadd hx hb dX6_votesIn_51 ?_
          refine lv_goto (tgt := 65) hx hb dX6_votesIn_52 (by decide) ?_
          exact wX6_votesIn_65 (P := P) C ih g y0 y2 y4 y5 y6 (y6 + x5) hn_y0 hf H locs ls h (lv_sub hl [1, 2, 3, 4, 5] rfl)

set_option maxHeartbeats 4000000 in
set_option maxRecDepth 100000 in
theorem qX6_votesIn {l : Launch} {D : va_G} {cs : Nat → ClassId} {ad al : Nat → Nat} {P : PL} {r : Int64} {g' : CS} {g : CS}  {o : Nat} {a0 : Int32} (hn_o : okS o) (hf : fX6_votesIn P g o a0 = some (r, g')) : GCon l D cs yX6_votesIn cX6_votesIn 9 (some .long) (rM 0) 0 0 [.ref (ad o), .int a0] (SW cs ad al P g) (some (.long r)) (SW cs ad al P g') := by
  refine GCon.of (by decide) (Nat.le_of_ble_eq_true rfl) ?_
  intro p e s m args below meth c A ls H locs C h hl
  have hx := C.1
  have hb := C.2.1
  have C : MCx p s m args meth c A RX6 cX6_votesIn 9 (some .long) D cs := C
  have hl : lv_has ls 9 [(0, .ref (ad o)), (1, .int a0)] := hl
  unfold fX6_votesIn at hf
  refine lv_lconst (v := (0 : Int64)) hx hb dX6_votesIn_0 rfl ?_
  refine lv_lstore_n (lv' := [(2, .long (0 : Int64)), (0, .ref (ad o)), (1, .int a0)]) hx hb dX6_votesIn_1 rfl hl (by decide) rfl (fun ls hl => ?_)
  refine lv_iload_n hx hb dX6_votesIn_2 rfl (lv_at hl 2 rfl) ?_
  refine lv_istore (lv' := [(4, .int a0), (2, .long (0 : Int64)), (0, .ref (ad o)), (1, .int a0)]) hx hb dX6_votesIn_3 hl (by decide) rfl (fun ls hl => ?_)
  refine lv_aload_n hx hb dX6_votesIn_5 rfl (lv_at hl 2 rfl) ?_
  refine xg_X6 4 hn_o C h (by decide) tb_4_15 rfl rfl dX6_votesIn_6 ?_
  refine lv_topi (fun x6 ex6 => ?_)
  replace hf := bnd_at ex6 hf
  clear ex6
  refine lv_istore (lv' := [(5, .int x6), (4, .int a0), (2, .long (0 : Int64)), (0, .ref (ad o)), (1, .int a0)]) hx hb dX6_votesIn_9 hl (by decide) rfl (fun ls hl => ?_)
  refine lv_iconst (v := (0 : Int32)) hx hb dX6_votesIn_11 (by decide) ?_
  refine lv_istore (lv' := [(6, .int (0 : Int32)), (5, .int x6), (4, .int a0), (2, .long (0 : Int64)), (0, .ref (ad o)), (1, .int a0)]) hx hb dX6_votesIn_12 hl (by decide) rfl (fun ls hl => ?_)
  exact wX6_votesIn_14 (P := P) C fuel g o (0 : Int64) a0 x6 (0 : Int32) hn_o hf H locs ls h (lv_sub hl [4, 3, 2, 1, 0] rfl)

set_option maxHeartbeats 4000000 in
set_option maxRecDepth 100000 in
theorem wX0_behindMinute_15 (C : MCx p s m args meth c A RX0 cX0_behindMinute 6 (some .int) D cs)  {r : Int32} {g' : CS}  : ∀ (n : Nat) (g : CS) (y1 : Int32) (y2 : Int64) (y4 : Int32) (y5 : Int32), fX0_behindMinute_15 P n g y1 y2 y4 y5 = some (r, g') → ∀ (H : Heap) (locs : List Loc) (ls : Array Slot), MH D (SW cs ad al P g) A s H locs → lv_has ls 6 [(0, .ref (ad 27)), (1, .int y1), (2, .long y2), (4, .int y4), (5, .int y5)] → W p l e (rM 4) s m args below meth c H locs 0 0 (MQ below (GPost D (some (.int r)) (SW cs ad al P g') A) args s 0 0 A) (F0 m 15 ls []) := by
  have hx := C.1
  have hb := C.2.1
  intro n
  induction n with
  | zero =>
    intro g y1 y2 y4 y5 hf
    exact absurd hf (by simp [fX0_behindMinute_15])
  | succ n ih =>
    intro g y1 y2 y4 y5 hf H locs ls h hl
    rw [fX0_behindMinute_15] at hf
    refine lv_iload hx hb dX0_behindMinute_15 (lv_at hl 4 rfl) ?_
    refine lv_aload_n hx hb dX0_behindMinute_17 rfl (lv_at hl 0 rfl) ?_
    refine xg_X0 0 C h (by decide) tb_6_19 rfl rfl dX0_behindMinute_18 ?_
    refine xg_X6 1 (by simp [okS, okT, ok6]) C h (by decide) tb_58_19 rfl rfl dX0_behindMinute_21 ?_
    refine lv_icmp_ge (tgt := 73) hx hb dX0_behindMinute_24 (by decide) (fun hq => ?_) (fun hq => ?_)
    · replace hf := if_t hq hf
      clear hq
      refine lv_iload_n hx hb dX0_behindMinute_73 rfl (lv_at hl 1 rfl) ?_
      refine lv_iload hx hb dX0_behindMinute_74 (lv_at hl 3 rfl) ?_
      refine lv_aload_n hx hb dX0_behindMinute_76 rfl (lv_at hl 0 rfl) ?_
      refine xg_X0 0 C h (by decide) tb_6_19 rfl rfl dX0_behindMinute_77 ?_
      refine xg_X6 1 (by simp [okS, okT, ok6]) C h (by decide) tb_58_19 rfl rfl dX0_behindMinute_80 ?_
      replace hf := bndv_some hf
      obtain ⟨x1, hc, hf⟩ := hf
      refine m_callSi [.int y1, .int y4, .int (g.1 30 1)] C h cs_X0_79 (qX1_plus hc) rfl ⟨rfl, rfl⟩ ⟨Nat.le_of_ble_eq_true rfl, Nat.le_of_ble_eq_true rfl⟩ hl.1 rfl (Nat.le_of_ble_eq_true rfl) ⟨Nat.le_refl _, Nat.le_refl _⟩ dX0_behindMinute_83 (fun H locs h => ?_)
      clear hc
      obtain ⟨e1, e2⟩ := pr_inj hf
      subst e1 e2
      exact m_iret C h dX0_behindMinute_86
    · replace hf := if_f hq hf
      clear hq
      refine lv_aload_n hx hb dX0_behindMinute_27 rfl (lv_at hl 0 rfl) ?_
      refine xg_X0 0 C h (by decide) tb_6_19 rfl rfl dX0_behindMinute_28 ?_
      refine lv_iload hx hb dX0_behindMinute_31 (lv_at hl 4 rfl) ?_
      replace hf := bndc_some hf
      obtain ⟨x2, g3, hc, hf⟩ := hf
      refine m_callVi [.int y5] C h cv_X0_61 (qX6_isStuck (by simp [okS, okT, ok6]) hc) rfl ⟨rfl, rfl⟩ ⟨Nat.le_of_ble_eq_true rfl, Nat.le_of_ble_eq_true rfl⟩ (rv_X6 (by simp [okS, okT, ok6]) C h) hl.1 rfl (Nat.le_of_ble_eq_true rfl) ⟨Nat.le_refl _, Nat.le_refl _⟩ dX0_behindMinute_33 (fun H locs h => ?_)
      clear hc
      refine lv_if_ne (tgt := 67) hx hb dX0_behindMinute_36 (by decide) (fun hq => ?_) (fun hq => ?_)
      · replace hf := if_tn hq hf
        clear hq
        obtain ⟨x4, ex4⟩ : ∃ z : Int32, z = y5 + (1 : Int32) := ⟨_, rfl⟩
        replace hf := bnd_at ex4 hf
        refine lv_iinc (v := x4) (lv' := [(5, .int x4), (0, .ref (ad 27)), (1, .int y1), (2, .long y2), (4, .int y4)]) hx hb dX0_behindMinute_67 hl (k := 4) rfl (by rw [ex4]; rfl) (by decide) rfl (fun ls hl => ?_)
        clear ex4
        refine lv_goto (tgt := 15) hx hb dX0_behindMinute_70 (by decide) ?_
        exact ih g3 y1 y2 y4 x4 hf H locs ls h (lv_sub hl [1, 2, 3, 4, 0] rfl)
      · replace hf := if_t hq hf
        clear hq
        refine lv_iload hx hb dX0_behindMinute_39 (lv_at hl 3 rfl) ?_
        refine lv_aload_n hx hb dX0_behindMinute_41 rfl (lv_at hl 0 rfl) ?_
        refine lv_iload hx hb dX0_behindMinute_42 (lv_at hl 4 rfl) ?_
        refine lv_iload_n hx hb dX0_behindMinute_44 rfl (lv_at hl 1 rfl) ?_
        refine lv_iload hx hb dX0_behindMinute_45 (lv_at hl 4 rfl) ?_
        replace hf := bndv_some hf
        obtain ⟨x5, hc, hf⟩ := hf
        refine m_callSi [.int y1, .int y5] C h cs_X0_65 (qX1_at hc) rfl ⟨rfl, rfl⟩ ⟨Nat.le_of_ble_eq_true rfl, Nat.le_of_ble_eq_true rfl⟩ hl.1 rfl (Nat.le_of_ble_eq_true rfl) ⟨Nat.le_refl _, Nat.le_refl _⟩ dX0_behindMinute_47 (fun H locs h => ?_)
        clear hc
        refine lv_lload_n hx hb dX0_behindMinute_50 rfl (lv_at hl 2 rfl) ?_
        refine lv_iload hx hb dX0_behindMinute_51 (lv_at hl 4 rfl) ?_
        replace hf := bndv_some hf
        obtain ⟨x6, hc, hf⟩ := hf
        refine m_callSi [.long y2, .int y5] C h cs_X0_71 (qX1_votesAt hc) rfl ⟨rfl, rfl⟩ ⟨Nat.le_of_ble_eq_true rfl, Nat.le_of_ble_eq_true rfl⟩ hl.1 rfl (Nat.le_of_ble_eq_true rfl) ⟨Nat.le_refl _, Nat.le_refl _⟩ dX0_behindMinute_53 (fun H locs h => ?_)
        clear hc
        replace hf := bndc_some hf
        obtain ⟨x7, g8, hc, hf⟩ := hf
        refine m_callVi [.int y5, .int x5, .int x6] C h cv_X0_75 (qX0_paceOf hc) rfl ⟨rfl, rfl⟩ ⟨Nat.le_of_ble_eq_true rfl, Nat.le_of_ble_eq_true rfl⟩ (rv_X0 C h) hl.1 rfl (Nat.le_of_ble_eq_true rfl) ⟨Nat.le_refl _, Nat.le_refl _⟩ dX0_behindMinute_56 (fun H locs h => ?_)
        clear hc
        refine lv_iload hx hb dX0_behindMinute_59 (lv_at hl 4 rfl) ?_
        refine lv_iconst (v := (2 : Int32)) hx hb dX0_behindMinute_61 (by decide) ?_
        refine x_ishl hx hb dX0_behindMinute_62 ?_
        refine x_ishl hx hb dX0_behindMinute_63 ?_
        refine lv_ior hx hb dX0_behindMinute_64 ?_
        refine lv_topi (fun x9 ex9 => ?_)
        replace hf := bnd_at ex9 hf
        clear ex9
        refine lv_istore (lv' := [(4, .int x9), (0, .ref (ad 27)), (1, .int y1), (2, .long y2), (5, .int y5)]) hx hb dX0_behindMinute_65 hl (by decide) rfl (fun ls hl => ?_)
        obtain ⟨x10, ex10⟩ : ∃ z : Int32, z = y5 + (1 : Int32) := ⟨_, rfl⟩
        replace hf := bnd_at ex10 hf
        refine lv_iinc (v := x10) (lv' := [(5, .int x10), (4, .int x9), (0, .ref (ad 27)), (1, .int y1), (2, .long y2)]) hx hb dX0_behindMinute_67 hl (k := 4) rfl (by rw [ex10]; rfl) (by decide) rfl (fun ls hl => ?_)
        clear ex10
        refine lv_goto (tgt := 15) hx hb dX0_behindMinute_70 (by decide) ?_
        exact ih g8 y1 y2 x9 x10 hf H locs ls h (lv_sub hl [2, 3, 4, 1, 0] rfl)

set_option maxHeartbeats 4000000 in
set_option maxRecDepth 100000 in
theorem qX0_behindMinute {l : Launch} {D : va_G} {cs : Nat → ClassId} {ad al : Nat → Nat} {P : PL} {r : Int32} {g' : CS} {g : CS}  {a0 : Int32} (hf : fX0_behindMinute P g a0 = some (r, g')) : GCon l D cs yX0_behindMinute cX0_behindMinute 6 (some .int) (rM 4) 0 0 [.ref (ad 27), .int a0] (SW cs ad al P g) (some (.int r)) (SW cs ad al P g') := by
  refine GCon.of (by decide) (Nat.le_of_ble_eq_true rfl) ?_
  intro p e s m args below meth c A ls H locs C h hl
  have hx := C.1
  have hb := C.2.1
  have C : MCx p s m args meth c A RX0 cX0_behindMinute 6 (some .int) D cs := C
  have hl : lv_has ls 6 [(0, .ref (ad 27)), (1, .int a0)] := hl
  unfold fX0_behindMinute at hf
  refine lv_aload_n hx hb dX0_behindMinute_0 rfl (lv_at hl 0 rfl) ?_
  refine xg_X0 0 C h (by decide) tb_6_19 rfl rfl dX0_behindMinute_1 ?_
  refine lv_iload_n hx hb dX0_behindMinute_4 rfl (lv_at hl 1 rfl) ?_
  replace hf := bndc_some hf
  obtain ⟨x11, g12, hc, hf⟩ := hf
  refine m_callVl [.int a0] C h cv_X0_54 (qX6_votesIn (by simp [okS, okT, ok6]) hc) rfl ⟨rfl, rfl⟩ ⟨Nat.le_of_ble_eq_true rfl, Nat.le_of_ble_eq_true rfl⟩ (rv_X6 (by simp [okS, okT, ok6]) C h) hl.1 rfl (Nat.le_of_ble_eq_true rfl) ⟨Nat.le_refl _, Nat.le_refl _⟩ dX0_behindMinute_5 (fun H locs h => ?_)
  clear hc
  refine lv_lstore_n (lv' := [(2, .long x11), (0, .ref (ad 27)), (1, .int a0)]) hx hb dX0_behindMinute_8 rfl hl (by decide) rfl (fun ls hl => ?_)
  refine lv_iconst (v := (0 : Int32)) hx hb dX0_behindMinute_9 (by decide) ?_
  refine lv_istore (lv' := [(4, .int (0 : Int32)), (2, .long x11), (0, .ref (ad 27)), (1, .int a0)]) hx hb dX0_behindMinute_10 hl (by decide) rfl (fun ls hl => ?_)
  refine lv_iconst (v := (0 : Int32)) hx hb dX0_behindMinute_12 (by decide) ?_
  refine lv_istore (lv' := [(5, .int (0 : Int32)), (4, .int (0 : Int32)), (2, .long x11), (0, .ref (ad 27)), (1, .int a0)]) hx hb dX0_behindMinute_13 hl (by decide) rfl (fun ls hl => ?_)
  exact wX0_behindMinute_15 (P := P) C fuel g12 a0 x11 (0 : Int32) (0 : Int32) hf H locs ls h (lv_sub hl [3, 4, 2, 1, 0] rfl)

set_option maxHeartbeats 4000000 in
set_option maxRecDepth 100000 in
theorem wX0_settle_153 (C : MCx p s m args meth c A RX0 cX0_settle 5 none D cs)  {g' : CS}  : ∀ (n : Nat) (g : CS) (y1 : Int32) (y2 : Int32) (y4 : Int32), fX0_settle_153 P n g y1 y2 y4 = some g' → ∀ (H : Heap) (locs : List Loc) (ls : Array Slot), MH D (SW cs ad al P g) A s H locs → lv_has ls 5 [(0, .ref (ad 27)), (1, .int y1), (2, .int y2), (4, .int y4)] → W p l e (rM 5) s m args below meth c H locs 0 0 (MQ below (GPost D none (SW cs ad al P g') A) args s 0 0 A) (F0 m 153 ls []) := by
  have hx := C.1
  have hb := C.2.1
  intro n
  induction n with
  | zero =>
    intro g y1 y2 y4 hf
    exact absurd hf (by simp [fX0_settle_153])
  | succ n ih =>
    intro g y1 y2 y4 hf H locs ls h hl
    rw [fX0_settle_153] at hf
    refine lv_iload hx hb dX0_settle_153 (lv_at hl 3 rfl) ?_
    refine lv_ldc hx hb C.2.2.2.1 (C.2.2.2.2.1 _ tb_58_10) dX0_settle_155 ?_
    refine lv_icmp_ge (tgt := 193) hx hb dX0_settle_157 (by decide) (fun hq => ?_) (fun hq => ?_)
    · replace hf := if_t hq hf
      clear hq
      have e1 := Option.some.inj hf
      subst e1
      exact m_vret C h dX0_settle_193
    · replace hf := if_f hq hf
      clear hq
      refine lv_iload_n hx hb dX0_settle_160 rfl (lv_at hl 1 rfl) ?_
      refine lv_iload_n hx hb dX0_settle_161 rfl (lv_at hl 2 rfl) ?_
      refine lv_icmp_eq (tgt := 193) hx hb dX0_settle_162 (by decide) (fun hq => ?_) (fun hq => ?_)
      · replace hf := if_t hq hf
        clear hq
        have e1 := Option.some.inj hf
        subst e1
        exact m_vret C h dX0_settle_193
      · replace hf := if_f hq hf
        clear hq
        refine lv_aload_n hx hb dX0_settle_165 rfl (lv_at hl 0 rfl) ?_
        refine lv_iload_n hx hb dX0_settle_166 rfl (lv_at hl 1 rfl) ?_
        replace hf := bndc_some hf
        obtain ⟨x1, g2, hc, hf⟩ := hf
        refine m_callVi [.int y1] C h cv_X0_37 (qX0_behindMinute hc) rfl ⟨rfl, rfl⟩ ⟨Nat.le_of_ble_eq_true rfl, Nat.le_of_ble_eq_true rfl⟩ (rv_X0 C h) hl.1 rfl (Nat.le_of_ble_eq_true rfl) ⟨Nat.le_refl _, Nat.le_refl _⟩ dX0_settle_167 (fun H locs h => ?_)
        clear hc
        refine lv_istore_n (lv' := [(1, .int x1), (0, .ref (ad 27)), (2, .int y2), (4, .int y4)]) hx hb dX0_settle_170 rfl hl (by decide) rfl (fun ls hl => ?_)
        refine lv_aload_n hx hb dX0_settle_171 rfl (lv_at hl 1 rfl) ?_
        refine lv_iload_n hx hb dX0_settle_172 rfl (lv_at hl 2 rfl) ?_
        replace hf := bndc_some hf
        obtain ⟨x3, g4, hc, hf⟩ := hf
        refine m_callVi [.int y2] C h cv_X0_37 (qX0_behindMinute hc) rfl ⟨rfl, rfl⟩ ⟨Nat.le_of_ble_eq_true rfl, Nat.le_of_ble_eq_true rfl⟩ (rv_X0 C h) hl.1 rfl (Nat.le_of_ble_eq_true rfl) ⟨Nat.le_refl _, Nat.le_refl _⟩ dX0_settle_173 (fun H locs h => ?_)
        clear hc
        refine lv_istore_n (lv' := [(2, .int x3), (1, .int x1), (0, .ref (ad 27)), (4, .int y4)]) hx hb dX0_settle_176 rfl hl (by decide) rfl (fun ls hl => ?_)
        refine lv_aload_n hx hb dX0_settle_177 rfl (lv_at hl 2 rfl) ?_
        refine lv_dup hx hb dX0_settle_178 rfl ?_
        refine xg_X0 3 C h (by decide) tb_58_11 rfl rfl dX0_settle_179 ?_
        refine lv_iconst (v := (1 : Int32)) hx hb dX0_settle_182 (by decide) ?_
        refine lv_iadd hx hb dX0_settle_183 ?_
        replace hf := bnd_ex hf
        obtain ⟨g5, eg5, hf⟩ := hf
        refine xp_X0_3 C h tb_58_11 dX0_settle_184 (fun H locs h => ?_)
        rw [← eg5] at h
        clear eg5
        obtain ⟨x6, ex6⟩ : ∃ z : Int32, z = y4 + (1 : Int32) := ⟨_, rfl⟩
        replace hf := bnd_at ex6 hf
        refine lv_iinc (v := x6) (lv' := [(4, .int x6), (2, .int x3), (1, .int x1), (0, .ref (ad 27))]) hx hb dX0_settle_187 hl (k := 3) rfl (by rw [ex6]; rfl) (by decide) rfl (fun ls hl => ?_)
        clear ex6
        refine lv_goto (tgt := 153) hx hb dX0_settle_190 (by decide) ?_
        exact ih g5 x1 x3 x6 hf H locs ls h (lv_sub hl [3, 2, 1, 0] rfl)

set_option maxHeartbeats 4000000 in
set_option maxRecDepth 100000 in
theorem wX0_settle_124 (C : MCx p s m args meth c A RX0 cX0_settle 5 none D cs)  {g' : CS}  : ∀ (n : Nat) (g : CS) (y1 : Int32) (y2 : Int32) (y4 : Int32), fX0_settle_124 P n g y1 y2 y4 = some g' → ∀ (H : Heap) (locs : List Loc) (ls : Array Slot), MH D (SW cs ad al P g) A s H locs → lv_has ls 5 [(0, .ref (ad 27)), (1, .int y1), (2, .int y2), (4, .int y4)] → W p l e (rM 5) s m args below meth c H locs 0 0 (MQ below (GPost D none (SW cs ad al P g') A) args s 0 0 A) (F0 m 124 ls []) := by
  have hx := C.1
  have hb := C.2.1
  intro n
  induction n with
  | zero =>
    intro g y1 y2 y4 hf
    exact absurd hf (by simp [fX0_settle_124])
  | succ n ih =>
    intro g y1 y2 y4 hf H locs ls h hl
    rw [fX0_settle_124] at hf
    refine lv_iload hx hb dX0_settle_124 (lv_at hl 3 rfl) ?_
    refine lv_aload_n hx hb dX0_settle_126 rfl (lv_at hl 0 rfl) ?_
    refine xg_X0 4 C h (by decide) tb_58_9 rfl rfl dX0_settle_127 ?_
    refine lv_icmp_ge (tgt := 145) hx hb dX0_settle_130 (by decide) (fun hq => ?_) (fun hq => ?_)
    · replace hf := if_t hq hf
      clear hq
      refine lv_aload_n hx hb dX0_settle_145 rfl (lv_at hl 0 rfl) ?_
      refine lv_iconst (v := (0 : Int32)) hx hb dX0_settle_146 (by decide) ?_
      replace hf := bnd_ex hf
      obtain ⟨g7, eg7, hf⟩ := hf
      refine xp_X0_3 C h tb_58_11 dX0_settle_147 (fun H locs h => ?_)
      rw [← eg7] at h
      clear eg7
      refine lv_iconst (v := (0 : Int32)) hx hb dX0_settle_150 (by decide) ?_
      refine lv_istore (lv' := [(4, .int (0 : Int32)), (0, .ref (ad 27)), (1, .int y1), (2, .int y2)]) hx hb dX0_settle_151 hl (by decide) rfl (fun ls hl => ?_)
      exact wX0_settle_153 (P := P) C fuel g7 y1 y2 (0 : Int32) hf H locs ls h (lv_sub hl [1, 2, 3, 0] rfl)
    · replace hf := if_f hq hf
      clear hq
      refine lv_aload_n hx hb dX0_settle_133 rfl (lv_at hl 0 rfl) ?_
      refine lv_iload_n hx hb dX0_settle_134 rfl (lv_at hl 2 rfl) ?_
      replace hf := bndc_some hf
      obtain ⟨x8, g9, hc, hf⟩ := hf
      refine m_callVi [.int y2] C h cv_X0_37 (qX0_behindMinute hc) rfl ⟨rfl, rfl⟩ ⟨Nat.le_of_ble_eq_true rfl, Nat.le_of_ble_eq_true rfl⟩ (rv_X0 C h) hl.1 rfl (Nat.le_of_ble_eq_true rfl) ⟨Nat.le_refl _, Nat.le_refl _⟩ dX0_settle_135 (fun H locs h => ?_)
      clear hc
      refine lv_istore_n (lv' := [(2, .int x8), (0, .ref (ad 27)), (1, .int y1), (4, .int y4)]) hx hb dX0_settle_138 rfl hl (by decide) rfl (fun ls hl => ?_)
      obtain ⟨x10, ex10⟩ : ∃ z : Int32, z = y4 + (1 : Int32) := ⟨_, rfl⟩
      replace hf := bnd_at ex10 hf
      refine lv_iinc (v := x10) (lv' := [(4, .int x10), (2, .int x8), (0, .ref (ad 27)), (1, .int y1)]) hx hb dX0_settle_139 hl (k := 3) rfl (by rw [ex10]; rfl) (by decide) rfl (fun ls hl => ?_)
      clear ex10
      refine lv_goto (tgt := 124) hx hb dX0_settle_142 (by decide) ?_
      exact ih g9 y1 x8 x10 hf H locs ls h (lv_sub hl [2, 3, 1, 0] rfl)

set_option maxHeartbeats 4000000 in
set_option maxRecDepth 100000 in
theorem wX0_settle_111 (C : MCx p s m args meth c A RX0 cX0_settle 5 none D cs)  {g' : CS}  : ∀ (g : CS), fX0_settle_111 P g = some g' → ∀ (H : Heap) (locs : List Loc) (ls : Array Slot), MH D (SW cs ad al P g) A s H locs → lv_has ls 5 [(0, .ref (ad 27))] → W p l e (rM 5) s m args below meth c H locs 0 0 (MQ below (GPost D none (SW cs ad al P g') A) args s 0 0 A) (F0 m 111 ls []) := by
  have hx := C.1
  have hb := C.2.1
  intro g hf H locs ls h hl
  unfold fX0_settle_111 at hf
  refine lv_aload_n hx hb dX0_settle_111 rfl (lv_at hl 0 rfl) ?_
  refine xg_X0 0 C h (by decide) tb_6_19 rfl rfl dX0_settle_112 ?_
  refine xg_X6 3 (by simp [okS, okT, ok6]) C h (by decide) tb_58_8 rfl rfl dX0_settle_115 ?_
  refine lv_topi (fun x11 ex11 => ?_)
  replace hf := bnd_at ex11 hf
  clear ex11
  refine lv_istore_n (lv' := [(1, .int x11), (0, .ref (ad 27))]) hx hb dX0_settle_118 rfl hl (by decide) rfl (fun ls hl => ?_)
  refine lv_iload_n hx hb dX0_settle_119 rfl (lv_at hl 0 rfl) ?_
  refine lv_istore_n (lv' := [(2, .int x11), (1, .int x11), (0, .ref (ad 27))]) hx hb dX0_settle_120 rfl hl (by decide) rfl (fun ls hl => ?_)
  refine lv_iconst (v := (0 : Int32)) hx hb dX0_settle_121 (by decide) ?_
  refine lv_istore (lv' := [(4, .int (0 : Int32)), (2, .int x11), (1, .int x11), (0, .ref (ad 27))]) hx hb dX0_settle_122 hl (by decide) rfl (fun ls hl => ?_)
  exact wX0_settle_124 (P := P) C fuel g x11 x11 (0 : Int32) hf H locs ls h (lv_sub hl [3, 2, 1, 0] rfl)

set_option maxHeartbeats 4000000 in
set_option maxRecDepth 100000 in
theorem wX0_settle_89 (C : MCx p s m args meth c A RX0 cX0_settle 5 none D cs)  {g' : CS}  {k58 : CS → Int32 → Int32 → Int32 → Int32 → Option (CS)} (hk58 : ∀ (g : CS) (y1 : Int32) (y2 : Int32) (y3 : Int32) (y4 : Int32), k58 g y1 y2 y3 y4 = some g' → ∀ (H : Heap) (locs : List Loc) (ls : Array Slot), MH D (SW cs ad al P g) A s H locs → lv_has ls 5 [(0, .ref (ad 27)), (1, .int y1), (2, .int y2), (3, .int y3), (4, .int y4)] → W p l e (rM 5) s m args below meth c H locs 0 0 (MQ below (GPost D none (SW cs ad al P g') A) args s 0 0 A) (F0 m 58 ls [])) : ∀ (g : CS) (y1 : Int32) (y2 : Int32) (y3 : Int32) (y4 : Int32), fX0_settle_89 P k58 g y1 y2 y3 y4 = some g' → ∀ (H : Heap) (locs : List Loc) (ls : Array Slot), MH D (SW cs ad al P g) A s H locs → lv_has ls 5 [(0, .ref (ad 27)), (1, .int y1), (2, .int y2), (3, .int y3), (4, .int y4)] → W p l e (rM 5) s m args below meth c H locs 0 0 (MQ below (GPost D none (SW cs ad al P g') A) args s 0 0 A) (F0 m 89 ls []) := by
  have hx := C.1
  have hb := C.2.1
  intro g y1 y2 y3 y4 hf H locs ls h hl
  unfold fX0_settle_89 at hf
  refine lv_aload_n hx hb dX0_settle_89 rfl (lv_at hl 0 rfl) ?_
  refine lv_iload_n hx hb dX0_settle_90 rfl (lv_at hl 2 rfl) ?_
  replace hf := bndc_some hf
  obtain ⟨x12, g13, hc, hf⟩ := hf
  refine m_callVi [.int y2] C h cv_X0_37 (qX0_behindMinute hc) rfl ⟨rfl, rfl⟩ ⟨Nat.le_of_ble_eq_true rfl, Nat.le_of_ble_eq_true rfl⟩ (rv_X0 C h) hl.1 rfl (Nat.le_of_ble_eq_true rfl) ⟨Nat.le_refl _, Nat.le_refl _⟩ dX0_settle_91 (fun H locs h => ?_)
  clear hc
  refine lv_istore_n (lv' := [(2, .int x12), (0, .ref (ad 27)), (1, .int y1), (3, .int y3), (4, .int y4)]) hx hb dX0_settle_94 rfl hl (by decide) rfl (fun ls hl => ?_)
  refine lv_aload_n hx hb dX0_settle_95 rfl (lv_at hl 1 rfl) ?_
  refine lv_dup hx hb dX0_settle_96 rfl ?_
  refine xg_X0 4 C h (by decide) tb_58_9 rfl rfl dX0_settle_97 ?_
  refine lv_iconst (v := (1 : Int32)) hx hb dX0_settle_100 (by decide) ?_
  refine lv_iadd hx hb dX0_settle_101 ?_
  replace hf := bnd_ex hf
  obtain ⟨g14, eg14, hf⟩ := hf
  refine xp_X0_4 C h tb_58_9 dX0_settle_102 (fun H locs h => ?_)
  rw [← eg14] at h
  clear eg14
  obtain ⟨x15, ex15⟩ : ∃ z : Int32, z = y4 + (1 : Int32) := ⟨_, rfl⟩
  replace hf := bnd_at ex15 hf
  refine lv_iinc (v := x15) (lv' := [(4, .int x15), (2, .int x12), (0, .ref (ad 27)), (1, .int y1), (3, .int y3)]) hx hb dX0_settle_105 hl (k := 4) rfl (by rw [ex15]; rfl) (by decide) rfl (fun ls hl => ?_)
  clear ex15
  refine lv_goto (tgt := 58) hx hb dX0_settle_108 (by decide) ?_
  exact hk58 g14 y1 x12 y3 x15 hf H locs ls h (lv_sub hl [2, 3, 1, 4, 0] rfl)

set_option maxHeartbeats 4000000 in
set_option maxRecDepth 100000 in
theorem wX0_settle_58 (C : MCx p s m args meth c A RX0 cX0_settle 5 none D cs)  {g' : CS}  : ∀ (n : Nat) (g : CS) (y1 : Int32) (y2 : Int32) (y3 : Int32) (y4 : Int32), fX0_settle_58 P n g y1 y2 y3 y4 = some g' → ∀ (H : Heap) (locs : List Loc) (ls : Array Slot), MH D (SW cs ad al P g) A s H locs → lv_has ls 5 [(0, .ref (ad 27)), (1, .int y1), (2, .int y2), (3, .int y3), (4, .int y4)] → W p l e (rM 5) s m args below meth c H locs 0 0 (MQ below (GPost D none (SW cs ad al P g') A) args s 0 0 A) (F0 m 58 ls []) := by
  have hx := C.1
  have hb := C.2.1
  intro n
  induction n with
  | zero =>
    intro g y1 y2 y3 y4 hf
    exact absurd hf (by simp [fX0_settle_58])
  | succ n ih =>
    intro g y1 y2 y3 y4 hf H locs ls h hl
    rw [fX0_settle_58] at hf
    refine lv_iload hx hb dX0_settle_58 (lv_at hl 4 rfl) ?_
    refine lv_ldc hx hb C.2.2.2.1 (C.2.2.2.2.1 _ tb_58_10) dX0_settle_60 ?_
    refine lv_icmp_ge (tgt := 111) hx hb dX0_settle_62 (by decide) (fun hq => ?_) (fun hq => ?_)
    · replace hf := if_t hq hf
      clear hq
      exact wX0_settle_111 (P := P) C g hf H locs ls h (lv_sub hl [0] rfl)
    · replace hf := if_f hq hf
      clear hq
      refine lv_iload_n hx hb dX0_settle_65 rfl (lv_at hl 1 rfl) ?_
      refine lv_iload_n hx hb dX0_settle_66 rfl (lv_at hl 2 rfl) ?_
      refine lv_icmp_eq (tgt := 111) hx hb dX0_settle_67 (by decide) (fun hq => ?_) (fun hq => ?_)
      · replace hf := if_t hq hf
        clear hq
        exact wX0_settle_111 (P := P) C g hf H locs ls h (lv_sub hl [0] rfl)
      · replace hf := if_f hq hf
        clear hq
        refine lv_aload_n hx hb dX0_settle_70 rfl (lv_at hl 0 rfl) ?_
        refine xg_X0 4 C h (by decide) tb_58_9 rfl rfl dX0_settle_71 ?_
        refine lv_iload_n hx hb dX0_settle_74 rfl (lv_at hl 3 rfl) ?_
        refine lv_icmp_ne (tgt := 89) hx hb dX0_settle_75 (by decide) (fun hq => ?_) (fun hq => ?_)
        · replace hf := if_tn hq hf
          clear hq
          exact wX0_settle_89 (P := P) C ih g y1 y2 y3 y4 hf H locs ls h (lv_sub hl [0, 1, 2, 3, 4] rfl)
        · replace hf := if_t hq hf
          clear hq
          refine lv_iload_n hx hb dX0_settle_78 rfl (lv_at hl 2 rfl) ?_
          refine lv_istore_n (lv' := [(1, .int y2), (0, .ref (ad 27)), (2, .int y2), (3, .int y3), (4, .int y4)]) hx hb dX0_settle_79 rfl hl (by decide) rfl (fun ls hl => ?_)
          refine lv_iload_n hx hb dX0_settle_80 rfl (lv_at hl 3 rfl) ?_
          refine lv_iconst (v := (2 : Int32)) hx hb dX0_settle_81 (by decide) ?_
          refine lv_imul hx hb dX0_settle_82 ?_
          refine lv_topi (fun x16 ex16 => ?_)
          replace hf := bnd_at ex16 hf
          clear ex16
          refine lv_istore_n (lv' := [(3, .int x16), (1, .int y2), (0, .ref (ad 27)), (2, .int y2), (4, .int y4)]) hx hb dX0_settle_83 rfl hl (by decide) rfl (fun ls hl => ?_)
          refine lv_aload_n hx hb dX0_settle_84 rfl (lv_at hl 2 rfl) ?_
          refine lv_iconst (v := (0 : Int32)) hx hb dX0_settle_85 (by decide) ?_
          replace hf := bnd_ex hf
          obtain ⟨g17, eg17, hf⟩ := hf
          refine xp_X0_4 C h tb_58_9 dX0_settle_86 (fun H locs h => ?_)
          rw [← eg17] at h
          clear eg17
          exact wX0_settle_89 (P := P) C ih g17 y2 y2 x16 y4 hf H locs ls h (lv_sub hl [2, 1, 3, 0, 4] rfl)

set_option maxHeartbeats 4000000 in
set_option maxRecDepth 100000 in
theorem qX0_settle {l : Launch} {D : va_G} {cs : Nat → ClassId} {ad al : Nat → Nat} {P : PL} {g' : CS} {g : CS}  (hf : fX0_settle P g = some g') : GCon l D cs yX0_settle cX0_settle 5 none (rM 5) 0 0 [.ref (ad 27)] (SW cs ad al P g) none (SW cs ad al P g') := by
  refine GCon.of (by decide) (Nat.le_of_ble_eq_true rfl) ?_
  intro p e s m args below meth c A ls H locs C h hl
  have hx := C.1
  have hb := C.2.1
  have C : MCx p s m args meth c A RX0 cX0_settle 5 none D cs := C
  have hl : lv_has ls 5 [(0, .ref (ad 27))] := hl
  unfold fX0_settle at hf
  refine lv_aload_n hx hb dX0_settle_0 rfl (lv_at hl 0 rfl) ?_
  refine xg_X0 1 C h (by decide) tb_6_20 rfl rfl dX0_settle_1 ?_
  refine lv_aload_n hx hb dX0_settle_4 rfl (lv_at hl 0 rfl) ?_
  refine xg_X0 0 C h (by decide) tb_6_19 rfl rfl dX0_settle_5 ?_
  refine xg_X6 7 (by simp [okS, okT, ok6]) C h (by decide) tb_58_7 rfl rfl dX0_settle_8 ?_
  refine lv_icmp_ne (tgt := 15) hx hb dX0_settle_11 (by decide) (fun hq => ?_) (fun hq => ?_)
  · replace hf := if_tn hq hf
    clear hq
    refine lv_aload_n hx hb dX0_settle_15 rfl (lv_at hl 0 rfl) ?_
    refine lv_aload_n hx hb dX0_settle_16 rfl (lv_at hl 0 rfl) ?_
    refine xg_X0 0 C h (by decide) tb_6_19 rfl rfl dX0_settle_17 ?_
    refine xg_X6 7 (by simp [okS, okT, ok6]) C h (by decide) tb_58_7 rfl rfl dX0_settle_20 ?_
    replace hf := bnd_ex hf
    obtain ⟨g18, eg18, hf⟩ := hf
    refine xp_X0_1 C h tb_6_20 dX0_settle_23 (fun H locs h => ?_)
    rw [← eg18] at h
    clear eg18
    refine lv_aload_n hx hb dX0_settle_26 rfl (lv_at hl 0 rfl) ?_
    refine xg_X0 2 C h (by decide) tb_6_21 rfl rfl dX0_settle_27 ?_
    refine lv_iconst (v := (-1 : Int32)) hx hb dX0_settle_30 (by decide) ?_
    replace hf := bndv_some hf
    obtain ⟨g19, hc, hf⟩ := hf
    refine m_callSWv [.ref (ad 28), .int (-1 : Int32)] C h cs_X0_28 (qJ7_fill_031fb hc) rfl ⟨rfl, rfl⟩ ⟨Nat.le_of_ble_eq_true rfl, Nat.le_of_ble_eq_true rfl⟩ hl.1 rfl (Nat.le_of_ble_eq_true rfl) ⟨Nat.le_refl _, Nat.le_refl _⟩ dX0_settle_31 (fun H locs h => ?_)
    clear hc
    refine lv_aload_n hx hb dX0_settle_34 rfl (lv_at hl 0 rfl) ?_
    refine xg_X0 0 C h (by decide) tb_6_19 rfl rfl dX0_settle_35 ?_
    refine xg_X6 3 (by simp [okS, okT, ok6]) C h (by decide) tb_58_8 rfl rfl dX0_settle_38 ?_
    refine lv_topi (fun x20 ex20 => ?_)
    replace hf := bnd_at ex20 hf
    clear ex20
    refine lv_istore_n (lv' := [(1, .int x20), (0, .ref (ad 27))]) hx hb dX0_settle_41 rfl hl (by decide) rfl (fun ls hl => ?_)
    refine lv_aload_n hx hb dX0_settle_42 rfl (lv_at hl 1 rfl) ?_
    refine lv_iload_n hx hb dX0_settle_43 rfl (lv_at hl 0 rfl) ?_
    replace hf := bndc_some hf
    obtain ⟨x21, g22, hc, hf⟩ := hf
    refine m_callVi [.int x20] C h cv_X0_37 (qX0_behindMinute hc) rfl ⟨rfl, rfl⟩ ⟨Nat.le_of_ble_eq_true rfl, Nat.le_of_ble_eq_true rfl⟩ (rv_X0 C h) hl.1 rfl (Nat.le_of_ble_eq_true rfl) ⟨Nat.le_refl _, Nat.le_refl _⟩ dX0_settle_44 (fun H locs h => ?_)
    clear hc
    refine lv_istore_n (lv' := [(2, .int x21), (1, .int x20), (0, .ref (ad 27))]) hx hb dX0_settle_47 rfl hl (by decide) rfl (fun ls hl => ?_)
    refine lv_iconst (v := (1 : Int32)) hx hb dX0_settle_48 (by decide) ?_
    refine lv_istore_n (lv' := [(3, .int (1 : Int32)), (2, .int x21), (1, .int x20), (0, .ref (ad 27))]) hx hb dX0_settle_49 rfl hl (by decide) rfl (fun ls hl => ?_)
    refine lv_aload_n hx hb dX0_settle_50 rfl (lv_at hl 3 rfl) ?_
    refine lv_iconst (v := (1 : Int32)) hx hb dX0_settle_51 (by decide) ?_
    replace hf := bnd_ex hf
    obtain ⟨g23, eg23, hf⟩ := hf
    refine xp_X0_4 C h tb_58_9 dX0_settle_52 (fun H locs h => ?_)
    rw [← eg23] at h
    clear eg23
    refine lv_iconst (v := (0 : Int32)) hx hb dX0_settle_55 (by decide) ?_
    refine lv_istore (lv' := [(4, .int (0 : Int32)), (3, .int (1 : Int32)), (2, .int x21), (1, .int x20), (0, .ref (ad 27))]) hx hb dX0_settle_56 hl (by decide) rfl (fun ls hl => ?_)
    exact wX0_settle_58 (P := P) C fuel g23 x20 x21 (1 : Int32) (0 : Int32) hf H locs ls h (lv_sub hl [4, 3, 2, 1, 0] rfl)
  · replace hf := if_t hq hf
    clear hq
    have e1 := Option.some.inj hf
    subst e1
    exact m_vret C h dX0_settle_14

set_option maxHeartbeats 4000000 in
set_option maxRecDepth 100000 in
theorem wX0_lookIn_52 (C : MCx p s m args meth c A RX0 cX0_lookIn 5 (some .int) D cs)  {r : Int32} {g' : CS}  : ∀ (n : Nat) (g : CS) (y2 : Int32) (y3 : Int32) (y4 : Int32), fX0_lookIn_52 P n g y2 y3 y4 = some (r, g') → ∀ (H : Heap) (locs : List Loc) (ls : Array Slot), MH D (SW cs ad al P g) A s H locs → lv_has ls 5 [(0, .ref (ad 27)), (2, .int y2), (3, .int y3), (4, .int y4)] → W p l e (rM 6) s m args below meth c H locs 0 0 (MQ below (GPost D (some (.int r)) (SW cs ad al P g') A) args s 0 0 A) (F0 m 52 ls []) := by
  have hx := C.1
  have hb := C.2.1
  intro n
  induction n with
  | zero =>
    intro g y2 y3 y4 hf
    exact absurd hf (by simp [fX0_lookIn_52])
  | succ n ih =>
    intro g y2 y3 y4 hf H locs ls h hl
    rw [fX0_lookIn_52] at hf
    refine lv_iload hx hb dX0_lookIn_52 (lv_at hl 3 rfl) ?_
    refine lv_iload_n hx hb dX0_lookIn_54 rfl (lv_at hl 1 rfl) ?_
    refine lv_icmp_ge (tgt := 70) hx hb dX0_lookIn_55 (by decide) (fun hq => ?_) (fun hq => ?_)
    · replace hf := if_t hq hf
      clear hq
      refine lv_iload_n hx hb dX0_lookIn_70 rfl (lv_at hl 2 rfl) ?_
      obtain ⟨e1, e2⟩ := pr_inj hf
      subst e1 e2
      exact m_iret C h dX0_lookIn_71
    · replace hf := if_f hq hf
      clear hq
      refine lv_aload_n hx hb dX0_lookIn_58 rfl (lv_at hl 0 rfl) ?_
      refine lv_iload_n hx hb dX0_lookIn_59 rfl (lv_at hl 2 rfl) ?_
      replace hf := bndc_some hf
      obtain ⟨x1, g2, hc, hf⟩ := hf
      refine m_callVi [.int y3] C h cv_X0_37 (qX0_behindMinute hc) rfl ⟨rfl, rfl⟩ ⟨Nat.le_of_ble_eq_true rfl, Nat.le_of_ble_eq_true rfl⟩ (rv_X0 C h) hl.1 rfl (Nat.le_of_ble_eq_true rfl) ⟨Nat.le_refl _, Nat.le_refl _⟩ dX0_lookIn_60 (fun H locs h => ?_)
      clear hc
      refine lv_istore_n (lv' := [(3, .int x1), (0, .ref (ad 27)), (2, .int y2), (4, .int y4)]) hx hb dX0_lookIn_63 rfl hl (by decide) rfl (fun ls hl => ?_)
      obtain ⟨x3, ex3⟩ : ∃ z : Int32, z = y4 + (1 : Int32) := ⟨_, rfl⟩
      replace hf := bnd_at ex3 hf
      refine lv_iinc (v := x3) (lv' := [(4, .int x3), (3, .int x1), (0, .ref (ad 27)), (2, .int y2)]) hx hb dX0_lookIn_64 hl (k := 3) rfl (by rw [ex3]; rfl) (by decide) rfl (fun ls hl => ?_)
      clear ex3
      refine lv_goto (tgt := 52) hx hb dX0_lookIn_67 (by decide) ?_
      exact ih g2 y2 x1 x3 hf H locs ls h (lv_sub hl [2, 3, 1, 0] rfl)

set_option maxHeartbeats 4000000 in
set_option maxRecDepth 100000 in
theorem wX0_lookIn_40 (C : MCx p s m args meth c A RX0 cX0_lookIn 5 (some .int) D cs)  {r : Int32} {g' : CS}  : ∀ (g : CS) (t0 : Int32), fX0_lookIn_40 P g t0 = some (r, g') → ∀ (H : Heap) (locs : List Loc) (ls : Array Slot), MH D (SW cs ad al P g) A s H locs → lv_has ls 5 [(0, .ref (ad 27))] → W p l e (rM 6) s m args below meth c H locs 0 0 (MQ below (GPost D (some (.int r)) (SW cs ad al P g') A) args s 0 0 A) (F0 m 40 ls [.int t0]) := by
  have hx := C.1
  have hb := C.2.1
  intro g t0 hf H locs ls h hl
  unfold fX0_lookIn_40 at hf
  refine lv_istore_n (lv' := [(2, .int t0), (0, .ref (ad 27))]) hx hb dX0_lookIn_40 rfl hl (by decide) rfl (fun ls hl => ?_)
  refine lv_aload_n hx hb dX0_lookIn_41 rfl (lv_at hl 1 rfl) ?_
  refine xg_X0 0 C h (by decide) tb_6_19 rfl rfl dX0_lookIn_42 ?_
  refine xg_X6 3 (by simp [okS, okT, ok6]) C h (by decide) tb_58_8 rfl rfl dX0_lookIn_45 ?_
  refine lv_topi (fun x4 ex4 => ?_)
  replace hf := bnd_at ex4 hf
  clear ex4
  refine lv_istore_n (lv' := [(3, .int x4), (2, .int t0), (0, .ref (ad 27))]) hx hb dX0_lookIn_48 rfl hl (by decide) rfl (fun ls hl => ?_)
  refine lv_iconst (v := (0 : Int32)) hx hb dX0_lookIn_49 (by decide) ?_
  refine lv_istore (lv' := [(4, .int (0 : Int32)), (3, .int x4), (2, .int t0), (0, .ref (ad 27))]) hx hb dX0_lookIn_50 hl (by decide) rfl (fun ls hl => ?_)
  exact wX0_lookIn_52 (P := P) C fuel g t0 x4 (0 : Int32) hf H locs ls h (lv_sub hl [3, 2, 1, 0] rfl)

set_option maxHeartbeats 4000000 in
set_option maxRecDepth 100000 in
theorem wX0_lookIn_20 (C : MCx p s m args meth c A RX0 cX0_lookIn 5 (some .int) D cs)  {r : Int32} {g' : CS}  : ∀ (g : CS) (y1 : Int32), fX0_lookIn_20 P g y1 = some (r, g') → ∀ (H : Heap) (locs : List Loc) (ls : Array Slot), MH D (SW cs ad al P g) A s H locs → lv_has ls 5 [(0, .ref (ad 27)), (1, .int y1)] → W p l e (rM 6) s m args below meth c H locs 0 0 (MQ below (GPost D (some (.int r)) (SW cs ad al P g') A) args s 0 0 A) (F0 m 20 ls []) := by
  have hx := C.1
  have hb := C.2.1
  intro g y1 hf H locs ls h hl
  unfold fX0_lookIn_20 at hf
  refine lv_iload_n hx hb dX0_lookIn_20 rfl (lv_at hl 1 rfl) ?_
  refine lv_goto (tgt := 40) hx hb dX0_lookIn_21 (by decide) ?_
  exact wX0_lookIn_40 (P := P) C g y1 hf H locs ls h (lv_sub hl [0] rfl)

set_option maxHeartbeats 4000000 in
set_option maxRecDepth 100000 in
theorem qX0_lookIn {l : Launch} {D : va_G} {cs : Nat → ClassId} {ad al : Nat → Nat} {P : PL} {r : Int32} {g' : CS} {g : CS}  {a0 : Int32} (hf : fX0_lookIn P g a0 = some (r, g')) : GCon l D cs yX0_lookIn cX0_lookIn 5 (some .int) (rM 6) 0 0 [.ref (ad 27), .int a0] (SW cs ad al P g) (some (.int r)) (SW cs ad al P g') := by
  refine GCon.of (by decide) (Nat.le_of_ble_eq_true rfl) ?_
  intro p e s m args below meth c A ls H locs C h hl
  have hx := C.1
  have hb := C.2.1
  have C : MCx p s m args meth c A RX0 cX0_lookIn 5 (some .int) D cs := C
  have hl : lv_has ls 5 [(0, .ref (ad 27)), (1, .int a0)] := hl
  unfold fX0_lookIn at hf
  refine lv_aload_n hx hb dX0_lookIn_0 rfl (lv_at hl 0 rfl) ?_
  replace hf := bndv_some hf
  obtain ⟨g5, hc, hf⟩ := hf
  refine m_callVv [] C h cv_X0_48 (qX0_settle hc) rfl ⟨rfl, rfl⟩ ⟨Nat.le_of_ble_eq_true rfl, Nat.le_of_ble_eq_true rfl⟩ (rv_X0 C h) hl.1 rfl (Nat.le_of_ble_eq_true rfl) ⟨Nat.le_refl _, Nat.le_refl _⟩ dX0_lookIn_1 (fun H locs h => ?_)
  clear hc
  refine lv_iload_n hx hb dX0_lookIn_4 rfl (lv_at hl 1 rfl) ?_
  refine lv_aload_n hx hb dX0_lookIn_5 rfl (lv_at hl 0 rfl) ?_
  refine xg_X0 3 C h (by decide) tb_58_11 rfl rfl dX0_lookIn_6 ?_
  refine lv_icmp_lt (tgt := 20) hx hb dX0_lookIn_9 (by decide) (fun hq => ?_) (fun hq => ?_)
  · replace hf := if_t hq hf
    clear hq
    exact wX0_lookIn_20 (P := P) C g5 a0 hf H locs ls h (lv_sub hl [0, 1] rfl)
  · replace hf := if_f hq hf
    clear hq
    refine lv_aload_n hx hb dX0_lookIn_12 rfl (lv_at hl 0 rfl) ?_
    refine xg_X0 4 C h (by decide) tb_58_9 rfl rfl dX0_lookIn_13 ?_
    refine lv_iconst (v := (1 : Int32)) hx hb dX0_lookIn_16 (by decide) ?_
    refine lv_icmp_ge (tgt := 24) hx hb dX0_lookIn_17 (by decide) (fun hq => ?_) (fun hq => ?_)
    · replace hf := if_t hq hf
      clear hq
      refine lv_aload_n hx hb dX0_lookIn_24 rfl (lv_at hl 0 rfl) ?_
      refine xg_X0 3 C h (by decide) tb_58_11 rfl rfl dX0_lookIn_25 ?_
      refine lv_iload_n hx hb dX0_lookIn_28 rfl (lv_at hl 1 rfl) ?_
      refine lv_aload_n hx hb dX0_lookIn_29 rfl (lv_at hl 0 rfl) ?_
      refine xg_X0 3 C h (by decide) tb_58_11 rfl rfl dX0_lookIn_30 ?_
      refine lv_isub hx hb dX0_lookIn_33 ?_
      refine lv_aload_n hx hb dX0_lookIn_34 rfl (lv_at hl 0 rfl) ?_
      refine xg_X0 4 C h (by decide) tb_58_9 rfl rfl dX0_lookIn_35 ?_
      replace hf := chk_some hf
      obtain ⟨hq, hf⟩ := hf
      refine x_irem hx hb dX0_lookIn_38 (nz_ne hq) ?_
      clear hq
      refine lv_iadd hx hb dX0_lookIn_39 ?_
      exact wX0_lookIn_40 (P := P) C g5 ((g5.1 27 3) + (jrem (a0 - (g5.1 27 3)) (g5.1 27 4))) hf H locs ls h (lv_sub hl [0] rfl)
    · replace hf := if_f hq hf
      clear hq
      exact wX0_lookIn_20 (P := P) C g5 a0 hf H locs ls h (lv_sub hl [0, 1] rfl)

set_option maxHeartbeats 4000000 in
set_option maxRecDepth 100000 in
theorem wX6_chairOf_47 (C : MCx p s m args meth c A RX6 cX6_chairOf 8 (some .int) D cs)  {r : Int32} {g' : CS}  {k15 : CS → Nat → Int64 → Int32 → Int32 → Int32 → Option (Int32 × CS)} (hk15 : ∀ (g : CS) (y0 : Nat) (y2 : Int64) (y4 : Int32) (y5 : Int32) (y6 : Int32), okS y0 → k15 g y0 y2 y4 y5 y6 = some (r, g') → ∀ (H : Heap) (locs : List Loc) (ls : Array Slot), MH D (SW cs ad al P g) A s H locs → lv_has ls 8 [(0, .ref (ad y0)), (2, .long y2), (4, .int y4), (5, .int y5), (6, .int y6)] → W p l e (rM 1) s m args below meth c H locs 0 0 (MQ below (GPost D (some (.int r)) (SW cs ad al P g') A) args s 0 0 A) (F0 m 15 ls [])) : ∀ (g : CS) (y0 : Nat) (y2 : Int64) (y4 : Int32) (y5 : Int32) (y6 : Int32), okS y0 → fX6_chairOf_47 P k15 g y0 y2 y4 y5 y6 = some (r, g') → ∀ (H : Heap) (locs : List Loc) (ls : Array Slot), MH D (SW cs ad al P g) A s H locs → lv_has ls 8 [(0, .ref (ad y0)), (2, .long y2), (4, .int y4), (5, .int y5), (6, .int y6)] → W p l e (rM 1) s m args below meth c H locs 0 0 (MQ below (GPost D (some (.int r)) (SW cs ad al P g') A) args s 0 0 A) (F0 m 47 ls []) := by
  have hx := C.1
  have hb := C.2.1
  intro g y0 y2 y4 y5 y6 hn_y0 hf H locs ls h hl
  unfold fX6_chairOf_47 at hf
  refine lv_lload_n hx hb dX6_chairOf_47 rfl (lv_at hl 1 rfl) ?_
  refine lv_bipush (v := (8 : Int32)) hx hb dX6_chairOf_48 (by decide) ?_
  refine x_lushr hx hb dX6_chairOf_50 ?_
  refine lv_topl (fun x1 ex1 => ?_)
  replace hf := bnd_at ex1 hf
  clear ex1
  refine lv_lstore_n (lv' := [(2, .long x1), (0, .ref (ad y0)), (4, .int y4), (5, .int y5), (6, .int y6)]) hx hb dX6_chairOf_51 rfl hl (by decide) rfl (fun ls hl => ?_)
  obtain ⟨x2, ex2⟩ : ∃ z : Int32, z = y6 + (1 : Int32) := ⟨_, rfl⟩
  replace hf := bnd_at ex2 hf
  refine lv_iinc (v := x2) (lv' := [(6, .int x2), (2, .long x1), (0, .ref (ad y0)), (4, .int y4), (5, .int y5)]) hx hb dX6_chairOf_52 hl (k := 4) rfl (by rw [ex2]; rfl) (by decide) rfl (fun ls hl => ?_)
  clear ex2
  refine lv_goto (tgt := 15) hx hb dX6_chairOf_55 (by decide) ?_
  exact hk15 g y0 x1 y4 y5 x2 hn_y0 hf H locs ls h (lv_sub hl [2, 1, 3, 4, 0] rfl)

set_option maxHeartbeats 4000000 in
set_option maxRecDepth 100000 in
theorem wX6_chairOf_15 (C : MCx p s m args meth c A RX6 cX6_chairOf 8 (some .int) D cs)  {r : Int32} {g' : CS}  : ∀ (n : Nat) (g : CS) (y0 : Nat) (y2 : Int64) (y4 : Int32) (y5 : Int32) (y6 : Int32), okS y0 → fX6_chairOf_15 P n g y0 y2 y4 y5 y6 = some (r, g') → ∀ (H : Heap) (locs : List Loc) (ls : Array Slot), MH D (SW cs ad al P g) A s H locs → lv_has ls 8 [(0, .ref (ad y0)), (2, .long y2), (4, .int y4), (5, .int y5), (6, .int y6)] → W p l e (rM 1) s m args below meth c H locs 0 0 (MQ below (GPost D (some (.int r)) (SW cs ad al P g') A) args s 0 0 A) (F0 m 15 ls []) := by
  have hx := C.1
  have hb := C.2.1
  intro n
  induction n with
  | zero =>
    intro g y0 y2 y4 y5 y6 hn_y0 hf
    exact absurd hf (by simp [fX6_chairOf_15])
  | succ n ih =>
    intro g y0 y2 y4 y5 y6 hn_y0 hf H locs ls h hl
    rw [fX6_chairOf_15] at hf
    refine lv_iload hx hb dX6_chairOf_15 (lv_at hl 4 rfl) ?_
    refine lv_aload_n hx hb dX6_chairOf_17 rfl (lv_at hl 0 rfl) ?_
    refine xg_X6 1 hn_y0 C h (by decide) tb_4_14 rfl rfl dX6_chairOf_18 ?_
    refine lv_icmp_ge (tgt := 58) hx hb dX6_chairOf_21 (by decide) (fun hq => ?_) (fun hq => ?_)
    · replace hf := if_t hq hf
      clear hq
      refine lv_iload hx hb dX6_chairOf_58 (lv_at hl 2 rfl) ?_
      obtain ⟨e1, e2⟩ := pr_inj hf
      subst e1 e2
      exact m_iret C h dX6_chairOf_60
    · replace hf := if_f hq hf
      clear hq
      refine lv_lload_n hx hb dX6_chairOf_24 rfl (lv_at hl 1 rfl) ?_
      refine lv_l2i hx hb dX6_chairOf_25 rfl ?_
      refine lv_sipush (v := (255 : Int32)) hx hb dX6_chairOf_26 (by decide) ?_
      refine lv_iand hx hb dX6_chairOf_29 ?_
      refine lv_topi (fun x3 ex3 => ?_)
      replace hf := bnd_at ex3 hf
      clear ex3
      refine lv_istore (lv' := [(7, .int x3), (0, .ref (ad y0)), (2, .long y2), (4, .int y4), (5, .int y5), (6, .int y6)]) hx hb dX6_chairOf_30 hl (by decide) rfl (fun ls hl => ?_)
      refine lv_iload hx hb dX6_chairOf_32 (lv_at hl 0 rfl) ?_
      refine lv_iload hx hb dX6_chairOf_34 (lv_at hl 4 rfl) ?_
      refine lv_icmp_le (tgt := 47) hx hb dX6_chairOf_36 (by decide) (fun hq => ?_) (fun hq => ?_)
      · replace hf := if_t hq hf
        clear hq
        exact wX6_chairOf_47 (P := P) C ih g y0 y2 y4 y5 y6 hn_y0 hf H locs ls h (lv_sub hl [1, 2, 3, 4, 5] rfl)
      · replace hf := if_f hq hf
        clear hq
        refine lv_iload hx hb dX6_chairOf_39 (lv_at hl 0 rfl) ?_
        refine lv_istore (lv' := [(5, .int x3), (7, .int x3), (0, .ref (ad y0)), (2, .long y2), (4, .int y4), (6, .int y6)]) hx hb dX6_chairOf_41 hl (by decide) rfl (fun ls hl => ?_)
        refine lv_iload hx hb dX6_chairOf_43 (lv_at hl 5 rfl) ?_
        refine lv_istore (lv' := [(4, .int y6), (5, .int x3), (7, .int x3), (0, .ref (ad y0)), (2, .long y2), (6, .int y6)]) hx hb dX6_chairOf_45 hl (by decide) rfl (fun ls hl => ?_)
        exact wX6_chairOf_47 (P := P) C ih g y0 y2 y6 x3 y6 hn_y0 hf H locs ls h (lv_sub hl [3, 4, 0, 1, 5] rfl)

set_option maxHeartbeats 4000000 in
set_option maxRecDepth 100000 in
theorem qX6_chairOf {l : Launch} {D : va_G} {cs : Nat → ClassId} {ad al : Nat → Nat} {P : PL} {r : Int32} {g' : CS} {g : CS}  {o : Nat} {a0 : Int32} (hn_o : okS o) (hf : fX6_chairOf P g o a0 = some (r, g')) : GCon l D cs yX6_chairOf cX6_chairOf 8 (some .int) (rM 1) 0 0 [.ref (ad o), .int a0] (SW cs ad al P g) (some (.int r)) (SW cs ad al P g') := by
  refine GCon.of (by decide) (Nat.le_of_ble_eq_true rfl) ?_
  intro p e s m args below meth c A ls H locs C h hl
  have hx := C.1
  have hb := C.2.1
  have C : MCx p s m args meth c A RX6 cX6_chairOf 8 (some .int) D cs := C
  have hl : lv_has ls 8 [(0, .ref (ad o)), (1, .int a0)] := hl
  unfold fX6_chairOf at hf
  refine lv_aload_n hx hb dX6_chairOf_0 rfl (lv_at hl 0 rfl) ?_
  refine lv_iload_n hx hb dX6_chairOf_1 rfl (lv_at hl 1 rfl) ?_
  replace hf := bndc_some hf
  obtain ⟨x4, g5, hc, hf⟩ := hf
  refine m_callVl [.int a0] C h cv_X6_83 (qX6_votesIn hn_o hc) rfl ⟨rfl, rfl⟩ ⟨Nat.le_of_ble_eq_true rfl, Nat.le_of_ble_eq_true rfl⟩ (rv_X6 hn_o C h) hl.1 rfl (Nat.le_of_ble_eq_true rfl) ⟨Nat.le_refl _, Nat.le_refl _⟩ dX6_chairOf_2 (fun H locs h => ?_)
  clear hc
  refine lv_lstore_n (lv' := [(2, .long x4), (0, .ref (ad o)), (1, .int a0)]) hx hb dX6_chairOf_5 rfl hl (by decide) rfl (fun ls hl => ?_)
  refine lv_iconst (v := (-1 : Int32)) hx hb dX6_chairOf_6 (by decide) ?_
  refine lv_istore (lv' := [(4, .int (-1 : Int32)), (2, .long x4), (0, .ref (ad o)), (1, .int a0)]) hx hb dX6_chairOf_7 hl (by decide) rfl (fun ls hl => ?_)
  refine lv_iconst (v := (0 : Int32)) hx hb dX6_chairOf_9 (by decide) ?_
  refine lv_istore (lv' := [(5, .int (0 : Int32)), (4, .int (-1 : Int32)), (2, .long x4), (0, .ref (ad o)), (1, .int a0)]) hx hb dX6_chairOf_10 hl (by decide) rfl (fun ls hl => ?_)
  refine lv_iconst (v := (0 : Int32)) hx hb dX6_chairOf_12 (by decide) ?_
  refine lv_istore (lv' := [(6, .int (0 : Int32)), (5, .int (0 : Int32)), (4, .int (-1 : Int32)), (2, .long x4), (0, .ref (ad o)), (1, .int a0)]) hx hb dX6_chairOf_13 hl (by decide) rfl (fun ls hl => ?_)
  exact wX6_chairOf_15 (P := P) C fuel g5 o x4 (-1 : Int32) (0 : Int32) (0 : Int32) hn_o hf H locs ls h (lv_sub hl [4, 3, 2, 1, 0] rfl)

set_option maxHeartbeats 4000000 in
set_option maxRecDepth 100000 in
theorem wX0_reignOf_87 (C : MCx p s m args meth c A RX0 cX0_reignOf 6 (some .int) D cs)  {r : Int32} {g' : CS}  {k18 : CS → Int32 → Int32 → Int32 → Int32 → Int32 → Option (Int32 × CS)} (hk18 : ∀ (g : CS) (y1 : Int32) (y2 : Int32) (y3 : Int32) (y4 : Int32) (y5 : Int32), k18 g y1 y2 y3 y4 y5 = some (r, g') → ∀ (H : Heap) (locs : List Loc) (ls : Array Slot), MH D (SW cs ad al P g) A s H locs → lv_has ls 6 [(0, .ref (ad 27)), (1, .int y1), (2, .int y2), (3, .int y3), (4, .int y4), (5, .int y5)] → W p l e (rM 6) s m args below meth c H locs 0 0 (MQ below (GPost D (some (.int r)) (SW cs ad al P g') A) args s 0 0 A) (F0 m 18 ls [])) : ∀ (g : CS) (y1 : Int32) (y2 : Int32) (y3 : Int32) (y4 : Int32) (y5 : Int32), fX0_reignOf_87 P k18 g y1 y2 y3 y4 y5 = some (r, g') → ∀ (H : Heap) (locs : List Loc) (ls : Array Slot), MH D (SW cs ad al P g) A s H locs → lv_has ls 6 [(0, .ref (ad 27)), (1, .int y1), (2, .int y2), (3, .int y3), (4, .int y4), (5, .int y5)] → W p l e (rM 6) s m args below meth c H locs 0 0 (MQ below (GPost D (some (.int r)) (SW cs ad al P g') A) args s 0 0 A) (F0 m 87 ls []) := by
  have hx := C.1
  have hb := C.2.1
  intro g y1 y2 y3 y4 y5 hf H locs ls h hl
  unfold fX0_reignOf_87 at hf
  refine lv_aload_n hx hb dX0_reignOf_87 rfl (lv_at hl 0 rfl) ?_
  refine lv_iload_n hx hb dX0_reignOf_88 rfl (lv_at hl 3 rfl) ?_
  replace hf := bndc_some hf
  obtain ⟨x1, g2, hc, hf⟩ := hf
  refine m_callVi [.int y3] C h cv_X0_37 (qX0_behindMinute hc) rfl ⟨rfl, rfl⟩ ⟨Nat.le_of_ble_eq_true rfl, Nat.le_of_ble_eq_true rfl⟩ (rv_X0 C h) hl.1 rfl (Nat.le_of_ble_eq_true rfl) ⟨Nat.le_refl _, Nat.le_refl _⟩ dX0_reignOf_89 (fun H locs h => ?_)
  clear hc
  refine lv_istore_n (lv' := [(3, .int x1), (0, .ref (ad 27)), (1, .int y1), (2, .int y2), (4, .int y4), (5, .int y5)]) hx hb dX0_reignOf_92 rfl hl (by decide) rfl (fun ls hl => ?_)
  obtain ⟨x3, ex3⟩ : ∃ z : Int32, z = y5 + (1 : Int32) := ⟨_, rfl⟩
  replace hf := bnd_at ex3 hf
  refine lv_iinc (v := x3) (lv' := [(5, .int x3), (3, .int x1), (0, .ref (ad 27)), (1, .int y1), (2, .int y2), (4, .int y4)]) hx hb dX0_reignOf_93 hl (k := 5) rfl (by rw [ex3]; rfl) (by decide) rfl (fun ls hl => ?_)
  clear ex3
  refine lv_goto (tgt := 18) hx hb dX0_reignOf_96 (by decide) ?_
  exact hk18 g2 y1 y2 x1 y4 x3 hf H locs ls h (lv_sub hl [2, 3, 4, 1, 5, 0] rfl)

set_option maxHeartbeats 4000000 in
set_option maxRecDepth 100000 in
theorem wX0_reignOf_84 (C : MCx p s m args meth c A RX0 cX0_reignOf 6 (some .int) D cs)  {r : Int32} {g' : CS}  {k18 : CS → Int32 → Int32 → Int32 → Int32 → Int32 → Option (Int32 × CS)} (hk18 : ∀ (g : CS) (y1 : Int32) (y2 : Int32) (y3 : Int32) (y4 : Int32) (y5 : Int32), k18 g y1 y2 y3 y4 y5 = some (r, g') → ∀ (H : Heap) (locs : List Loc) (ls : Array Slot), MH D (SW cs ad al P g) A s H locs → lv_has ls 6 [(0, .ref (ad 27)), (1, .int y1), (2, .int y2), (3, .int y3), (4, .int y4), (5, .int y5)] → W p l e (rM 6) s m args below meth c H locs 0 0 (MQ below (GPost D (some (.int r)) (SW cs ad al P g') A) args s 0 0 A) (F0 m 18 ls [])) : ∀ (g : CS) (y1 : Int32) (y2 : Int32) (y3 : Int32) (y5 : Int32) (t0 : Int32) (t1 : Int32), fX0_reignOf_84 P k18 g y1 y2 y3 y5 t0 t1 = some (r, g') → ∀ (H : Heap) (locs : List Loc) (ls : Array Slot), MH D (SW cs ad al P g) A s H locs → lv_has ls 6 [(0, .ref (ad 27)), (1, .int y1), (2, .int y2), (3, .int y3), (5, .int y5)] → W p l e (rM 6) s m args below meth c H locs 0 0 (MQ below (GPost D (some (.int r)) (SW cs ad al P g') A) args s 0 0 A) (F0 m 84 ls [.int t1, .int t0]) := by
  have hx := C.1
  have hb := C.2.1
  intro g y1 y2 y3 y5 t0 t1 hf H locs ls h hl
  unfold fX0_reignOf_84 at hf
  refine lv_iadd hx hb dX0_reignOf_84 ?_
  refine lv_topi (fun x4 ex4 => ?_)
  replace hf := bnd_at ex4 hf
  clear ex4
  refine lv_istore (lv' := [(4, .int x4), (0, .ref (ad 27)), (1, .int y1), (2, .int y2), (3, .int y3), (5, .int y5)]) hx hb dX0_reignOf_85 hl (by decide) rfl (fun ls hl => ?_)
  exact wX0_reignOf_87 (P := P) C hk18 g y1 y2 y3 x4 y5 hf H locs ls h (lv_sub hl [1, 2, 3, 4, 0, 5] rfl)

set_option maxHeartbeats 4000000 in
set_option maxRecDepth 100000 in
theorem wX0_reignOf_69 (C : MCx p s m args meth c A RX0 cX0_reignOf 6 (some .int) D cs)  {r : Int32} {g' : CS}  {k18 : CS → Int32 → Int32 → Int32 → Int32 → Int32 → Option (Int32 × CS)} (hk18 : ∀ (g : CS) (y1 : Int32) (y2 : Int32) (y3 : Int32) (y4 : Int32) (y5 : Int32), k18 g y1 y2 y3 y4 y5 = some (r, g') → ∀ (H : Heap) (locs : List Loc) (ls : Array Slot), MH D (SW cs ad al P g) A s H locs → lv_has ls 6 [(0, .ref (ad 27)), (1, .int y1), (2, .int y2), (3, .int y3), (4, .int y4), (5, .int y5)] → W p l e (rM 6) s m args below meth c H locs 0 0 (MQ below (GPost D (some (.int r)) (SW cs ad al P g') A) args s 0 0 A) (F0 m 18 ls [])) : ∀ (g : CS) (y1 : Int32) (y2 : Int32) (y3 : Int32) (y5 : Int32) (t0 : Int32), fX0_reignOf_69 P k18 g y1 y2 y3 y5 t0 = some (r, g') → ∀ (H : Heap) (locs : List Loc) (ls : Array Slot), MH D (SW cs ad al P g) A s H locs → lv_has ls 6 [(0, .ref (ad 27)), (1, .int y1), (2, .int y2), (3, .int y3), (5, .int y5)] → W p l e (rM 6) s m args below meth c H locs 0 0 (MQ below (GPost D (some (.int r)) (SW cs ad al P g') A) args s 0 0 A) (F0 m 69 ls [.int t0]) := by
  have hx := C.1
  have hb := C.2.1
  intro g y1 y2 y3 y5 t0 hf H locs ls h hl
  unfold fX0_reignOf_69 at hf
  refine lv_iconst (v := (1 : Int32)) hx hb dX0_reignOf_69 (by decide) ?_
  refine lv_goto (tgt := 84) hx hb dX0_reignOf_70 (by decide) ?_
  exact wX0_reignOf_84 (P := P) C hk18 g y1 y2 y3 y5 t0 (1 : Int32) hf H locs ls h (lv_sub hl [0, 1, 2, 3, 4] rfl)

set_option maxHeartbeats 4000000 in
set_option maxRecDepth 100000 in
theorem wX0_reignOf_18 (C : MCx p s m args meth c A RX0 cX0_reignOf 6 (some .int) D cs)  {r : Int32} {g' : CS}  : ∀ (n : Nat) (g : CS) (y1 : Int32) (y2 : Int32) (y3 : Int32) (y4 : Int32) (y5 : Int32), fX0_reignOf_18 P n g y1 y2 y3 y4 y5 = some (r, g') → ∀ (H : Heap) (locs : List Loc) (ls : Array Slot), MH D (SW cs ad al P g) A s H locs → lv_has ls 6 [(0, .ref (ad 27)), (1, .int y1), (2, .int y2), (3, .int y3), (4, .int y4), (5, .int y5)] → W p l e (rM 6) s m args below meth c H locs 0 0 (MQ below (GPost D (some (.int r)) (SW cs ad al P g') A) args s 0 0 A) (F0 m 18 ls []) := by
  have hx := C.1
  have hb := C.2.1
  intro n
  induction n with
  | zero =>
    intro g y1 y2 y3 y4 y5 hf
    exact absurd hf (by simp [fX0_reignOf_18])
  | succ n ih =>
    intro g y1 y2 y3 y4 y5 hf H locs ls h hl
    rw [fX0_reignOf_18] at hf
    refine lv_iload hx hb dX0_reignOf_18 (lv_at hl 5 rfl) ?_
    refine lv_iload_n hx hb dX0_reignOf_20 rfl (lv_at hl 2 rfl) ?_
    refine lv_icmp_gt (tgt := 99) hx hb dX0_reignOf_21 (by decide) (fun hq => ?_) (fun hq => ?_)
    · replace hf := if_t hq hf
      clear hq
      refine lv_iload hx hb dX0_reignOf_99 (lv_at hl 4 rfl) ?_
      obtain ⟨e1, e2⟩ := pr_inj hf
      subst e1 e2
      exact m_iret C h dX0_reignOf_101
    · replace hf := if_f hq hf
      clear hq
      refine lv_iload hx hb dX0_reignOf_24 (lv_at hl 5 rfl) ?_
      refine lv_aload_n hx hb dX0_reignOf_26 rfl (lv_at hl 0 rfl) ?_
      refine xg_X0 3 C h (by decide) tb_58_11 rfl rfl dX0_reignOf_27 ?_
      refine lv_aload_n hx hb dX0_reignOf_30 rfl (lv_at hl 0 rfl) ?_
      refine xg_X0 4 C h (by decide) tb_58_9 rfl rfl dX0_reignOf_31 ?_
      refine lv_iadd hx hb dX0_reignOf_34 ?_
      refine lv_icmp_ge (tgt := 99) hx hb dX0_reignOf_35 (by decide) (fun hq => ?_) (fun hq => ?_)
      · replace hf := if_t hq hf
        clear hq
        refine lv_iload hx hb dX0_reignOf_99 (lv_at hl 4 rfl) ?_
        obtain ⟨e1, e2⟩ := pr_inj hf
        subst e1 e2
        exact m_iret C h dX0_reignOf_101
      · replace hf := if_f hq hf
        clear hq
        refine lv_aload_n hx hb dX0_reignOf_38 rfl (lv_at hl 0 rfl) ?_
        refine xg_X0 0 C h (by decide) tb_6_19 rfl rfl dX0_reignOf_39 ?_
        refine lv_iload_n hx hb dX0_reignOf_42 rfl (lv_at hl 3 rfl) ?_
        replace hf := bndc_some hf
        obtain ⟨x5, g6, hc, hf⟩ := hf
        refine m_callVi [.int y3] C h cv_X0_51 (qX6_chairOf (by simp [okS, okT, ok6]) hc) rfl ⟨rfl, rfl⟩ ⟨Nat.le_of_ble_eq_true rfl, Nat.le_of_ble_eq_true rfl⟩ (rv_X6 (by simp [okS, okT, ok6]) C h) hl.1 rfl (Nat.le_of_ble_eq_true rfl) ⟨Nat.le_refl _, Nat.le_refl _⟩ dX0_reignOf_43 (fun H locs h => ?_)
        clear hc
        refine lv_iload_n hx hb dX0_reignOf_46 rfl (lv_at hl 1 rfl) ?_
        refine lv_icmp_ne (tgt := 87) hx hb dX0_reignOf_47 (by decide) (fun hq => ?_) (fun hq => ?_)
        · replace hf := if_tn hq hf
          clear hq
          exact wX0_reignOf_87 (P := P) C ih g6 y1 y2 y3 y4 y5 hf H locs ls h (lv_sub hl [0, 1, 2, 3, 4, 5] rfl)
        · replace hf := if_t hq hf
          clear hq
          refine lv_iload hx hb dX0_reignOf_50 (lv_at hl 4 rfl) ?_
          refine lv_iload hx hb dX0_reignOf_52 (lv_at hl 5 rfl) ?_
          refine lv_aload_n hx hb dX0_reignOf_54 rfl (lv_at hl 0 rfl) ?_
          refine xg_X0 3 C h (by decide) tb_58_11 rfl rfl dX0_reignOf_55 ?_
          refine lv_icmp_lt (tgt := 69) hx hb dX0_reignOf_58 (by decide) (fun hq => ?_) (fun hq => ?_)
          · replace hf := if_t hq hf
            clear hq
            exact wX0_reignOf_69 (P := P) C ih g6 y1 y2 y3 y5 y4 hf H locs ls h (lv_sub hl [0, 1, 2, 3, 5] rfl)
          · replace hf := if_f hq hf
            clear hq
            refine lv_aload_n hx hb dX0_reignOf_61 rfl (lv_at hl 0 rfl) ?_
            refine xg_X0 4 C h (by decide) tb_58_9 rfl rfl dX0_reignOf_62 ?_
            refine lv_iconst (v := (1 : Int32)) hx hb dX0_reignOf_65 (by decide) ?_
            refine lv_icmp_ge (tgt := 73) hx hb dX0_reignOf_66 (by decide) (fun hq => ?_) (fun hq => ?_)
            · replace hf := if_t hq hf
              clear hq
              refine lv_iconst (v := (1 : Int32)) hx hb dX0_reignOf_73 (by decide) ?_
              refine lv_iload_n hx hb dX0_reignOf_74 rfl (lv_at hl 2 rfl) ?_
              refine lv_iload hx hb dX0_reignOf_75 (lv_at hl 5 rfl) ?_
              refine lv_isub hx hb dX0_reignOf_77 ?_
              refine lv_aload_n hx hb dX0_reignOf_78 rfl (lv_at hl 0 rfl) ?_
              refine xg_X0 4 C h (by decide) tb_58_9 rfl rfl dX0_reignOf_79 ?_
              replace hf := chk_some hf
              obtain ⟨hq, hf⟩ := hf
              refine lv_idiv hx hb dX0_reignOf_82 (nz_ne hq) ?_
              clear hq
              refine lv_iadd hx hb dX0_reignOf_83 ?_
              exact wX0_reignOf_84 (P := P) C ih g6 y1 y2 y3 y5 y4 ((1 : Int32) + ((y2 - y5) / (g6.1 27 4))) hf H locs ls h (lv_sub hl [0, 1, 2, 3, 5] rfl)
            · replace hf := if_f hq hf
              clear hq
              exact wX0_reignOf_69 (P := P) C ih g6 y1 y2 y3 y5 y4 hf H locs ls h (lv_sub hl [0, 1, 2, 3, 5] rfl)

set_option maxHeartbeats 4000000 in
set_option maxRecDepth 100000 in
theorem qX0_reignOf {l : Launch} {D : va_G} {cs : Nat → ClassId} {ad al : Nat → Nat} {P : PL} {r : Int32} {g' : CS} {g : CS}  {a0 : Int32} {a1 : Int32} (hf : fX0_reignOf P g a0 a1 = some (r, g')) : GCon l D cs yX0_reignOf cX0_reignOf 6 (some .int) (rM 6) 0 0 [.ref (ad 27), .int a0, .int a1] (SW cs ad al P g) (some (.int r)) (SW cs ad al P g') := by
  refine GCon.of (by decide) (Nat.le_of_ble_eq_true rfl) ?_
  intro p e s m args below meth c A ls H locs C h hl
  have hx := C.1
  have hb := C.2.1
  have C : MCx p s m args meth c A RX0 cX0_reignOf 6 (some .int) D cs := C
  have hl : lv_has ls 6 [(0, .ref (ad 27)), (1, .int a0), (2, .int a1)] := hl
  unfold fX0_reignOf at hf
  refine lv_aload_n hx hb dX0_reignOf_0 rfl (lv_at hl 0 rfl) ?_
  replace hf := bndv_some hf
  obtain ⟨g7, hc, hf⟩ := hf
  refine m_callVv [] C h cv_X0_48 (qX0_settle hc) rfl ⟨rfl, rfl⟩ ⟨Nat.le_of_ble_eq_true rfl, Nat.le_of_ble_eq_true rfl⟩ (rv_X0 C h) hl.1 rfl (Nat.le_of_ble_eq_true rfl) ⟨Nat.le_refl _, Nat.le_refl _⟩ dX0_reignOf_1 (fun H locs h => ?_)
  clear hc
  refine lv_aload_n hx hb dX0_reignOf_4 rfl (lv_at hl 0 rfl) ?_
  refine xg_X0 0 C h (by decide) tb_6_19 rfl rfl dX0_reignOf_5 ?_
  refine xg_X6 3 (by simp [okS, okT, ok6]) C h (by decide) tb_58_8 rfl rfl dX0_reignOf_8 ?_
  refine lv_topi (fun x8 ex8 => ?_)
  replace hf := bnd_at ex8 hf
  clear ex8
  refine lv_istore_n (lv' := [(3, .int x8), (0, .ref (ad 27)), (1, .int a0), (2, .int a1)]) hx hb dX0_reignOf_11 rfl hl (by decide) rfl (fun ls hl => ?_)
  refine lv_iconst (v := (0 : Int32)) hx hb dX0_reignOf_12 (by decide) ?_
  refine lv_istore (lv' := [(4, .int (0 : Int32)), (3, .int x8), (0, .ref (ad 27)), (1, .int a0), (2, .int a1)]) hx hb dX0_reignOf_13 hl (by decide) rfl (fun ls hl => ?_)
  refine lv_iconst (v := (0 : Int32)) hx hb dX0_reignOf_15 (by decide) ?_
  refine lv_istore (lv' := [(5, .int (0 : Int32)), (4, .int (0 : Int32)), (3, .int x8), (0, .ref (ad 27)), (1, .int a0), (2, .int a1)]) hx hb dX0_reignOf_16 hl (by decide) rfl (fun ls hl => ?_)
  exact wX0_reignOf_18 (P := P) C fuel g7 a0 a1 x8 (0 : Int32) (0 : Int32) hf H locs ls h (lv_sub hl [3, 4, 5, 2, 1, 0] rfl)

set_option maxHeartbeats 4000000 in
set_option maxRecDepth 100000 in
theorem wX0_firstOf_14 (C : MCx p s m args meth c A RX0 cX0_firstOf 4 (some .int) D cs)  {r : Int32} {g' : CS}  : ∀ (n : Nat) (g : CS) (y1 : Int32) (y2 : Int32) (y3 : Int32), fX0_firstOf_14 P n g y1 y2 y3 = some (r, g') → ∀ (H : Heap) (locs : List Loc) (ls : Array Slot), MH D (SW cs ad al P g) A s H locs → lv_has ls 4 [(0, .ref (ad 27)), (1, .int y1), (2, .int y2), (3, .int y3)] → W p l e (rM 6) s m args below meth c H locs 0 0 (MQ below (GPost D (some (.int r)) (SW cs ad al P g') A) args s 0 0 A) (F0 m 14 ls []) := by
  have hx := C.1
  have hb := C.2.1
  intro n
  induction n with
  | zero =>
    intro g y1 y2 y3 hf
    exact absurd hf (by simp [fX0_firstOf_14])
  | succ n ih =>
    intro g y1 y2 y3 hf H locs ls h hl
    rw [fX0_firstOf_14] at hf
    refine lv_iload_n hx hb dX0_firstOf_14 rfl (lv_at hl 3 rfl) ?_
    refine lv_aload_n hx hb dX0_firstOf_15 rfl (lv_at hl 0 rfl) ?_
    refine xg_X0 3 C h (by decide) tb_58_11 rfl rfl dX0_firstOf_16 ?_
    refine lv_aload_n hx hb dX0_firstOf_19 rfl (lv_at hl 0 rfl) ?_
    refine xg_X0 4 C h (by decide) tb_58_9 rfl rfl dX0_firstOf_20 ?_
    refine lv_iadd hx hb dX0_firstOf_23 ?_
    refine lv_icmp_ge (tgt := 53) hx hb dX0_firstOf_24 (by decide) (fun hq => ?_) (fun hq => ?_)
    · replace hf := if_t hq hf
      clear hq
      refine lv_iconst (v := (-1 : Int32)) hx hb dX0_firstOf_53 (by decide) ?_
      obtain ⟨e1, e2⟩ := pr_inj hf
      subst e1 e2
      exact m_iret C h dX0_firstOf_54
    · replace hf := if_f hq hf
      clear hq
      refine lv_aload_n hx hb dX0_firstOf_27 rfl (lv_at hl 0 rfl) ?_
      refine xg_X0 0 C h (by decide) tb_6_19 rfl rfl dX0_firstOf_28 ?_
      refine lv_iload_n hx hb dX0_firstOf_31 rfl (lv_at hl 2 rfl) ?_
      replace hf := bndc_some hf
      obtain ⟨x1, g2, hc, hf⟩ := hf
      refine m_callVi [.int y2] C h cv_X0_51 (qX6_chairOf (by simp [okS, okT, ok6]) hc) rfl ⟨rfl, rfl⟩ ⟨Nat.le_of_ble_eq_true rfl, Nat.le_of_ble_eq_true rfl⟩ (rv_X6 (by simp [okS, okT, ok6]) C h) hl.1 rfl (Nat.le_of_ble_eq_true rfl) ⟨Nat.le_refl _, Nat.le_refl _⟩ dX0_firstOf_32 (fun H locs h => ?_)
      clear hc
      refine lv_iload_n hx hb dX0_firstOf_35 rfl (lv_at hl 1 rfl) ?_
      refine lv_icmp_ne (tgt := 41) hx hb dX0_firstOf_36 (by decide) (fun hq => ?_) (fun hq => ?_)
      · replace hf := if_tn hq hf
        clear hq
        refine lv_aload_n hx hb dX0_firstOf_41 rfl (lv_at hl 0 rfl) ?_
        refine lv_iload_n hx hb dX0_firstOf_42 rfl (lv_at hl 2 rfl) ?_
        replace hf := bndc_some hf
        obtain ⟨x3, g4, hc, hf⟩ := hf
        refine m_callVi [.int y2] C h cv_X0_37 (qX0_behindMinute hc) rfl ⟨rfl, rfl⟩ ⟨Nat.le_of_ble_eq_true rfl, Nat.le_of_ble_eq_true rfl⟩ (rv_X0 C h) hl.1 rfl (Nat.le_of_ble_eq_true rfl) ⟨Nat.le_refl _, Nat.le_refl _⟩ dX0_firstOf_43 (fun H locs h => ?_)
        clear hc
        refine lv_istore_n (lv' := [(2, .int x3), (0, .ref (ad 27)), (1, .int y1), (3, .int y3)]) hx hb dX0_firstOf_46 rfl hl (by decide) rfl (fun ls hl => ?_)
        obtain ⟨x5, ex5⟩ : ∃ z : Int32, z = y3 + (1 : Int32) := ⟨_, rfl⟩
        replace hf := bnd_at ex5 hf
        refine lv_iinc (v := x5) (lv' := [(3, .int x5), (2, .int x3), (0, .ref (ad 27)), (1, .int y1)]) hx hb dX0_firstOf_47 hl (k := 3) rfl (by rw [ex5]; rfl) (by decide) rfl (fun ls hl => ?_)
        clear ex5
        refine lv_goto (tgt := 14) hx hb dX0_firstOf_50 (by decide) ?_
        exact ih g4 y1 x3 x5 hf H locs ls h (lv_sub hl [2, 3, 1, 0] rfl)
      · replace hf := if_t hq hf
        clear hq
        refine lv_iload_n hx hb dX0_firstOf_39 rfl (lv_at hl 3 rfl) ?_
        obtain ⟨e1, e2⟩ := pr_inj hf
        subst e1 e2
        exact m_iret C h dX0_firstOf_40

set_option maxHeartbeats 4000000 in
set_option maxRecDepth 100000 in
theorem qX0_firstOf {l : Launch} {D : va_G} {cs : Nat → ClassId} {ad al : Nat → Nat} {P : PL} {r : Int32} {g' : CS} {g : CS}  {a0 : Int32} (hf : fX0_firstOf P g a0 = some (r, g')) : GCon l D cs yX0_firstOf cX0_firstOf 4 (some .int) (rM 6) 0 0 [.ref (ad 27), .int a0] (SW cs ad al P g) (some (.int r)) (SW cs ad al P g') := by
  refine GCon.of (by decide) (Nat.le_of_ble_eq_true rfl) ?_
  intro p e s m args below meth c A ls H locs C h hl
  have hx := C.1
  have hb := C.2.1
  have C : MCx p s m args meth c A RX0 cX0_firstOf 4 (some .int) D cs := C
  have hl : lv_has ls 4 [(0, .ref (ad 27)), (1, .int a0)] := hl
  unfold fX0_firstOf at hf
  refine lv_aload_n hx hb dX0_firstOf_0 rfl (lv_at hl 0 rfl) ?_
  replace hf := bndv_some hf
  obtain ⟨g6, hc, hf⟩ := hf
  refine m_callVv [] C h cv_X0_48 (qX0_settle hc) rfl ⟨rfl, rfl⟩ ⟨Nat.le_of_ble_eq_true rfl, Nat.le_of_ble_eq_true rfl⟩ (rv_X0 C h) hl.1 rfl (Nat.le_of_ble_eq_true rfl) ⟨Nat.le_refl _, Nat.le_refl _⟩ dX0_firstOf_1 (fun H locs h => ?_)
  clear hc
  refine lv_aload_n hx hb dX0_firstOf_4 rfl (lv_at hl 0 rfl) ?_
  refine xg_X0 0 C h (by decide) tb_6_19 rfl rfl dX0_firstOf_5 ?_
  refine xg_X6 3 (by simp [okS, okT, ok6]) C h (by decide) tb_58_8 rfl rfl dX0_firstOf_8 ?_
  refine lv_topi (fun x7 ex7 => ?_)
  replace hf := bnd_at ex7 hf
  clear ex7
  refine lv_istore_n (lv' := [(2, .int x7), (0, .ref (ad 27)), (1, .int a0)]) hx hb dX0_firstOf_11 rfl hl (by decide) rfl (fun ls hl => ?_)
  refine lv_iconst (v := (0 : Int32)) hx hb dX0_firstOf_12 (by decide) ?_
  refine lv_istore_n (lv' := [(3, .int (0 : Int32)), (2, .int x7), (0, .ref (ad 27)), (1, .int a0)]) hx hb dX0_firstOf_13 rfl hl (by decide) rfl (fun ls hl => ?_)
  exact wX0_firstOf_14 (P := P) C fuel g6 a0 x7 (0 : Int32) hf H locs ls h (lv_sub hl [2, 3, 1, 0] rfl)

set_option maxHeartbeats 4000000 in
set_option maxRecDepth 100000 in
theorem qX1_with {l : Launch} {D : va_G} {cs : Nat → ClassId} {r : Int32}  {a0 : Int32} {a1 : Int32} {a2 : Int32} (hf : fX1_with a0 a1 a2 = some r) : GCon l D cs yX1_with cX1_with 4 (some .int) (rM 0) 0 0 [.int a0, .int a1, .int a2] [] (some (.int r)) [] := by
  refine GCon.of (by decide) (Nat.le_of_ble_eq_true rfl) ?_
  intro p e s m args below meth c A ls H locs C h hl
  have hx := C.1
  have hb := C.2.1
  have C : MCx p s m args meth c A RX1 cX1_with 4 (some .int) D cs := C
  have hl : lv_has ls 4 [(0, .int a0), (1, .int a1), (2, .int a2)] := hl
  unfold fX1_with at hf
  refine lv_iload_n hx hb dX1_with_0 rfl (lv_at hl 1 rfl) ?_
  refine lv_iconst (v := (2 : Int32)) hx hb dX1_with_1 (by decide) ?_
  refine x_ishl hx hb dX1_with_2 ?_
  refine lv_topi (fun x1 ex1 => ?_)
  replace hf := bnd_at ex1 hf
  clear ex1
  refine lv_istore_n (lv' := [(3, .int x1), (0, .int a0), (1, .int a1), (2, .int a2)]) hx hb dX1_with_3 rfl hl (by decide) rfl (fun ls hl => ?_)
  refine lv_iload_n hx hb dX1_with_4 rfl (lv_at hl 1 rfl) ?_
  refine lv_bipush (v := (15 : Int32)) hx hb dX1_with_5 (by decide) ?_
  refine lv_iload_n hx hb dX1_with_7 rfl (lv_at hl 0 rfl) ?_
  refine x_ishl hx hb dX1_with_8 ?_
  refine lv_iconst (v := (-1 : Int32)) hx hb dX1_with_9 (by decide) ?_
  refine lv_ixor hx hb dX1_with_10 ?_
  refine lv_iand hx hb dX1_with_11 ?_
  refine lv_iload_n hx hb dX1_with_12 rfl (lv_at hl 3 rfl) ?_
  refine lv_bipush (v := (15 : Int32)) hx hb dX1_with_13 (by decide) ?_
  refine lv_iand hx hb dX1_with_15 ?_
  refine lv_iload_n hx hb dX1_with_16 rfl (lv_at hl 0 rfl) ?_
  refine x_ishl hx hb dX1_with_17 ?_
  refine lv_ior hx hb dX1_with_18 ?_
  have e1 := Option.some.inj hf
  subst e1
  exact m_iret C h dX1_with_19

set_option maxHeartbeats 4000000 in
set_option maxRecDepth 100000 in
theorem wX1_ofBits_4 (C : MCx p s m args meth c A RX1 cX1_ofBits 3 (some .int) D cs)  {r : Int32}  : ∀ (n : Nat) (y0 : Int32) (y1 : Int32) (y2 : Int32), fX1_ofBits_4 n y0 y1 y2 = some r → ∀ (H : Heap) (locs : List Loc) (ls : Array Slot), MH D [] A s H locs → lv_has ls 3 [(0, .int y0), (1, .int y1), (2, .int y2)] → W p l e (rM 0) s m args below meth c H locs 0 0 (MQ below (GPost D (some (.int r)) [] A) args s 0 0 A) (F0 m 4 ls []) := by
  have hx := C.1
  have hb := C.2.1
  intro n
  induction n with
  | zero =>
    intro y0 y1 y2 hf
    exact absurd hf (by simp [fX1_ofBits_4])
  | succ n ih =>
    intro y0 y1 y2 hf H locs ls h hl
    rw [fX1_ofBits_4] at hf
    refine lv_iload_n hx hb dX1_ofBits_4 rfl (lv_at hl 2 rfl) ?_
    refine lv_bipush (v := (6 : Int32)) hx hb dX1_ofBits_5 (by decide) ?_
    refine lv_icmp_ge (tgt := 28) hx hb dX1_ofBits_7 (by decide) (fun hq => ?_) (fun hq => ?_)
    · replace hf := if_t hq hf
      clear hq
      refine lv_iload_n hx hb dX1_ofBits_28 rfl (lv_at hl 1 rfl) ?_
      have e1 := Option.some.inj hf
      subst e1
      exact m_iret C h dX1_ofBits_29
    · replace hf := if_f hq hf
      clear hq
      refine lv_iload_n hx hb dX1_ofBits_10 rfl (lv_at hl 1 rfl) ?_
      refine lv_iload_n hx hb dX1_ofBits_11 rfl (lv_at hl 0 rfl) ?_
      refine lv_iload_n hx hb dX1_ofBits_12 rfl (lv_at hl 2 rfl) ?_
      refine x_ishr hx hb dX1_ofBits_13 ?_
      refine lv_iconst (v := (1 : Int32)) hx hb dX1_ofBits_14 (by decide) ?_
      refine lv_iand hx hb dX1_ofBits_15 ?_
      refine lv_iload_n hx hb dX1_ofBits_16 rfl (lv_at hl 2 rfl) ?_
      refine lv_iconst (v := (2 : Int32)) hx hb dX1_ofBits_17 (by decide) ?_
      refine x_ishl hx hb dX1_ofBits_18 ?_
      refine x_ishl hx hb dX1_ofBits_19 ?_
      refine lv_ior hx hb dX1_ofBits_20 ?_
      refine lv_topi (fun x1 ex1 => ?_)
      replace hf := bnd_at ex1 hf
      clear ex1
      refine lv_istore_n (lv' := [(1, .int x1), (0, .int y0), (2, .int y2)]) hx hb dX1_ofBits_21 rfl hl (by decide) rfl (fun ls hl => ?_)
      obtain ⟨x2, ex2⟩ : ∃ z : Int32, z = y2 + (1 : Int32) := ⟨_, rfl⟩
      replace hf := bnd_at ex2 hf
      refine lv_iinc (v := x2) (lv' := [(2, .int x2), (1, .int x1), (0, .int y0)]) hx hb dX1_ofBits_22 hl (k := 2) rfl (by rw [ex2]; rfl) (by decide) rfl (fun ls hl => ?_)
      clear ex2
      refine lv_goto (tgt := 4) hx hb dX1_ofBits_25 (by decide) ?_
      exact ih y0 x1 x2 hf H locs ls h (lv_sub hl [2, 1, 0] rfl)

set_option maxHeartbeats 4000000 in
set_option maxRecDepth 100000 in
theorem qX1_ofBits {l : Launch} {D : va_G} {cs : Nat → ClassId} {r : Int32}  {a0 : Int32} (hf : fX1_ofBits a0 = some r) : GCon l D cs yX1_ofBits cX1_ofBits 3 (some .int) (rM 0) 0 0 [.int a0] [] (some (.int r)) [] := by
  refine GCon.of (by decide) (Nat.le_of_ble_eq_true rfl) ?_
  intro p e s m args below meth c A ls H locs C h hl
  have hx := C.1
  have hb := C.2.1
  have C : MCx p s m args meth c A RX1 cX1_ofBits 3 (some .int) D cs := C
  have hl : lv_has ls 3 [(0, .int a0)] := hl
  unfold fX1_ofBits at hf
  refine lv_iconst (v := (0 : Int32)) hx hb dX1_ofBits_0 (by decide) ?_
  refine lv_istore_n (lv' := [(1, .int (0 : Int32)), (0, .int a0)]) hx hb dX1_ofBits_1 rfl hl (by decide) rfl (fun ls hl => ?_)
  refine lv_iconst (v := (0 : Int32)) hx hb dX1_ofBits_2 (by decide) ?_
  refine lv_istore_n (lv' := [(2, .int (0 : Int32)), (1, .int (0 : Int32)), (0, .int a0)]) hx hb dX1_ofBits_3 rfl hl (by decide) rfl (fun ls hl => ?_)
  exact wX1_ofBits_4 C fuel a0 (0 : Int32) (0 : Int32) hf H locs ls h (lv_sub hl [2, 1, 0] rfl)
end
