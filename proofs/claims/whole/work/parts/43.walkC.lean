section
variable {p : Program} {l : Launch} {e : Env} {s : State} {m : MethodId} {args : Array Value} {below : List Frame} {meth : Method} {c : Code} {D : va_G} {cs : Nat → ClassId} {ad al adK adV : Nat → Nat} {P : PL} {A : Nat → Prop}
set_option maxHeartbeats 4000000 in
set_option maxRecDepth 100000 in
theorem qX6_become {l : Launch} {D : va_G} {cs : Nat → ClassId} {ad al : Nat → Nat} {P : PL} {g' : CS} {g : CS}  {o : Nat} {a0 : Nat} (hn_o : okS o) (hn_a0 : okS a0) (hf : fX6_become P g o a0 = some g') : GCon l D cs yX6_become cX6_become 2 none (rM 1) 0 0 [.ref (ad o), .ref (ad a0)] (SW cs ad al P g) none (SW cs ad al P g') := by
  refine GCon.of (by decide) (Nat.le_of_ble_eq_true rfl) ?_
  intro p e s m args below meth c A ls H locs C h hl
  have hx := C.1
  have hb := C.2.1
  have C : MCx p s m args meth c A RX6 cX6_become 2 none D cs := C
  have hl : lv_has ls 2 [(0, .ref (ad o)), (1, .ref (ad a0))] := hl
  unfold fX6_become at hf
  refine lv_aload_n hx hb dX6_become_0 rfl (lv_at hl 0 rfl) ?_
  refine lv_aload_n hx hb dX6_become_1 rfl (lv_at hl 1 rfl) ?_
  refine xg_X6 1 hn_a0 C h (by decide) tb_4_14 rfl rfl dX6_become_2 ?_
  replace hf := bnd_ex hf
  obtain ⟨g1, eg1, hf⟩ := hf
  refine xp_X6_1 hn_o C h tb_4_14 dX6_become_5 (fun H locs h => ?_)
  rw [← eg1] at h
  clear eg1
  refine lv_aload_n hx hb dX6_become_8 rfl (lv_at hl 0 rfl) ?_
  refine lv_aload_n hx hb dX6_become_9 rfl (lv_at hl 1 rfl) ?_
  refine xg_X6 2 hn_a0 C h (by decide) tb_19_10 rfl rfl dX6_become_10 ?_
  replace hf := bnd_ex hf
  obtain ⟨g2, eg2, hf⟩ := hf
  refine xp_X6_2 hn_o C h tb_19_10 dX6_become_13 (fun H locs h => ?_)
  rw [← eg2] at h
  clear eg2
  refine lv_aload_n hx hb dX6_become_16 rfl (lv_at hl 0 rfl) ?_
  refine lv_aload_n hx hb dX6_become_17 rfl (lv_at hl 1 rfl) ?_
  refine xg_X6 3 hn_a0 C h (by decide) tb_19_12 rfl rfl dX6_become_18 ?_
  replace hf := bnd_ex hf
  obtain ⟨g3, eg3, hf⟩ := hf
  refine xp_X6_3 hn_o C h tb_19_12 dX6_become_21 (fun H locs h => ?_)
  rw [← eg3] at h
  clear eg3
  refine lv_aload_n hx hb dX6_become_24 rfl (lv_at hl 0 rfl) ?_
  refine lv_aload_n hx hb dX6_become_25 rfl (lv_at hl 1 rfl) ?_
  refine xg_X6 4 hn_a0 C h (by decide) tb_4_15 rfl rfl dX6_become_26 ?_
  replace hf := bnd_ex hf
  obtain ⟨g4, eg4, hf⟩ := hf
  refine xp_X6_4 hn_o C h tb_4_15 dX6_become_29 (fun H locs h => ?_)
  rw [← eg4] at h
  clear eg4
  refine lv_aload_n hx hb dX6_become_32 rfl (lv_at hl 0 rfl) ?_
  refine lv_aload_n hx hb dX6_become_33 rfl (lv_at hl 1 rfl) ?_
  refine xg_X6 5 hn_a0 C h (by decide) tb_19_15 rfl rfl dX6_become_34 ?_
  replace hf := bnd_ex hf
  obtain ⟨g5, eg5, hf⟩ := hf
  refine xp_X6_5 hn_o C h tb_19_15 dX6_become_37 (fun H locs h => ?_)
  rw [← eg5] at h
  clear eg5
  refine lv_aload_n hx hb dX6_become_40 rfl (lv_at hl 0 rfl) ?_
  refine lv_aload_n hx hb dX6_become_41 rfl (lv_at hl 1 rfl) ?_
  refine xg_X6 8 hn_a0 C h (by decide) tb_4_16 rfl rfl dX6_become_42 ?_
  replace hf := bnd_ex hf
  obtain ⟨g6, eg6, hf⟩ := hf
  refine xp_X6_8 hn_o C h tb_4_16 dX6_become_45 (fun H locs h => ?_)
  rw [← eg6] at h
  clear eg6
  refine lv_aload_n hx hb dX6_become_48 rfl (lv_at hl 0 rfl) ?_
  refine lv_aload_n hx hb dX6_become_49 rfl (lv_at hl 1 rfl) ?_
  refine xg_X6 9 hn_a0 C h (by decide) tb_4_17 rfl rfl dX6_become_50 ?_
  replace hf := bnd_ex hf
  obtain ⟨g7, eg7, hf⟩ := hf
  refine xp_X6_9 hn_o C h tb_4_17 dX6_become_53 (fun H locs h => ?_)
  rw [← eg7] at h
  clear eg7
  refine lv_aload_n hx hb dX6_become_56 rfl (lv_at hl 0 rfl) ?_
  refine lv_aload_n hx hb dX6_become_57 rfl (lv_at hl 1 rfl) ?_
  refine xg_X6 10 hn_a0 C h (by decide) tb_4_18 rfl rfl dX6_become_58 ?_
  replace hf := bnd_ex hf
  obtain ⟨g8, eg8, hf⟩ := hf
  refine xp_X6_10 hn_o C h tb_4_18 dX6_become_61 (fun H locs h => ?_)
  rw [← eg8] at h
  clear eg8
  refine lv_aload_n hx hb dX6_become_64 rfl (lv_at hl 0 rfl) ?_
  refine lv_aload_n hx hb dX6_become_65 rfl (lv_at hl 1 rfl) ?_
  refine xg_X6 6 hn_a0 C h (by decide) tb_19_19 rfl rfl dX6_become_66 ?_
  replace hf := bnd_ex hf
  obtain ⟨g9, eg9, hf⟩ := hf
  refine xp_X6_6 hn_o C h tb_19_19 dX6_become_69 (fun H locs h => ?_)
  rw [← eg9] at h
  clear eg9
  refine lv_aload_n hx hb dX6_become_72 rfl (lv_at hl 1 rfl) ?_
  refine xg_X6 11 hn_a0 C h (by decide) tb_4_19 rfl rfl dX6_become_73 ?_
  refine lv_iconst (v := (0 : Int32)) hx hb dX6_become_76 (by decide) ?_
  refine lv_aload_n hx hb dX6_become_77 rfl (lv_at hl 0 rfl) ?_
  refine xg_X6 11 hn_o C h (by decide) tb_4_19 rfl rfl dX6_become_78 ?_
  refine lv_iconst (v := (0 : Int32)) hx hb dX6_become_81 (by decide) ?_
  refine lv_bipush (v := (10 : Int32)) hx hb dX6_become_82 (by decide) ?_
  replace hf := chk_some hf
  obtain ⟨hq, hf⟩ := hf
  replace hf := bnd_ex hf
  obtain ⟨g10, eg10, hf⟩ := hf
  refine x_cpy hn_a0 hn_o C h hl.1 tb_34_17 hq (Nat.le_of_ble_eq_true rfl) (by decide) dX6_become_84 (fun H locs h => ?_)
  rw [← eg10] at h
  clear hq eg10
  refine lv_aload_n hx hb dX6_become_87 rfl (lv_at hl 0 rfl) ?_
  refine lv_dup hx hb dX6_become_88 rfl ?_
  refine xg_X6 7 hn_o C h (by decide) tb_19_20 rfl rfl dX6_become_89 ?_
  refine lv_iconst (v := (1 : Int32)) hx hb dX6_become_92 (by decide) ?_
  refine lv_iadd hx hb dX6_become_93 ?_
  replace hf := bnd_ex hf
  obtain ⟨g11, eg11, hf⟩ := hf
  refine xp_X6_7 hn_o C h tb_19_20 dX6_become_94 (fun H locs h => ?_)
  rw [← eg11] at h
  clear eg11
  have e1 := Option.some.inj hf
  subst e1
  exact m_vret C h dX6_become_97

set_option maxHeartbeats 4000000 in
set_option maxRecDepth 100000 in
theorem qX6_has {l : Launch} {D : va_G} {cs : Nat → ClassId} {ad al : Nat → Nat} {P : PL} {r : Int32} {g' : CS} {g : CS}  {o : Nat} {a0 : Int32} (hn_o : okS o) (hf : fX6_has P g o a0 = some (r, g')) : GCon l D cs yX6_has cX6_has 2 (some .boolean) (rM 0) 0 0 [.ref (ad o), .int a0] (SW cs ad al P g) (some (.int r)) (SW cs ad al P g') := by
  refine GCon.of (by decide) (Nat.le_of_ble_eq_true rfl) ?_
  intro p e s m args below meth c A ls H locs C h hl
  have hx := C.1
  have hb := C.2.1
  have C : MCx p s m args meth c A RX6 cX6_has 2 (some .boolean) D cs := C
  have hl : lv_has ls 2 [(0, .ref (ad o)), (1, .int a0)] := hl
  unfold fX6_has at hf
  refine lv_iload_n hx hb dX6_has_0 rfl (lv_at hl 1 rfl) ?_
  refine lv_if_lt (tgt := 16) hx hb dX6_has_1 (by decide) (fun hq => ?_) (fun hq => ?_)
  · replace hf := if_t hq hf
    clear hq
    refine lv_iconst (v := (0 : Int32)) hx hb dX6_has_16 (by decide) ?_
    obtain ⟨e1, e2⟩ := pr_inj hf
    subst e1 e2
    exact m_zret C h rfl dX6_has_17
  · replace hf := if_f hq hf
    clear hq
    refine lv_iload_n hx hb dX6_has_4 rfl (lv_at hl 1 rfl) ?_
    refine lv_aload_n hx hb dX6_has_5 rfl (lv_at hl 0 rfl) ?_
    refine xg_X6 1 hn_o C h (by decide) tb_4_14 rfl rfl dX6_has_6 ?_
    refine lv_icmp_ge (tgt := 16) hx hb dX6_has_9 (by decide) (fun hq => ?_) (fun hq => ?_)
    · replace hf := if_t hq hf
      clear hq
      refine lv_iconst (v := (0 : Int32)) hx hb dX6_has_16 (by decide) ?_
      obtain ⟨e1, e2⟩ := pr_inj hf
      subst e1 e2
      exact m_zret C h rfl dX6_has_17
    · replace hf := if_f hq hf
      clear hq
      refine lv_iconst (v := (1 : Int32)) hx hb dX6_has_12 (by decide) ?_
      refine lv_goto (tgt := 17) hx hb dX6_has_13 (by decide) ?_
      obtain ⟨e1, e2⟩ := pr_inj hf
      subst e1 e2
      exact m_zret C h rfl dX6_has_17

set_option maxHeartbeats 4000000 in
set_option maxRecDepth 100000 in
theorem qX6_faced {l : Launch} {D : va_G} {cs : Nat → ClassId} {ad al : Nat → Nat} {P : PL} {r : Int32} {g' : CS} {g : CS}  {o : Nat} {a0 : Int32} (hn_o : okS o) (hf : fX6_faced P g o a0 = some (r, g')) : GCon l D cs yX6_faced cX6_faced 3 (some .int) (rM 1) 0 0 [.ref (ad o), .int a0] (SW cs ad al P g) (some (.int r)) (SW cs ad al P g') := by
  refine GCon.of (by decide) (Nat.le_of_ble_eq_true rfl) ?_
  intro p e s m args below meth c A ls H locs C h hl
  have hx := C.1
  have hb := C.2.1
  have C : MCx p s m args meth c A RX6 cX6_faced 3 (some .int) D cs := C
  have hl : lv_has ls 3 [(0, .ref (ad o)), (1, .int a0)] := hl
  unfold fX6_faced at hf
  refine lv_aload_n hx hb dX6_faced_0 rfl (lv_at hl 0 rfl) ?_
  refine xg_X6 3 hn_o C h (by decide) tb_19_12 rfl rfl dX6_faced_1 ?_
  refine lv_iload_n hx hb dX6_faced_4 rfl (lv_at hl 1 rfl) ?_
  replace hf := bndv_some hf
  obtain ⟨x1, hc, hf⟩ := hf
  refine m_callSi [.int (g.1 o 3), .int a0] C h cs_X6_79 (qX1_at hc) rfl ⟨rfl, rfl⟩ ⟨Nat.le_of_ble_eq_true rfl, Nat.le_of_ble_eq_true rfl⟩ hl.1 rfl (Nat.le_of_ble_eq_true rfl) ⟨Nat.le_refl _, Nat.le_refl _⟩ dX6_faced_5 (fun H locs h => ?_)
  clear hc
  refine lv_istore_n (lv' := [(2, .int x1), (0, .ref (ad o)), (1, .int a0)]) hx hb dX6_faced_8 rfl hl (by decide) rfl (fun ls hl => ?_)
  refine lv_iload_n hx hb dX6_faced_9 rfl (lv_at hl 0 rfl) ?_
  refine lv_if_ne (tgt := 15) hx hb dX6_faced_10 (by decide) (fun hq => ?_) (fun hq => ?_)
  · replace hf := if_tn hq hf
    clear hq
    refine lv_iload_n hx hb dX6_faced_15 rfl (lv_at hl 2 rfl) ?_
    refine lv_iload_n hx hb dX6_faced_16 rfl (lv_at hl 0 rfl) ?_
    refine lv_iadd hx hb dX6_faced_17 ?_
    refine lv_aload_n hx hb dX6_faced_18 rfl (lv_at hl 1 rfl) ?_
    refine xg_X6 1 hn_o C h (by decide) tb_4_14 rfl rfl dX6_faced_19 ?_
    refine lv_icmp_ge (tgt := 31) hx hb dX6_faced_22 (by decide) (fun hq => ?_) (fun hq => ?_)
    · replace hf := if_t hq hf
      clear hq
      refine lv_iload_n hx hb dX6_faced_31 rfl (lv_at hl 2 rfl) ?_
      refine lv_iload_n hx hb dX6_faced_32 rfl (lv_at hl 0 rfl) ?_
      refine lv_iadd hx hb dX6_faced_33 ?_
      refine lv_aload_n hx hb dX6_faced_34 rfl (lv_at hl 1 rfl) ?_
      refine xg_X6 1 hn_o C h (by decide) tb_4_14 rfl rfl dX6_faced_35 ?_
      refine lv_isub hx hb dX6_faced_38 ?_
      obtain ⟨e1, e2⟩ := pr_inj hf
      subst e1 e2
      exact m_iret C h dX6_faced_39
    · replace hf := if_f hq hf
      clear hq
      refine lv_iload_n hx hb dX6_faced_25 rfl (lv_at hl 2 rfl) ?_
      refine lv_iload_n hx hb dX6_faced_26 rfl (lv_at hl 0 rfl) ?_
      refine lv_iadd hx hb dX6_faced_27 ?_
      refine lv_goto (tgt := 39) hx hb dX6_faced_28 (by decide) ?_
      obtain ⟨e1, e2⟩ := pr_inj hf
      subst e1 e2
      exact m_iret C h dX6_faced_39
  · replace hf := if_t hq hf
    clear hq
    refine lv_iconst (v := (-1 : Int32)) hx hb dX6_faced_13 (by decide) ?_
    obtain ⟨e1, e2⟩ := pr_inj hf
    subst e1 e2
    exact m_iret C h dX6_faced_14

set_option maxHeartbeats 4000000 in
set_option maxRecDepth 100000 in
theorem wX6_lookingOut_4 (C : MCx p s m args meth c A RX6 cX6_lookingOut 3 (some .int) D cs)  {r : Int32} {g' : CS}  : ∀ (n : Nat) (g : CS) (y0 : Nat) (y1 : Int32) (y2 : Int32), okS y0 → fX6_lookingOut_4 P n g y0 y1 y2 = some (r, g') → ∀ (H : Heap) (locs : List Loc) (ls : Array Slot), MH D (SW cs ad al P g) A s H locs → lv_has ls 3 [(0, .ref (ad y0)), (1, .int y1), (2, .int y2)] → W p l e (rM 1) s m args below meth c H locs 0 0 (MQ below (GPost D (some (.int r)) (SW cs ad al P g') A) args s 0 0 A) (F0 m 4 ls []) := by
  have hx := C.1
  have hb := C.2.1
  intro n
  induction n with
  | zero =>
    intro g y0 y1 y2 hn_y0 hf
    exact absurd hf (by simp [fX6_lookingOut_4])
  | succ n ih =>
    intro g y0 y1 y2 hn_y0 hf H locs ls h hl
    rw [fX6_lookingOut_4] at hf
    refine lv_iload_n hx hb dX6_lookingOut_4 rfl (lv_at hl 2 rfl) ?_
    refine lv_aload_n hx hb dX6_lookingOut_5 rfl (lv_at hl 0 rfl) ?_
    refine xg_X6 1 hn_y0 C h (by decide) tb_4_14 rfl rfl dX6_lookingOut_6 ?_
    refine lv_icmp_ge (tgt := 35) hx hb dX6_lookingOut_9 (by decide) (fun hq => ?_) (fun hq => ?_)
    · replace hf := if_t hq hf
      clear hq
      refine lv_iload_n hx hb dX6_lookingOut_35 rfl (lv_at hl 1 rfl) ?_
      obtain ⟨e1, e2⟩ := pr_inj hf
      subst e1 e2
      exact m_iret C h dX6_lookingOut_36
    · replace hf := if_f hq hf
      clear hq
      refine lv_aload_n hx hb dX6_lookingOut_12 rfl (lv_at hl 0 rfl) ?_
      refine xg_X6 3 hn_y0 C h (by decide) tb_19_12 rfl rfl dX6_lookingOut_13 ?_
      refine lv_iload_n hx hb dX6_lookingOut_16 rfl (lv_at hl 2 rfl) ?_
      replace hf := bndv_some hf
      obtain ⟨x1, hc, hf⟩ := hf
      refine m_callSi [.int (g.1 y0 3), .int y2] C h cs_X6_79 (qX1_at hc) rfl ⟨rfl, rfl⟩ ⟨Nat.le_of_ble_eq_true rfl, Nat.le_of_ble_eq_true rfl⟩ hl.1 rfl (Nat.le_of_ble_eq_true rfl) ⟨Nat.le_refl _, Nat.le_refl _⟩ dX6_lookingOut_17 (fun H locs h => ?_)
      clear hc
      refine lv_if_ne (tgt := 29) hx hb dX6_lookingOut_20 (by decide) (fun hq => ?_) (fun hq => ?_)
      · replace hf := if_tn hq hf
        clear hq
        obtain ⟨x2, ex2⟩ : ∃ z : Int32, z = y2 + (1 : Int32) := ⟨_, rfl⟩
        replace hf := bnd_at ex2 hf
        refine lv_iinc (v := x2) (lv' := [(2, .int x2), (0, .ref (ad y0)), (1, .int y1)]) hx hb dX6_lookingOut_29 hl (k := 2) rfl (by rw [ex2]; rfl) (by decide) rfl (fun ls hl => ?_)
        clear ex2
        refine lv_goto (tgt := 4) hx hb dX6_lookingOut_32 (by decide) ?_
        exact ih g y0 y1 x2 hn_y0 hf H locs ls h (lv_sub hl [1, 2, 0] rfl)
      · replace hf := if_t hq hf
        clear hq
        refine lv_iload_n hx hb dX6_lookingOut_23 rfl (lv_at hl 1 rfl) ?_
        refine lv_iconst (v := (1 : Int32)) hx hb dX6_lookingOut_24 (by decide) ?_
        refine lv_iload_n hx hb dX6_lookingOut_25 rfl (lv_at hl 2 rfl) ?_
        refine x_ishl hx hb dX6_lookingOut_26 ?_
        refine lv_ior hx hb dX6_lookingOut_27 ?_
        refine lv_topi (fun x3 ex3 => ?_)
        replace hf := bnd_at ex3 hf
        clear ex3
        refine lv_istore_n (lv' := [(1, .int x3), (0, .ref (ad y0)), (2, .int y2)]) hx hb dX6_lookingOut_28 rfl hl (by decide) rfl (fun ls hl => ?_)
        obtain ⟨x4, ex4⟩ : ∃ z : Int32, z = y2 + (1 : Int32) := ⟨_, rfl⟩
        replace hf := bnd_at ex4 hf
        refine lv_iinc (v := x4) (lv' := [(2, .int x4), (1, .int x3), (0, .ref (ad y0))]) hx hb dX6_lookingOut_29 hl (k := 2) rfl (by rw [ex4]; rfl) (by decide) rfl (fun ls hl => ?_)
        clear ex4
        refine lv_goto (tgt := 4) hx hb dX6_lookingOut_32 (by decide) ?_
        exact ih g y0 x3 x4 hn_y0 hf H locs ls h (lv_sub hl [2, 1, 0] rfl)

set_option maxHeartbeats 4000000 in
set_option maxRecDepth 100000 in
theorem qX6_lookingOut {l : Launch} {D : va_G} {cs : Nat → ClassId} {ad al : Nat → Nat} {P : PL} {r : Int32} {g' : CS} {g : CS}  {o : Nat} (hn_o : okS o) (hf : fX6_lookingOut P g o = some (r, g')) : GCon l D cs yX6_lookingOut cX6_lookingOut 3 (some .int) (rM 1) 0 0 [.ref (ad o)] (SW cs ad al P g) (some (.int r)) (SW cs ad al P g') := by
  refine GCon.of (by decide) (Nat.le_of_ble_eq_true rfl) ?_
  intro p e s m args below meth c A ls H locs C h hl
  have hx := C.1
  have hb := C.2.1
  have C : MCx p s m args meth c A RX6 cX6_lookingOut 3 (some .int) D cs := C
  have hl : lv_has ls 3 [(0, .ref (ad o))] := hl
  unfold fX6_lookingOut at hf
  refine lv_iconst (v := (0 : Int32)) hx hb dX6_lookingOut_0 (by decide) ?_
  refine lv_istore_n (lv' := [(1, .int (0 : Int32)), (0, .ref (ad o))]) hx hb dX6_lookingOut_1 rfl hl (by decide) rfl (fun ls hl => ?_)
  refine lv_iconst (v := (0 : Int32)) hx hb dX6_lookingOut_2 (by decide) ?_
  refine lv_istore_n (lv' := [(2, .int (0 : Int32)), (1, .int (0 : Int32)), (0, .ref (ad o))]) hx hb dX6_lookingOut_3 rfl hl (by decide) rfl (fun ls hl => ?_)
  exact wX6_lookingOut_4 (P := P) C fuel g o (0 : Int32) (0 : Int32) hn_o hf H locs ls h (lv_sub hl [2, 1, 0] rfl)

set_option maxHeartbeats 4000000 in
set_option maxRecDepth 100000 in
theorem wX6_weightsTogether_4 (C : MCx p s m args meth c A RX6 cX6_weightsTogether 3 (some .int) D cs)  {r : Int32} {g' : CS}  : ∀ (n : Nat) (g : CS) (y0 : Nat) (y1 : Int32) (y2 : Int32), okS y0 → fX6_weightsTogether_4 P n g y0 y1 y2 = some (r, g') → ∀ (H : Heap) (locs : List Loc) (ls : Array Slot), MH D (SW cs ad al P g) A s H locs → lv_has ls 3 [(0, .ref (ad y0)), (1, .int y1), (2, .int y2)] → W p l e (rM 1) s m args below meth c H locs 0 0 (MQ below (GPost D (some (.int r)) (SW cs ad al P g') A) args s 0 0 A) (F0 m 4 ls []) := by
  have hx := C.1
  have hb := C.2.1
  intro n
  induction n with
  | zero =>
    intro g y0 y1 y2 hn_y0 hf
    exact absurd hf (by simp [fX6_weightsTogether_4])
  | succ n ih =>
    intro g y0 y1 y2 hn_y0 hf H locs ls h hl
    rw [fX6_weightsTogether_4] at hf
    refine lv_iload_n hx hb dX6_weightsTogether_4 rfl (lv_at hl 2 rfl) ?_
    refine lv_aload_n hx hb dX6_weightsTogether_5 rfl (lv_at hl 0 rfl) ?_
    refine xg_X6 1 hn_y0 C h (by decide) tb_4_14 rfl rfl dX6_weightsTogether_6 ?_
    refine lv_icmp_ge (tgt := 29) hx hb dX6_weightsTogether_9 (by decide) (fun hq => ?_) (fun hq => ?_)
    · replace hf := if_t hq hf
      clear hq
      refine lv_iload_n hx hb dX6_weightsTogether_29 rfl (lv_at hl 1 rfl) ?_
      obtain ⟨e1, e2⟩ := pr_inj hf
      subst e1 e2
      exact m_iret C h dX6_weightsTogether_30
    · replace hf := if_f hq hf
      clear hq
      refine lv_iload_n hx hb dX6_weightsTogether_12 rfl (lv_at hl 1 rfl) ?_
      refine lv_aload_n hx hb dX6_weightsTogether_13 rfl (lv_at hl 0 rfl) ?_
      refine xg_X6 4 hn_y0 C h (by decide) tb_4_15 rfl rfl dX6_weightsTogether_14 ?_
      refine lv_iload_n hx hb dX6_weightsTogether_17 rfl (lv_at hl 2 rfl) ?_
      replace hf := bndv_some hf
      obtain ⟨x1, hc, hf⟩ := hf
      refine m_callSi [.int (g.1 y0 4), .int y2] C h cs_X6_79 (qX1_at hc) rfl ⟨rfl, rfl⟩ ⟨Nat.le_of_ble_eq_true rfl, Nat.le_of_ble_eq_true rfl⟩ hl.1 rfl (Nat.le_of_ble_eq_true rfl) ⟨Nat.le_refl _, Nat.le_refl _⟩ dX6_weightsTogether_18 (fun H locs h => ?_)
      clear hc
      refine lv_iadd hx hb dX6_weightsTogether_21 ?_
      refine lv_topi (fun x2 ex2 => ?_)
      replace hf := bnd_at ex2 hf
      clear ex2
      refine lv_istore_n (lv' := [(1, .int x2), (0, .ref (ad y0)), (2, .int y2)]) hx hb dX6_weightsTogether_22 rfl hl (by decide) rfl (fun ls hl => ?_)
      obtain ⟨x3, ex3⟩ : ∃ z : Int32, z = y2 + (1 : Int32) := ⟨_, rfl⟩
      replace hf := bnd_at ex3 hf
      refine lv_iinc (v := x3) (lv' := [(2, .int x3), (1, .int x2), (0, .ref (ad y0))]) hx hb dX6_weightsTogether_23 hl (k := 2) rfl (by rw [ex3]; rfl) (by decide) rfl (fun ls hl => ?_)
      clear ex3
      refine lv_goto (tgt := 4) hx hb dX6_weightsTogether_26 (by decide) ?_
      exact ih g y0 x2 x3 hn_y0 hf H locs ls h (lv_sub hl [2, 1, 0] rfl)

set_option maxHeartbeats 4000000 in
set_option maxRecDepth 100000 in
theorem qX6_weightsTogether {l : Launch} {D : va_G} {cs : Nat → ClassId} {ad al : Nat → Nat} {P : PL} {r : Int32} {g' : CS} {g : CS}  {o : Nat} (hn_o : okS o) (hf : fX6_weightsTogether P g o = some (r, g')) : GCon l D cs yX6_weightsTogether cX6_weightsTogether 3 (some .int) (rM 1) 0 0 [.ref (ad o)] (SW cs ad al P g) (some (.int r)) (SW cs ad al P g') := by
  refine GCon.of (by decide) (Nat.le_of_ble_eq_true rfl) ?_
  intro p e s m args below meth c A ls H locs C h hl
  have hx := C.1
  have hb := C.2.1
  have C : MCx p s m args meth c A RX6 cX6_weightsTogether 3 (some .int) D cs := C
  have hl : lv_has ls 3 [(0, .ref (ad o))] := hl
  unfold fX6_weightsTogether at hf
  refine lv_iconst (v := (0 : Int32)) hx hb dX6_weightsTogether_0 (by decide) ?_
  refine lv_istore_n (lv' := [(1, .int (0 : Int32)), (0, .ref (ad o))]) hx hb dX6_weightsTogether_1 rfl hl (by decide) rfl (fun ls hl => ?_)
  refine lv_iconst (v := (0 : Int32)) hx hb dX6_weightsTogether_2 (by decide) ?_
  refine lv_istore_n (lv' := [(2, .int (0 : Int32)), (1, .int (0 : Int32)), (0, .ref (ad o))]) hx hb dX6_weightsTogether_3 rfl hl (by decide) rfl (fun ls hl => ?_)
  exact wX6_weightsTogether_4 (P := P) C fuel g o (0 : Int32) (0 : Int32) hn_o hf H locs ls h (lv_sub hl [2, 1, 0] rfl)

set_option maxHeartbeats 4000000 in
set_option maxRecDepth 100000 in
theorem qX6_turningWith {l : Launch} {D : va_G} {cs : Nat → ClassId} {ad al : Nat → Nat} {P : PL} {r : Int32} {g' : CS} {g : CS}  {o : Nat} {a0 : Int32} (hn_o : okS o) (hf : fX6_turningWith P g o a0 = some (r, g')) : GCon l D cs yX6_turningWith cX6_turningWith 2 (some .int) (rM 3) 0 0 [.ref (ad o), .int a0] (SW cs ad al P g) (some (.int r)) (SW cs ad al P g') := by
  refine GCon.of (by decide) (Nat.le_of_ble_eq_true rfl) ?_
  intro p e s m args below meth c A ls H locs C h hl
  have hx := C.1
  have hb := C.2.1
  have C : MCx p s m args meth c A RX6 cX6_turningWith 2 (some .int) D cs := C
  have hl : lv_has ls 2 [(0, .ref (ad o)), (1, .int a0)] := hl
  unfold fX6_turningWith at hf
  refine lv_aload_n hx hb dX6_turningWith_0 rfl (lv_at hl 0 rfl) ?_
  refine lv_iload_n hx hb dX6_turningWith_1 rfl (lv_at hl 1 rfl) ?_
  replace hf := bndc_some hf
  obtain ⟨x1, g2, hc, hf⟩ := hf
  refine m_callVi [.int a0] C h cv_X6_104 (qX6_isStuck hn_o hc) rfl ⟨rfl, rfl⟩ ⟨Nat.le_of_ble_eq_true rfl, Nat.le_of_ble_eq_true rfl⟩ (rv_X6 hn_o C h) hl.1 rfl (Nat.le_of_ble_eq_true rfl) ⟨Nat.le_refl _, Nat.le_refl _⟩ dX6_turningWith_2 (fun H locs h => ?_)
  clear hc
  refine lv_if_eq (tgt := 12) hx hb dX6_turningWith_5 (by decide) (fun hq => ?_) (fun hq => ?_)
  · replace hf := if_t hq hf
    clear hq
    refine lv_aload_n hx hb dX6_turningWith_12 rfl (lv_at hl 0 rfl) ?_
    refine lv_iload_n hx hb dX6_turningWith_13 rfl (lv_at hl 1 rfl) ?_
    replace hf := bndc_some hf
    obtain ⟨x3, g4, hc, hf⟩ := hf
    refine m_callVi [.int a0] C h cv_X6_108 (qX6_draggedBy hn_o hc) rfl ⟨rfl, rfl⟩ ⟨Nat.le_of_ble_eq_true rfl, Nat.le_of_ble_eq_true rfl⟩ (rv_X6 hn_o C h) hl.1 rfl (Nat.le_of_ble_eq_true rfl) ⟨Nat.le_refl _, Nat.le_refl _⟩ dX6_turningWith_14 (fun H locs h => ?_)
    clear hc
    refine lv_aload_n hx hb dX6_turningWith_17 rfl (lv_at hl 0 rfl) ?_
    refine xg_X6 5 hn_o C h (by decide) tb_19_15 rfl rfl dX6_turningWith_18 ?_
    refine lv_iconst (v := (-1 : Int32)) hx hb dX6_turningWith_21 (by decide) ?_
    refine lv_ixor hx hb dX6_turningWith_22 ?_
    refine lv_iand hx hb dX6_turningWith_23 ?_
    obtain ⟨e1, e2⟩ := pr_inj hf
    subst e1 e2
    exact m_iret C h dX6_turningWith_24
  · replace hf := if_f hq hf
    clear hq
    refine lv_iconst (v := (0 : Int32)) hx hb dX6_turningWith_8 (by decide) ?_
    refine lv_goto (tgt := 24) hx hb dX6_turningWith_9 (by decide) ?_
    obtain ⟨e1, e2⟩ := pr_inj hf
    subst e1 e2
    exact m_iret C h dX6_turningWith_24

set_option maxHeartbeats 4000000 in
set_option maxRecDepth 100000 in
theorem wX6_passMinute_14 (C : MCx p s m args meth c A RX6 cX6_passMinute 5 none D cs)  {g' : CS}  : ∀ (n : Nat) (g : CS) (y0 : Nat) (y1 : Int64) (y3 : Int32) (y4 : Int32), okS y0 → fX6_passMinute_14 P n g y0 y1 y3 y4 = some g' → ∀ (H : Heap) (locs : List Loc) (ls : Array Slot), MH D (SW cs ad al P g) A s H locs → lv_has ls 5 [(0, .ref (ad y0)), (1, .long y1), (3, .int y3), (4, .int y4)] → W p l e (rM 3) s m args below meth c H locs 0 0 (MQ below (GPost D none (SW cs ad al P g') A) args s 0 0 A) (F0 m 14 ls []) := by
  have hx := C.1
  have hb := C.2.1
  intro n
  induction n with
  | zero =>
    intro g y0 y1 y3 y4 hn_y0 hf
    exact absurd hf (by simp [fX6_passMinute_14])
  | succ n ih =>
    intro g y0 y1 y3 y4 hn_y0 hf H locs ls h hl
    rw [fX6_passMinute_14] at hf
    refine lv_iload hx hb dX6_passMinute_14 (lv_at hl 3 rfl) ?_
    refine lv_aload_n hx hb dX6_passMinute_16 rfl (lv_at hl 0 rfl) ?_
    refine xg_X6 1 hn_y0 C h (by decide) tb_4_14 rfl rfl dX6_passMinute_17 ?_
    refine lv_icmp_ge (tgt := 67) hx hb dX6_passMinute_20 (by decide) (fun hq => ?_) (fun hq => ?_)
    · replace hf := if_t hq hf
      clear hq
      refine lv_aload_n hx hb dX6_passMinute_67 rfl (lv_at hl 0 rfl) ?_
      refine lv_aload_n hx hb dX6_passMinute_68 rfl (lv_at hl 0 rfl) ?_
      refine xg_X6 3 hn_y0 C h (by decide) tb_19_12 rfl rfl dX6_passMinute_69 ?_
      refine lv_iload_n hx hb dX6_passMinute_72 rfl (lv_at hl 2 rfl) ?_
      refine lv_aload_n hx hb dX6_passMinute_73 rfl (lv_at hl 0 rfl) ?_
      refine xg_X6 1 hn_y0 C h (by decide) tb_4_14 rfl rfl dX6_passMinute_74 ?_
      replace hf := bndv_some hf
      obtain ⟨x1, hc, hf⟩ := hf
      refine m_callSi [.int (g.1 y0 3), .int y3, .int (g.1 y0 1)] C h cs_X6_122 (qX1_plus hc) rfl ⟨rfl, rfl⟩ ⟨Nat.le_of_ble_eq_true rfl, Nat.le_of_ble_eq_true rfl⟩ hl.1 rfl (Nat.le_of_ble_eq_true rfl) ⟨Nat.le_refl _, Nat.le_refl _⟩ dX6_passMinute_77 (fun H locs h => ?_)
      clear hc
      replace hf := bnd_ex hf
      obtain ⟨g2, eg2, hf⟩ := hf
      refine xp_X6_3 hn_y0 C h tb_19_12 dX6_passMinute_80 (fun H locs h => ?_)
      rw [← eg2] at h
      clear eg2
      have e1 := Option.some.inj hf
      subst e1
      exact m_vret C h dX6_passMinute_83
    · replace hf := if_f hq hf
      clear hq
      refine lv_aload_n hx hb dX6_passMinute_23 rfl (lv_at hl 0 rfl) ?_
      refine lv_iload hx hb dX6_passMinute_24 (lv_at hl 3 rfl) ?_
      replace hf := bndc_some hf
      obtain ⟨x3, g4, hc, hf⟩ := hf
      refine m_callVi [.int y4] C h cv_X6_104 (qX6_isStuck hn_y0 hc) rfl ⟨rfl, rfl⟩ ⟨Nat.le_of_ble_eq_true rfl, Nat.le_of_ble_eq_true rfl⟩ (rv_X6 hn_y0 C h) hl.1 rfl (Nat.le_of_ble_eq_true rfl) ⟨Nat.le_refl _, Nat.le_refl _⟩ dX6_passMinute_26 (fun H locs h => ?_)
      clear hc
      refine lv_if_ne (tgt := 61) hx hb dX6_passMinute_29 (by decide) (fun hq => ?_) (fun hq => ?_)
      · replace hf := if_tn hq hf
        clear hq
        obtain ⟨x5, ex5⟩ : ∃ z : Int32, z = y4 + (1 : Int32) := ⟨_, rfl⟩
        replace hf := bnd_at ex5 hf
        refine lv_iinc (v := x5) (lv' := [(4, .int x5), (0, .ref (ad y0)), (1, .long y1), (3, .int y3)]) hx hb dX6_passMinute_61 hl (k := 3) rfl (by rw [ex5]; rfl) (by decide) rfl (fun ls hl => ?_)
        clear ex5
        refine lv_goto (tgt := 14) hx hb dX6_passMinute_64 (by decide) ?_
        exact ih g4 y0 y1 y3 x5 hn_y0 hf H locs ls h (lv_sub hl [1, 2, 3, 0] rfl)
      · replace hf := if_t hq hf
        clear hq
        refine lv_iload_n hx hb dX6_passMinute_32 rfl (lv_at hl 2 rfl) ?_
        refine lv_aload_n hx hb dX6_passMinute_33 rfl (lv_at hl 0 rfl) ?_
        refine lv_iload hx hb dX6_passMinute_34 (lv_at hl 3 rfl) ?_
        refine lv_aload_n hx hb dX6_passMinute_36 rfl (lv_at hl 0 rfl) ?_
        refine xg_X6 3 hn_y0 C h (by decide) tb_19_12 rfl rfl dX6_passMinute_37 ?_
        refine lv_iload hx hb dX6_passMinute_40 (lv_at hl 3 rfl) ?_
        replace hf := bndv_some hf
        obtain ⟨x6, hc, hf⟩ := hf
        refine m_callSi [.int (g4.1 y0 3), .int y4] C h cs_X6_79 (qX1_at hc) rfl ⟨rfl, rfl⟩ ⟨Nat.le_of_ble_eq_true rfl, Nat.le_of_ble_eq_true rfl⟩ hl.1 rfl (Nat.le_of_ble_eq_true rfl) ⟨Nat.le_refl _, Nat.le_refl _⟩ dX6_passMinute_42 (fun H locs h => ?_)
        clear hc
        refine lv_lload_n hx hb dX6_passMinute_45 rfl (lv_at hl 1 rfl) ?_
        refine lv_iload hx hb dX6_passMinute_46 (lv_at hl 3 rfl) ?_
        replace hf := bndv_some hf
        obtain ⟨x7, hc, hf⟩ := hf
        refine m_callSi [.long y1, .int y4] C h cs_X6_114 (qX1_votesAt hc) rfl ⟨rfl, rfl⟩ ⟨Nat.le_of_ble_eq_true rfl, Nat.le_of_ble_eq_true rfl⟩ hl.1 rfl (Nat.le_of_ble_eq_true rfl) ⟨Nat.le_refl _, Nat.le_refl _⟩ dX6_passMinute_48 (fun H locs h => ?_)
        clear hc
        replace hf := bndc_some hf
        obtain ⟨x8, g9, hc, hf⟩ := hf
        refine m_callVi [.int y4, .int x6, .int x7] C h cv_X6_118 (qX6_pace hn_y0 hc) rfl ⟨rfl, rfl⟩ ⟨Nat.le_of_ble_eq_true rfl, Nat.le_of_ble_eq_true rfl⟩ (rv_X6 hn_y0 C h) hl.1 rfl (Nat.le_of_ble_eq_true rfl) ⟨Nat.le_refl _, Nat.le_refl _⟩ dX6_passMinute_51 (fun H locs h => ?_)
        clear hc
        refine lv_iload hx hb dX6_passMinute_54 (lv_at hl 3 rfl) ?_
        refine lv_iconst (v := (2 : Int32)) hx hb dX6_passMinute_56 (by decide) ?_
        refine x_ishl hx hb dX6_passMinute_57 ?_
        refine x_ishl hx hb dX6_passMinute_58 ?_
        refine lv_ior hx hb dX6_passMinute_59 ?_
        refine lv_topi (fun x10 ex10 => ?_)
        replace hf := bnd_at ex10 hf
        clear ex10
        refine lv_istore_n (lv' := [(3, .int x10), (0, .ref (ad y0)), (1, .long y1), (4, .int y4)]) hx hb dX6_passMinute_60 rfl hl (by decide) rfl (fun ls hl => ?_)
        obtain ⟨x11, ex11⟩ : ∃ z : Int32, z = y4 + (1 : Int32) := ⟨_, rfl⟩
        replace hf := bnd_at ex11 hf
        refine lv_iinc (v := x11) (lv' := [(4, .int x11), (3, .int x10), (0, .ref (ad y0)), (1, .long y1)]) hx hb dX6_passMinute_61 hl (k := 3) rfl (by rw [ex11]; rfl) (by decide) rfl (fun ls hl => ?_)
        clear ex11
        refine lv_goto (tgt := 14) hx hb dX6_passMinute_64 (by decide) ?_
        exact ih g9 y0 y1 x10 x11 hn_y0 hf H locs ls h (lv_sub hl [2, 3, 1, 0] rfl)

set_option maxHeartbeats 4000000 in
set_option maxRecDepth 100000 in
theorem qX6_passMinute {l : Launch} {D : va_G} {cs : Nat → ClassId} {ad al : Nat → Nat} {P : PL} {g' : CS} {g : CS}  {o : Nat} (hn_o : okS o) (hf : fX6_passMinute P g o = some g') : GCon l D cs yX6_passMinute cX6_passMinute 5 none (rM 3) 0 0 [.ref (ad o)] (SW cs ad al P g) none (SW cs ad al P g') := by
  refine GCon.of (by decide) (Nat.le_of_ble_eq_true rfl) ?_
  intro p e s m args below meth c A ls H locs C h hl
  have hx := C.1
  have hb := C.2.1
  have C : MCx p s m args meth c A RX6 cX6_passMinute 5 none D cs := C
  have hl : lv_has ls 5 [(0, .ref (ad o))] := hl
  unfold fX6_passMinute at hf
  refine lv_aload_n hx hb dX6_passMinute_0 rfl (lv_at hl 0 rfl) ?_
  refine lv_aload_n hx hb dX6_passMinute_1 rfl (lv_at hl 0 rfl) ?_
  refine xg_X6 3 hn_o C h (by decide) tb_19_12 rfl rfl dX6_passMinute_2 ?_
  replace hf := bndc_some hf
  obtain ⟨x12, g13, hc, hf⟩ := hf
  refine m_callVl [.int (g.1 o 3)] C h cv_X6_83 (qX6_votesIn hn_o hc) rfl ⟨rfl, rfl⟩ ⟨Nat.le_of_ble_eq_true rfl, Nat.le_of_ble_eq_true rfl⟩ (rv_X6 hn_o C h) hl.1 rfl (Nat.le_of_ble_eq_true rfl) ⟨Nat.le_refl _, Nat.le_refl _⟩ dX6_passMinute_5 (fun H locs h => ?_)
  clear hc
  refine lv_lstore_n (lv' := [(1, .long x12), (0, .ref (ad o))]) hx hb dX6_passMinute_8 rfl hl (by decide) rfl (fun ls hl => ?_)
  refine lv_iconst (v := (0 : Int32)) hx hb dX6_passMinute_9 (by decide) ?_
  refine lv_istore_n (lv' := [(3, .int (0 : Int32)), (1, .long x12), (0, .ref (ad o))]) hx hb dX6_passMinute_10 rfl hl (by decide) rfl (fun ls hl => ?_)
  refine lv_iconst (v := (0 : Int32)) hx hb dX6_passMinute_11 (by decide) ?_
  refine lv_istore (lv' := [(4, .int (0 : Int32)), (3, .int (0 : Int32)), (1, .long x12), (0, .ref (ad o))]) hx hb dX6_passMinute_12 hl (by decide) rfl (fun ls hl => ?_)
  exact wX6_passMinute_14 (P := P) C fuel g13 o x12 (0 : Int32) (0 : Int32) hn_o hf H locs ls h (lv_sub hl [3, 2, 1, 0] rfl)

set_option maxHeartbeats 4000000 in
set_option maxRecDepth 100000 in
theorem wX6_remember_30 (C : MCx p s m args meth c A RX6 cX6_remember 1 none D cs)  {g' : CS}  : ∀ (g : CS) (y0 : Nat), okS y0 → fX6_remember_30 P g y0 = some g' → ∀ (H : Heap) (locs : List Loc) (ls : Array Slot), MH D (SW cs ad al P g) A s H locs → lv_has ls 1 [(0, .ref (ad y0))] → W p l e (rM 1) s m args below meth c H locs 0 0 (MQ below (GPost D none (SW cs ad al P g') A) args s 0 0 A) (F0 m 30 ls []) := by
  have hx := C.1
  have hb := C.2.1
  intro g y0 hn_y0 hf H locs ls h hl
  unfold fX6_remember_30 at hf
  refine lv_aload_n hx hb dX6_remember_30 rfl (lv_at hl 0 rfl) ?_
  refine xg_X6 11 hn_y0 C h (by decide) tb_4_19 rfl rfl dX6_remember_31 ?_
  refine lv_aload_n hx hb dX6_remember_34 rfl (lv_at hl 0 rfl) ?_
  refine xg_X6 6 hn_y0 C h (by decide) tb_19_19 rfl rfl dX6_remember_35 ?_
  refine lv_aload_n hx hb dX6_remember_38 rfl (lv_at hl 0 rfl) ?_
  refine xg_X6 5 hn_y0 C h (by decide) tb_19_15 rfl rfl dX6_remember_39 ?_
  refine lv_i2l hx hb dX6_remember_42 rfl ?_
  refine lv_bipush (v := (48 : Int32)) hx hb dX6_remember_43 (by decide) ?_
  refine x_lshl hx hb dX6_remember_45 ?_
  refine lv_aload_n hx hb dX6_remember_46 rfl (lv_at hl 0 rfl) ?_
  refine xg_X6 4 hn_y0 C h (by decide) tb_4_15 rfl rfl dX6_remember_47 ?_
  refine lv_i2l hx hb dX6_remember_50 rfl ?_
  refine lv_bipush (v := (24 : Int32)) hx hb dX6_remember_51 (by decide) ?_
  refine x_lshl hx hb dX6_remember_53 ?_
  refine lv_lor hx hb dX6_remember_54 ?_
  refine lv_aload_n hx hb dX6_remember_55 rfl (lv_at hl 0 rfl) ?_
  refine xg_X6 3 hn_y0 C h (by decide) tb_19_12 rfl rfl dX6_remember_56 ?_
  refine lv_i2l hx hb dX6_remember_59 rfl ?_
  refine lv_lor hx hb dX6_remember_60 ?_
  replace hf := chk_some hf
  obtain ⟨hq, hf⟩ := hf
  replace hf := bnd_ex hf
  obtain ⟨g1, eg1, hf⟩ := hf
  refine ys_past hn_y0 C h hq dX6_remember_61 (fun H locs h => ?_)
  rw [← eg1] at h
  clear hq eg1
  refine lv_aload_n hx hb dX6_remember_62 rfl (lv_at hl 0 rfl) ?_
  refine lv_dup hx hb dX6_remember_63 rfl ?_
  refine xg_X6 6 hn_y0 C h (by decide) tb_19_19 rfl rfl dX6_remember_64 ?_
  refine lv_iconst (v := (1 : Int32)) hx hb dX6_remember_67 (by decide) ?_
  refine lv_iadd hx hb dX6_remember_68 ?_
  replace hf := bnd_ex hf
  obtain ⟨g2, eg2, hf⟩ := hf
  refine xp_X6_6 hn_y0 C h tb_19_19 dX6_remember_69 (fun H locs h => ?_)
  rw [← eg2] at h
  clear eg2
  refine lv_aload_n hx hb dX6_remember_72 rfl (lv_at hl 0 rfl) ?_
  refine lv_dup hx hb dX6_remember_73 rfl ?_
  refine xg_X6 7 hn_y0 C h (by decide) tb_19_20 rfl rfl dX6_remember_74 ?_
  refine lv_iconst (v := (1 : Int32)) hx hb dX6_remember_77 (by decide) ?_
  refine lv_iadd hx hb dX6_remember_78 ?_
  replace hf := bnd_ex hf
  obtain ⟨g3, eg3, hf⟩ := hf
  refine xp_X6_7 hn_y0 C h tb_19_20 dX6_remember_79 (fun H locs h => ?_)
  rw [← eg3] at h
  clear eg3
  have e1 := Option.some.inj hf
  subst e1
  exact m_vret C h dX6_remember_82

set_option maxHeartbeats 4000000 in
set_option maxRecDepth 100000 in
theorem qX6_remember {l : Launch} {D : va_G} {cs : Nat → ClassId} {ad al : Nat → Nat} {P : PL} {g' : CS} {g : CS}  {o : Nat} (hn_o : okS o) (hf : fX6_remember P g o = some g') : GCon l D cs yX6_remember cX6_remember 1 none (rM 1) 0 0 [.ref (ad o)] (SW cs ad al P g) none (SW cs ad al P g') := by
  refine GCon.of (by decide) (Nat.le_of_ble_eq_true rfl) ?_
  intro p e s m args below meth c A ls H locs C h hl
  have hx := C.1
  have hb := C.2.1
  have C : MCx p s m args meth c A RX6 cX6_remember 1 none D cs := C
  have hl : lv_has ls 1 [(0, .ref (ad o))] := hl
  unfold fX6_remember at hf
  refine lv_aload_n hx hb dX6_remember_0 rfl (lv_at hl 0 rfl) ?_
  refine xg_X6 6 hn_o C h (by decide) tb_19_19 rfl rfl dX6_remember_1 ?_
  refine lv_bipush (v := (10 : Int32)) hx hb dX6_remember_4 (by decide) ?_
  refine lv_icmp_lt (tgt := 30) hx hb dX6_remember_6 (by decide) (fun hq => ?_) (fun hq => ?_)
  · replace hf := if_t hq hf
    clear hq
    exact wX6_remember_30 (P := P) C g o hn_o hf H locs ls h (lv_sub hl [0] rfl)
  · replace hf := if_f hq hf
    clear hq
    refine lv_aload_n hx hb dX6_remember_9 rfl (lv_at hl 0 rfl) ?_
    refine xg_X6 11 hn_o C h (by decide) tb_4_19 rfl rfl dX6_remember_10 ?_
    refine lv_iconst (v := (1 : Int32)) hx hb dX6_remember_13 (by decide) ?_
    refine lv_aload_n hx hb dX6_remember_14 rfl (lv_at hl 0 rfl) ?_
    refine xg_X6 11 hn_o C h (by decide) tb_4_19 rfl rfl dX6_remember_15 ?_
    refine lv_iconst (v := (0 : Int32)) hx hb dX6_remember_18 (by decide) ?_
    refine lv_bipush (v := (9 : Int32)) hx hb dX6_remember_19 (by decide) ?_
    replace hf := chk_some hf
    obtain ⟨hq, hf⟩ := hf
    replace hf := bnd_ex hf
    obtain ⟨g4, eg4, hf⟩ := hf
    refine x_cpy hn_o hn_o C h hl.1 tb_34_17 hq (Nat.le_of_ble_eq_true rfl) (by decide) dX6_remember_21 (fun H locs h => ?_)
    rw [← eg4] at h
    clear hq eg4
    refine lv_aload_n hx hb dX6_remember_24 rfl (lv_at hl 0 rfl) ?_
    refine lv_bipush (v := (9 : Int32)) hx hb dX6_remember_25 (by decide) ?_
    replace hf := bnd_ex hf
    obtain ⟨g5, eg5, hf⟩ := hf
    refine xp_X6_6 hn_o C h tb_19_19 dX6_remember_27 (fun H locs h => ?_)
    rw [← eg5] at h
    clear eg5
    exact wX6_remember_30 (P := P) C g5 o hn_o hf H locs ls h (lv_sub hl [0] rfl)

set_option maxHeartbeats 4000000 in
set_option maxRecDepth 100000 in
theorem qX6_takeBack {l : Launch} {D : va_G} {cs : Nat → ClassId} {ad al : Nat → Nat} {P : PL} {g' : CS} {g : CS}  {o : Nat} (hn_o : okS o) (hf : fX6_takeBack P g o = some g') : GCon l D cs yX6_takeBack cX6_takeBack 3 none (rM 0) 0 0 [.ref (ad o)] (SW cs ad al P g) none (SW cs ad al P g') := by
  refine GCon.of (by decide) (Nat.le_of_ble_eq_true rfl) ?_
  intro p e s m args below meth c A ls H locs C h hl
  have hx := C.1
  have hb := C.2.1
  have C : MCx p s m args meth c A RX6 cX6_takeBack 3 none D cs := C
  have hl : lv_has ls 3 [(0, .ref (ad o))] := hl
  unfold fX6_takeBack at hf
  refine lv_aload_n hx hb dX6_takeBack_0 rfl (lv_at hl 0 rfl) ?_
  refine xg_X6 6 hn_o C h (by decide) tb_19_19 rfl rfl dX6_takeBack_1 ?_
  refine lv_iconst (v := (1 : Int32)) hx hb dX6_takeBack_4 (by decide) ?_
  refine lv_icmp_ge (tgt := 9) hx hb dX6_takeBack_5 (by decide) (fun hq => ?_) (fun hq => ?_)
  · replace hf := if_t hq hf
    clear hq
    refine lv_aload_n hx hb dX6_takeBack_9 rfl (lv_at hl 0 rfl) ?_
    refine lv_dup hx hb dX6_takeBack_10 rfl ?_
    refine xg_X6 6 hn_o C h (by decide) tb_19_19 rfl rfl dX6_takeBack_11 ?_
    refine lv_iconst (v := (1 : Int32)) hx hb dX6_takeBack_14 (by decide) ?_
    refine lv_isub hx hb dX6_takeBack_15 ?_
    replace hf := bnd_ex hf
    obtain ⟨g1, eg1, hf⟩ := hf
    refine xp_X6_6 hn_o C h tb_19_19 dX6_takeBack_16 (fun H locs h => ?_)
    rw [← eg1] at h
    clear eg1
    refine lv_aload_n hx hb dX6_takeBack_19 rfl (lv_at hl 0 rfl) ?_
    refine xg_X6 11 hn_o C h (by decide) tb_4_19 rfl rfl dX6_takeBack_20 ?_
    refine lv_aload_n hx hb dX6_takeBack_23 rfl (lv_at hl 0 rfl) ?_
    refine xg_X6 6 hn_o C h (by decide) tb_19_19 rfl rfl dX6_takeBack_24 ?_
    replace hf := chk_some hf
    obtain ⟨hq, hf⟩ := hf
    refine yl_past hn_o C h hq dX6_takeBack_27 ?_
    clear hq
    refine lv_topl (fun x2 ex2 => ?_)
    replace hf := bnd_at ex2 hf
    clear ex2
    refine lv_lstore_n (lv' := [(1, .long x2), (0, .ref (ad o))]) hx hb dX6_takeBack_28 rfl hl (by decide) rfl (fun ls hl => ?_)
    refine lv_aload_n hx hb dX6_takeBack_29 rfl (lv_at hl 1 rfl) ?_
    refine lv_lload_n hx hb dX6_takeBack_30 rfl (lv_at hl 0 rfl) ?_
    refine lv_l2i hx hb dX6_takeBack_31 rfl ?_
    refine lv_ldc hx hb C.2.2.2.1 (C.2.2.2.2.1 _ tb_38_9) dX6_takeBack_32 ?_
    refine lv_iand hx hb dX6_takeBack_34 ?_
    replace hf := bnd_ex hf
    obtain ⟨g3, eg3, hf⟩ := hf
    refine xp_X6_3 hn_o C h tb_19_12 dX6_takeBack_35 (fun H locs h => ?_)
    rw [← eg3] at h
    clear eg3
    refine lv_aload_n hx hb dX6_takeBack_38 rfl (lv_at hl 1 rfl) ?_
    refine lv_lload_n hx hb dX6_takeBack_39 rfl (lv_at hl 0 rfl) ?_
    refine lv_bipush (v := (24 : Int32)) hx hb dX6_takeBack_40 (by decide) ?_
    refine x_lushr hx hb dX6_takeBack_42 ?_
    refine lv_l2i hx hb dX6_takeBack_43 rfl ?_
    refine lv_ldc hx hb C.2.2.2.1 (C.2.2.2.2.1 _ tb_38_9) dX6_takeBack_44 ?_
    refine lv_iand hx hb dX6_takeBack_46 ?_
    replace hf := bnd_ex hf
    obtain ⟨g4, eg4, hf⟩ := hf
    refine xp_X6_4 hn_o C h tb_4_15 dX6_takeBack_47 (fun H locs h => ?_)
    rw [← eg4] at h
    clear eg4
    refine lv_aload_n hx hb dX6_takeBack_50 rfl (lv_at hl 1 rfl) ?_
    refine lv_lload_n hx hb dX6_takeBack_51 rfl (lv_at hl 0 rfl) ?_
    refine lv_bipush (v := (48 : Int32)) hx hb dX6_takeBack_52 (by decide) ?_
    refine x_lushr hx hb dX6_takeBack_54 ?_
    refine lv_l2i hx hb dX6_takeBack_55 rfl ?_
    replace hf := bnd_ex hf
    obtain ⟨g5, eg5, hf⟩ := hf
    refine xp_X6_5 hn_o C h tb_19_15 dX6_takeBack_56 (fun H locs h => ?_)
    rw [← eg5] at h
    clear eg5
    refine lv_aload_n hx hb dX6_takeBack_59 rfl (lv_at hl 1 rfl) ?_
    refine lv_dup hx hb dX6_takeBack_60 rfl ?_
    refine xg_X6 7 hn_o C h (by decide) tb_19_20 rfl rfl dX6_takeBack_61 ?_
    refine lv_iconst (v := (1 : Int32)) hx hb dX6_takeBack_64 (by decide) ?_
    refine lv_iadd hx hb dX6_takeBack_65 ?_
    replace hf := bnd_ex hf
    obtain ⟨g6, eg6, hf⟩ := hf
    refine xp_X6_7 hn_o C h tb_19_20 dX6_takeBack_66 (fun H locs h => ?_)
    rw [← eg6] at h
    clear eg6
    have e1 := Option.some.inj hf
    subst e1
    exact m_vret C h dX6_takeBack_69
  · replace hf := if_f hq hf
    clear hq
    have e1 := Option.some.inj hf
    subst e1
    exact m_vret C h dX6_takeBack_8

set_option maxHeartbeats 4000000 in
set_option maxRecDepth 100000 in
theorem qX6_turnBy {l : Launch} {D : va_G} {cs : Nat → ClassId} {ad al : Nat → Nat} {P : PL} {r : Int32} {g' : CS} {g : CS}  {o : Nat} {a0 : Int32} {a1 : Int32} (hn_o : okS o) (hf : fX6_turnBy P g o a0 a1 = some (r, g')) : GCon l D cs yX6_turnBy cX6_turnBy 3 (some .int) (rM 4) 0 0 [.ref (ad o), .int a0, .int a1] (SW cs ad al P g) (some (.int r)) (SW cs ad al P g') := by
  refine GCon.of (by decide) (Nat.le_of_ble_eq_true rfl) ?_
  intro p e s m args below meth c A ls H locs C h hl
  have hx := C.1
  have hb := C.2.1
  have C : MCx p s m args meth c A RX6 cX6_turnBy 3 (some .int) D cs := C
  have hl : lv_has ls 3 [(0, .ref (ad o)), (1, .int a0), (2, .int a1)] := hl
  unfold fX6_turnBy at hf
  refine lv_aload_n hx hb dX6_turnBy_0 rfl (lv_at hl 0 rfl) ?_
  refine lv_iload_n hx hb dX6_turnBy_1 rfl (lv_at hl 1 rfl) ?_
  replace hf := bndc_some hf
  obtain ⟨x1, g2, hc, hf⟩ := hf
  refine m_callVi [.int a0] C h cv_X6_126 (qX6_has hn_o hc) rfl ⟨rfl, rfl⟩ ⟨Nat.le_of_ble_eq_true rfl, Nat.le_of_ble_eq_true rfl⟩ (rv_X6 hn_o C h) hl.1 rfl (Nat.le_of_ble_eq_true rfl) ⟨Nat.le_refl _, Nat.le_refl _⟩ dX6_turnBy_2 (fun H locs h => ?_)
  clear hc
  refine lv_if_eq (tgt := 21) hx hb dX6_turnBy_5 (by decide) (fun hq => ?_) (fun hq => ?_)
  · replace hf := if_t hq hf
    clear hq
    refine lv_iconst (v := (1 : Int32)) hx hb dX6_turnBy_21 (by decide) ?_
    obtain ⟨e1, e2⟩ := pr_inj hf
    subst e1 e2
    exact m_iret C h dX6_turnBy_22
  · replace hf := if_f hq hf
    clear hq
    refine lv_iload_n hx hb dX6_turnBy_8 rfl (lv_at hl 2 rfl) ?_
    refine lv_iconst (v := (1 : Int32)) hx hb dX6_turnBy_9 (by decide) ?_
    refine lv_icmp_lt (tgt := 21) hx hb dX6_turnBy_10 (by decide) (fun hq => ?_) (fun hq => ?_)
    · replace hf := if_t hq hf
      clear hq
      refine lv_iconst (v := (1 : Int32)) hx hb dX6_turnBy_21 (by decide) ?_
      obtain ⟨e1, e2⟩ := pr_inj hf
      subst e1 e2
      exact m_iret C h dX6_turnBy_22
    · replace hf := if_f hq hf
      clear hq
      refine lv_iload_n hx hb dX6_turnBy_13 rfl (lv_at hl 2 rfl) ?_
      refine lv_aload_n hx hb dX6_turnBy_14 rfl (lv_at hl 0 rfl) ?_
      refine xg_X6 1 hn_o C h (by decide) tb_4_14 rfl rfl dX6_turnBy_15 ?_
      refine lv_icmp_lt (tgt := 23) hx hb dX6_turnBy_18 (by decide) (fun hq => ?_) (fun hq => ?_)
      · replace hf := if_t hq hf
        clear hq
        refine lv_aload_n hx hb dX6_turnBy_23 rfl (lv_at hl 0 rfl) ?_
        refine lv_iload_n hx hb dX6_turnBy_24 rfl (lv_at hl 1 rfl) ?_
        replace hf := bndc_some hf
        obtain ⟨x3, g4, hc, hf⟩ := hf
        refine m_callVi [.int a0] C h cv_X6_104 (qX6_isStuck hn_o hc) rfl ⟨rfl, rfl⟩ ⟨Nat.le_of_ble_eq_true rfl, Nat.le_of_ble_eq_true rfl⟩ (rv_X6 hn_o C h) hl.1 rfl (Nat.le_of_ble_eq_true rfl) ⟨Nat.le_refl _, Nat.le_refl _⟩ dX6_turnBy_25 (fun H locs h => ?_)
        clear hc
        refine lv_if_eq (tgt := 33) hx hb dX6_turnBy_28 (by decide) (fun hq => ?_) (fun hq => ?_)
        · replace hf := if_t hq hf
          clear hq
          refine lv_aload_n hx hb dX6_turnBy_33 rfl (lv_at hl 0 rfl) ?_
          replace hf := bndv_some hf
          obtain ⟨g5, hc, hf⟩ := hf
          refine m_callVv [] C h cv_X6_129 (qX6_remember hn_o hc) rfl ⟨rfl, rfl⟩ ⟨Nat.le_of_ble_eq_true rfl, Nat.le_of_ble_eq_true rfl⟩ (rv_X6 hn_o C h) hl.1 rfl (Nat.le_of_ble_eq_true rfl) ⟨Nat.le_refl _, Nat.le_refl _⟩ dX6_turnBy_34 (fun H locs h => ?_)
          clear hc
          refine lv_aload_n hx hb dX6_turnBy_37 rfl (lv_at hl 0 rfl) ?_
          refine lv_aload_n hx hb dX6_turnBy_38 rfl (lv_at hl 0 rfl) ?_
          refine xg_X6 3 hn_o C h (by decide) tb_19_12 rfl rfl dX6_turnBy_39 ?_
          refine lv_iload_n hx hb dX6_turnBy_42 rfl (lv_at hl 2 rfl) ?_
          refine lv_aload_n hx hb dX6_turnBy_43 rfl (lv_at hl 0 rfl) ?_
          refine lv_iload_n hx hb dX6_turnBy_44 rfl (lv_at hl 1 rfl) ?_
          replace hf := bndc_some hf
          obtain ⟨x6, g7, hc, hf⟩ := hf
          refine m_callVi [.int a0] C h cv_X6_132 (qX6_turningWith hn_o hc) rfl ⟨rfl, rfl⟩ ⟨Nat.le_of_ble_eq_true rfl, Nat.le_of_ble_eq_true rfl⟩ (rv_X6 hn_o C h) hl.1 rfl (Nat.le_of_ble_eq_true rfl) ⟨Nat.le_refl _, Nat.le_refl _⟩ dX6_turnBy_45 (fun H locs h => ?_)
          clear hc
          replace hf := bndv_some hf
          obtain ⟨x8, hc, hf⟩ := hf
          refine m_callSi [.int x6] C h cs_X6_19 (qX1_ofBits hc) rfl ⟨rfl, rfl⟩ ⟨Nat.le_of_ble_eq_true rfl, Nat.le_of_ble_eq_true rfl⟩ hl.1 rfl (Nat.le_of_ble_eq_true rfl) ⟨Nat.le_refl _, Nat.le_refl _⟩ dX6_turnBy_48 (fun H locs h => ?_)
          clear hc
          refine lv_imul hx hb dX6_turnBy_51 ?_
          refine lv_aload_n hx hb dX6_turnBy_52 rfl (lv_at hl 0 rfl) ?_
          refine xg_X6 1 hn_o C h (by decide) tb_4_14 rfl rfl dX6_turnBy_53 ?_
          replace hf := bndv_some hf
          obtain ⟨x9, hc, hf⟩ := hf
          refine m_callSi [.int (g5.1 o 3), .int (a1 * x8), .int (g7.1 o 1)] C h cs_X6_122 (qX1_plus hc) rfl ⟨rfl, rfl⟩ ⟨Nat.le_of_ble_eq_true rfl, Nat.le_of_ble_eq_true rfl⟩ hl.1 rfl (Nat.le_of_ble_eq_true rfl) ⟨Nat.le_refl _, Nat.le_refl _⟩ dX6_turnBy_56 (fun H locs h => ?_)
          clear hc
          replace hf := bnd_ex hf
          obtain ⟨g10, eg10, hf⟩ := hf
          refine xp_X6_3 hn_o C h tb_19_12 dX6_turnBy_59 (fun H locs h => ?_)
          rw [← eg10] at h
          clear eg10
          refine lv_iconst (v := (0 : Int32)) hx hb dX6_turnBy_62 (by decide) ?_
          obtain ⟨e1, e2⟩ := pr_inj hf
          subst e1 e2
          exact m_iret C h dX6_turnBy_63
        · replace hf := if_f hq hf
          clear hq
          refine lv_iconst (v := (2 : Int32)) hx hb dX6_turnBy_31 (by decide) ?_
          obtain ⟨e1, e2⟩ := pr_inj hf
          subst e1 e2
          exact m_iret C h dX6_turnBy_32
      · replace hf := if_f hq hf
        clear hq
        refine lv_iconst (v := (1 : Int32)) hx hb dX6_turnBy_21 (by decide) ?_
        obtain ⟨e1, e2⟩ := pr_inj hf
        subst e1 e2
        exact m_iret C h dX6_turnBy_22

set_option maxHeartbeats 4000000 in
set_option maxRecDepth 100000 in
theorem qX6_giveWeight {l : Launch} {D : va_G} {cs : Nat → ClassId} {ad al : Nat → Nat} {P : PL} {r : Int32} {g' : CS} {g : CS}  {o : Nat} {a0 : Int32} {a1 : Int32} (hn_o : okS o) (hf : fX6_giveWeight P g o a0 a1 = some (r, g')) : GCon l D cs yX6_giveWeight cX6_giveWeight 3 (some .int) (rM 2) 0 0 [.ref (ad o), .int a0, .int a1] (SW cs ad al P g) (some (.int r)) (SW cs ad al P g') := by
  refine GCon.of (by decide) (Nat.le_of_ble_eq_true rfl) ?_
  intro p e s m args below meth c A ls H locs C h hl
  have hx := C.1
  have hb := C.2.1
  have C : MCx p s m args meth c A RX6 cX6_giveWeight 3 (some .int) D cs := C
  have hl : lv_has ls 3 [(0, .ref (ad o)), (1, .int a0), (2, .int a1)] := hl
  unfold fX6_giveWeight at hf
  refine lv_aload_n hx hb dX6_giveWeight_0 rfl (lv_at hl 0 rfl) ?_
  refine lv_iload_n hx hb dX6_giveWeight_1 rfl (lv_at hl 1 rfl) ?_
  replace hf := bndc_some hf
  obtain ⟨x1, g2, hc, hf⟩ := hf
  refine m_callVi [.int a0] C h cv_X6_126 (qX6_has hn_o hc) rfl ⟨rfl, rfl⟩ ⟨Nat.le_of_ble_eq_true rfl, Nat.le_of_ble_eq_true rfl⟩ (rv_X6 hn_o C h) hl.1 rfl (Nat.le_of_ble_eq_true rfl) ⟨Nat.le_refl _, Nat.le_refl _⟩ dX6_giveWeight_2 (fun H locs h => ?_)
  clear hc
  refine lv_if_eq (tgt := 19) hx hb dX6_giveWeight_5 (by decide) (fun hq => ?_) (fun hq => ?_)
  · replace hf := if_t hq hf
    clear hq
    refine lv_iconst (v := (1 : Int32)) hx hb dX6_giveWeight_19 (by decide) ?_
    obtain ⟨e1, e2⟩ := pr_inj hf
    subst e1 e2
    exact m_iret C h dX6_giveWeight_20
  · replace hf := if_f hq hf
    clear hq
    refine lv_iload_n hx hb dX6_giveWeight_8 rfl (lv_at hl 2 rfl) ?_
    refine lv_iconst (v := (1 : Int32)) hx hb dX6_giveWeight_9 (by decide) ?_
    refine lv_icmp_lt (tgt := 19) hx hb dX6_giveWeight_10 (by decide) (fun hq => ?_) (fun hq => ?_)
    · replace hf := if_t hq hf
      clear hq
      refine lv_iconst (v := (1 : Int32)) hx hb dX6_giveWeight_19 (by decide) ?_
      obtain ⟨e1, e2⟩ := pr_inj hf
      subst e1 e2
      exact m_iret C h dX6_giveWeight_20
    · replace hf := if_f hq hf
      clear hq
      refine lv_iload_n hx hb dX6_giveWeight_13 rfl (lv_at hl 2 rfl) ?_
      refine lv_bipush (v := (9 : Int32)) hx hb dX6_giveWeight_14 (by decide) ?_
      refine lv_icmp_le (tgt := 21) hx hb dX6_giveWeight_16 (by decide) (fun hq => ?_) (fun hq => ?_)
      · replace hf := if_t hq hf
        clear hq
        refine lv_aload_n hx hb dX6_giveWeight_21 rfl (lv_at hl 0 rfl) ?_
        replace hf := bndv_some hf
        obtain ⟨g3, hc, hf⟩ := hf
        refine m_callVv [] C h cv_X6_129 (qX6_remember hn_o hc) rfl ⟨rfl, rfl⟩ ⟨Nat.le_of_ble_eq_true rfl, Nat.le_of_ble_eq_true rfl⟩ (rv_X6 hn_o C h) hl.1 rfl (Nat.le_of_ble_eq_true rfl) ⟨Nat.le_refl _, Nat.le_refl _⟩ dX6_giveWeight_22 (fun H locs h => ?_)
        clear hc
        refine lv_aload_n hx hb dX6_giveWeight_25 rfl (lv_at hl 0 rfl) ?_
        refine lv_aload_n hx hb dX6_giveWeight_26 rfl (lv_at hl 0 rfl) ?_
        refine xg_X6 4 hn_o C h (by decide) tb_4_15 rfl rfl dX6_giveWeight_27 ?_
        refine lv_iload_n hx hb dX6_giveWeight_30 rfl (lv_at hl 1 rfl) ?_
        refine lv_iload_n hx hb dX6_giveWeight_31 rfl (lv_at hl 2 rfl) ?_
        replace hf := bndv_some hf
        obtain ⟨x4, hc, hf⟩ := hf
        refine m_callSi [.int (g3.1 o 4), .int a0, .int a1] C h cs_X6_135 (qX1_with hc) rfl ⟨rfl, rfl⟩ ⟨Nat.le_of_ble_eq_true rfl, Nat.le_of_ble_eq_true rfl⟩ hl.1 rfl (Nat.le_of_ble_eq_true rfl) ⟨Nat.le_refl _, Nat.le_refl _⟩ dX6_giveWeight_32 (fun H locs h => ?_)
        clear hc
        replace hf := bnd_ex hf
        obtain ⟨g5, eg5, hf⟩ := hf
        refine xp_X6_4 hn_o C h tb_4_15 dX6_giveWeight_35 (fun H locs h => ?_)
        rw [← eg5] at h
        clear eg5
        refine lv_iconst (v := (0 : Int32)) hx hb dX6_giveWeight_38 (by decide) ?_
        obtain ⟨e1, e2⟩ := pr_inj hf
        subst e1 e2
        exact m_iret C h dX6_giveWeight_39
      · replace hf := if_f hq hf
        clear hq
        refine lv_iconst (v := (1 : Int32)) hx hb dX6_giveWeight_19 (by decide) ?_
        obtain ⟨e1, e2⟩ := pr_inj hf
        subst e1 e2
        exact m_iret C h dX6_giveWeight_20

set_option maxHeartbeats 4000000 in
set_option maxRecDepth 100000 in
theorem qX6_toggleStuck {l : Launch} {D : va_G} {cs : Nat → ClassId} {ad al : Nat → Nat} {P : PL} {r : Int32} {g' : CS} {g : CS}  {o : Nat} {a0 : Int32} (hn_o : okS o) (hf : fX6_toggleStuck P g o a0 = some (r, g')) : GCon l D cs yX6_toggleStuck cX6_toggleStuck 2 (some .int) (rM 2) 0 0 [.ref (ad o), .int a0] (SW cs ad al P g) (some (.int r)) (SW cs ad al P g') := by
  refine GCon.of (by decide) (Nat.le_of_ble_eq_true rfl) ?_
  intro p e s m args below meth c A ls H locs C h hl
  have hx := C.1
  have hb := C.2.1
  have C : MCx p s m args meth c A RX6 cX6_toggleStuck 2 (some .int) D cs := C
  have hl : lv_has ls 2 [(0, .ref (ad o)), (1, .int a0)] := hl
  unfold fX6_toggleStuck at hf
  refine lv_aload_n hx hb dX6_toggleStuck_0 rfl (lv_at hl 0 rfl) ?_
  refine lv_iload_n hx hb dX6_toggleStuck_1 rfl (lv_at hl 1 rfl) ?_
  replace hf := bndc_some hf
  obtain ⟨x1, g2, hc, hf⟩ := hf
  refine m_callVi [.int a0] C h cv_X6_126 (qX6_has hn_o hc) rfl ⟨rfl, rfl⟩ ⟨Nat.le_of_ble_eq_true rfl, Nat.le_of_ble_eq_true rfl⟩ (rv_X6 hn_o C h) hl.1 rfl (Nat.le_of_ble_eq_true rfl) ⟨Nat.le_refl _, Nat.le_refl _⟩ dX6_toggleStuck_2 (fun H locs h => ?_)
  clear hc
  refine lv_if_ne (tgt := 10) hx hb dX6_toggleStuck_5 (by decide) (fun hq => ?_) (fun hq => ?_)
  · replace hf := if_tn hq hf
    clear hq
    refine lv_aload_n hx hb dX6_toggleStuck_10 rfl (lv_at hl 0 rfl) ?_
    replace hf := bndv_some hf
    obtain ⟨g3, hc, hf⟩ := hf
    refine m_callVv [] C h cv_X6_129 (qX6_remember hn_o hc) rfl ⟨rfl, rfl⟩ ⟨Nat.le_of_ble_eq_true rfl, Nat.le_of_ble_eq_true rfl⟩ (rv_X6 hn_o C h) hl.1 rfl (Nat.le_of_ble_eq_true rfl) ⟨Nat.le_refl _, Nat.le_refl _⟩ dX6_toggleStuck_11 (fun H locs h => ?_)
    clear hc
    refine lv_aload_n hx hb dX6_toggleStuck_14 rfl (lv_at hl 0 rfl) ?_
    refine lv_dup hx hb dX6_toggleStuck_15 rfl ?_
    refine xg_X6 5 hn_o C h (by decide) tb_19_15 rfl rfl dX6_toggleStuck_16 ?_
    refine lv_iconst (v := (1 : Int32)) hx hb dX6_toggleStuck_19 (by decide) ?_
    refine lv_iload_n hx hb dX6_toggleStuck_20 rfl (lv_at hl 1 rfl) ?_
    refine x_ishl hx hb dX6_toggleStuck_21 ?_
    refine lv_ixor hx hb dX6_toggleStuck_22 ?_
    replace hf := bnd_ex hf
    obtain ⟨g4, eg4, hf⟩ := hf
    refine xp_X6_5 hn_o C h tb_19_15 dX6_toggleStuck_23 (fun H locs h => ?_)
    rw [← eg4] at h
    clear eg4
    refine lv_iconst (v := (0 : Int32)) hx hb dX6_toggleStuck_26 (by decide) ?_
    obtain ⟨e1, e2⟩ := pr_inj hf
    subst e1 e2
    exact m_iret C h dX6_toggleStuck_27
  · replace hf := if_t hq hf
    clear hq
    refine lv_iconst (v := (1 : Int32)) hx hb dX6_toggleStuck_8 (by decide) ?_
    obtain ⟨e1, e2⟩ := pr_inj hf
    subst e1 e2
    exact m_iret C h dX6_toggleStuck_9

set_option maxHeartbeats 4000000 in
set_option maxRecDepth 100000 in
theorem qX6_enact {l : Launch} {D : va_G} {cs : Nat → ClassId} {ad al : Nat → Nat} {P : PL} {r : Int32} {g' : CS} {g : CS}  {o : Nat} {a0 : Int64} (hn_o : okS o) (hf : fX6_enact P g o a0 = some (r, g')) : GCon l D cs yX6_enact cX6_enact 4 (some .int) (rM 5) 0 0 [.ref (ad o), .long a0] (SW cs ad al P g) (some (.int r)) (SW cs ad al P g') := by
  refine GCon.of (by decide) (Nat.le_of_ble_eq_true rfl) ?_
  intro p e s m args below meth c A ls H locs C h hl
  have hx := C.1
  have hb := C.2.1
  have C : MCx p s m args meth c A RX6 cX6_enact 4 (some .int) D cs := C
  have hl : lv_has ls 4 [(0, .ref (ad o)), (1, .long a0)] := hl
  unfold fX6_enact at hf
  refine lv_lload_n hx hb dX6_enact_0 rfl (lv_at hl 1 rfl) ?_
  refine lv_ldc2 hx hb C.2.2.2.1 (C.2.2.2.2.1 _ tb_39_19) dX6_enact_1 ?_
  refine W.lcmp hx hb dX6_enact_4 ?_
  refine lv_if_lt (tgt := 16) hx hb dX6_enact_5 (by decide) (fun hq => ?_) (fun hq => ?_)
  · replace hf := if_t hq hf
    clear hq
    refine lv_iconst (v := (1 : Int32)) hx hb dX6_enact_16 (by decide) ?_
    obtain ⟨e1, e2⟩ := pr_inj hf
    subst e1 e2
    exact m_iret C h dX6_enact_17
  · replace hf := if_f hq hf
    clear hq
    refine lv_lload_n hx hb dX6_enact_8 rfl (lv_at hl 1 rfl) ?_
    refine lv_ldc2 hx hb C.2.2.2.1 (C.2.2.2.2.1 _ tb_39_20) dX6_enact_9 ?_
    refine W.lcmp hx hb dX6_enact_12 ?_
    refine lv_if_le (tgt := 18) hx hb dX6_enact_13 (by decide) (fun hq => ?_) (fun hq => ?_)
    · replace hf := if_t hq hf
      clear hq
      refine lv_lload_n hx hb dX6_enact_18 rfl (lv_at hl 1 rfl) ?_
      refine lv_l2i hx hb dX6_enact_19 rfl ?_
      refine lv_topi (fun x1 ex1 => ?_)
      replace hf := bnd_at ex1 hf
      clear ex1
      refine lv_istore_n (lv' := [(3, .int x1), (0, .ref (ad o)), (1, .long a0)]) hx hb dX6_enact_20 rfl hl (by decide) rfl (fun ls hl => ?_)
      refine lv_iload_n hx hb dX6_enact_21 rfl (lv_at hl 0 rfl) ?_
      refine lv_iconst (v := (-1 : Int32)) hx hb dX6_enact_22 (by decide) ?_
      refine lv_icmp_ne (tgt := 36) hx hb dX6_enact_23 (by decide) (fun hq => ?_) (fun hq => ?_)
      · replace hf := if_tn hq hf
        clear hq
        refine lv_iload_n hx hb dX6_enact_36 rfl (lv_at hl 0 rfl) ?_
        refine lv_bipush (v := (100 : Int32)) hx hb dX6_enact_37 (by decide) ?_
        refine lv_icmp_ge (tgt := 55) hx hb dX6_enact_39 (by decide) (fun hq => ?_) (fun hq => ?_)
        · replace hf := if_t hq hf
          clear hq
          refine lv_iload_n hx hb dX6_enact_55 rfl (lv_at hl 0 rfl) ?_
          refine lv_sipush (v := (200 : Int32)) hx hb dX6_enact_56 (by decide) ?_
          refine lv_icmp_ge (tgt := 80) hx hb dX6_enact_59 (by decide) (fun hq => ?_) (fun hq => ?_)
          · replace hf := if_t hq hf
            clear hq
            refine lv_aload_n hx hb dX6_enact_80 rfl (lv_at hl 1 rfl) ?_
            refine lv_iload_n hx hb dX6_enact_81 rfl (lv_at hl 0 rfl) ?_
            refine lv_sipush (v := (200 : Int32)) hx hb dX6_enact_82 (by decide) ?_
            refine lv_isub hx hb dX6_enact_85 ?_
            replace hf := bndc_some hf
            obtain ⟨x2, g3, hc, hf⟩ := hf
            refine m_callVi [.int (x1 - (200 : Int32))] C h cv_X6_151 (qX6_toggleStuck hn_o hc) rfl ⟨rfl, rfl⟩ ⟨Nat.le_of_ble_eq_true rfl, Nat.le_of_ble_eq_true rfl⟩ (rv_X6 hn_o C h) hl.1 rfl (Nat.le_of_ble_eq_true rfl) ⟨Nat.le_refl _, Nat.le_refl _⟩ dX6_enact_86 (fun H locs h => ?_)
            clear hc
            obtain ⟨e1, e2⟩ := pr_inj hf
            subst e1 e2
            exact m_iret C h dX6_enact_89
          · replace hf := if_f hq hf
            clear hq
            refine lv_aload_n hx hb dX6_enact_62 rfl (lv_at hl 1 rfl) ?_
            refine lv_iload_n hx hb dX6_enact_63 rfl (lv_at hl 0 rfl) ?_
            refine lv_bipush (v := (100 : Int32)) hx hb dX6_enact_64 (by decide) ?_
            refine lv_isub hx hb dX6_enact_66 ?_
            refine lv_bipush (v := (10 : Int32)) hx hb dX6_enact_67 (by decide) ?_
            replace hf := chk_some hf
            obtain ⟨hq, hf⟩ := hf
            refine lv_idiv hx hb dX6_enact_69 (nz_ne hq) ?_
            clear hq
            refine lv_iload_n hx hb dX6_enact_70 rfl (lv_at hl 0 rfl) ?_
            refine lv_bipush (v := (10 : Int32)) hx hb dX6_enact_71 (by decide) ?_
            replace hf := chk_some hf
            obtain ⟨hq, hf⟩ := hf
            refine x_irem hx hb dX6_enact_73 (nz_ne hq) ?_
            clear hq
            replace hf := bndc_some hf
            obtain ⟨x4, g5, hc, hf⟩ := hf
            refine m_callVi [.int ((x1 - (100 : Int32)) / (10 : Int32)), .int (jrem x1 (10 : Int32))] C h cv_X6_148 (qX6_giveWeight hn_o hc) rfl ⟨rfl, rfl⟩ ⟨Nat.le_of_ble_eq_true rfl, Nat.le_of_ble_eq_true rfl⟩ (rv_X6 hn_o C h) hl.1 rfl (Nat.le_of_ble_eq_true rfl) ⟨Nat.le_refl _, Nat.le_refl _⟩ dX6_enact_74 (fun H locs h => ?_)
            clear hc
            refine lv_goto (tgt := 89) hx hb dX6_enact_77 (by decide) ?_
            obtain ⟨e1, e2⟩ := pr_inj hf
            subst e1 e2
            exact m_iret C h dX6_enact_89
        · replace hf := if_f hq hf
          clear hq
          refine lv_aload_n hx hb dX6_enact_42 rfl (lv_at hl 1 rfl) ?_
          refine lv_iload_n hx hb dX6_enact_43 rfl (lv_at hl 0 rfl) ?_
          refine lv_bipush (v := (10 : Int32)) hx hb dX6_enact_44 (by decide) ?_
          replace hf := chk_some hf
          obtain ⟨hq, hf⟩ := hf
          refine lv_idiv hx hb dX6_enact_46 (nz_ne hq) ?_
          clear hq
          refine lv_iload_n hx hb dX6_enact_47 rfl (lv_at hl 0 rfl) ?_
          refine lv_bipush (v := (10 : Int32)) hx hb dX6_enact_48 (by decide) ?_
          replace hf := chk_some hf
          obtain ⟨hq, hf⟩ := hf
          refine x_irem hx hb dX6_enact_50 (nz_ne hq) ?_
          clear hq
          replace hf := bndc_some hf
          obtain ⟨x6, g7, hc, hf⟩ := hf
          refine m_callVi [.int (x1 / (10 : Int32)), .int (jrem x1 (10 : Int32))] C h cv_X6_145 (qX6_turnBy hn_o hc) rfl ⟨rfl, rfl⟩ ⟨Nat.le_of_ble_eq_true rfl, Nat.le_of_ble_eq_true rfl⟩ (rv_X6 hn_o C h) hl.1 rfl (Nat.le_of_ble_eq_true rfl) ⟨Nat.le_refl _, Nat.le_refl _⟩ dX6_enact_51 (fun H locs h => ?_)
          clear hc
          obtain ⟨e1, e2⟩ := pr_inj hf
          subst e1 e2
          exact m_iret C h dX6_enact_54
      · replace hf := if_t hq hf
        clear hq
        refine lv_aload_n hx hb dX6_enact_26 rfl (lv_at hl 1 rfl) ?_
        replace hf := bndv_some hf
        obtain ⟨g8, hc, hf⟩ := hf
        refine m_callVv [] C h cv_X6_129 (qX6_remember hn_o hc) rfl ⟨rfl, rfl⟩ ⟨Nat.le_of_ble_eq_true rfl, Nat.le_of_ble_eq_true rfl⟩ (rv_X6 hn_o C h) hl.1 rfl (Nat.le_of_ble_eq_true rfl) ⟨Nat.le_refl _, Nat.le_refl _⟩ dX6_enact_27 (fun H locs h => ?_)
        clear hc
        refine lv_aload_n hx hb dX6_enact_30 rfl (lv_at hl 1 rfl) ?_
        replace hf := bndv_some hf
        obtain ⟨g9, hc, hf⟩ := hf
        refine m_callVv [] C h cv_X6_142 (qX6_passMinute hn_o hc) rfl ⟨rfl, rfl⟩ ⟨Nat.le_of_ble_eq_true rfl, Nat.le_of_ble_eq_true rfl⟩ (rv_X6 hn_o C h) hl.1 rfl (Nat.le_of_ble_eq_true rfl) ⟨Nat.le_refl _, Nat.le_refl _⟩ dX6_enact_31 (fun H locs h => ?_)
        clear hc
        refine lv_iconst (v := (0 : Int32)) hx hb dX6_enact_34 (by decide) ?_
        obtain ⟨e1, e2⟩ := pr_inj hf
        subst e1 e2
        exact m_iret C h dX6_enact_35
    · replace hf := if_f hq hf
      clear hq
      refine lv_iconst (v := (1 : Int32)) hx hb dX6_enact_16 (by decide) ?_
      obtain ⟨e1, e2⟩ := pr_inj hf
      subst e1 e2
      exact m_iret C h dX6_enact_17

set_option maxHeartbeats 4000000 in
set_option maxRecDepth 100000 in
theorem qX7_manyTurns {l : Launch} {D : va_G} {cs : Nat → ClassId} {ad al : Nat → Nat} {P : PL} {r : Int32} {g' : CS} {g : CS}  (hf : fX7_manyTurns P g = some (r, g')) : GCon l D cs yX7_manyTurns cX7_manyTurns 1 (some .int) (rM 5) 0 0 [.ref (ad 17)] (SW cs ad al P g) (some (.int r)) (SW cs ad al P g') := by
  refine GCon.of (by decide) (Nat.le_of_ble_eq_true rfl) ?_
  intro p e s m args below meth c A ls H locs C h hl
  have hx := C.1
  have hb := C.2.1
  have C : MCx p s m args meth c A RX7 cX7_manyTurns 1 (some .int) D cs := C
  have hl : lv_has ls 1 [(0, .ref (ad 17))] := hl
  unfold fX7_manyTurns at hf
  refine lv_aload_n hx hb dX7_manyTurns_0 rfl (lv_at hl 0 rfl) ?_
  refine xg_X7 1 C h (by decide) tb_5_21 rfl rfl dX7_manyTurns_1 ?_
  refine lv_aload_n hx hb dX7_manyTurns_4 rfl (lv_at hl 0 rfl) ?_
  refine xg_X7 0 C h (by decide) tb_5_20 rfl rfl dX7_manyTurns_5 ?_
  refine xg_X6 5 (by simp [okS, okT, ok6]) C h (by decide) tb_44_23 rfl rfl dX7_manyTurns_8 ?_
  replace hf := bndv_some hf
  obtain ⟨g1, hc, hf⟩ := hf
  refine m_callVv [.int (g.1 30 5)] C h cv_X7_47 (qX10_begin hc) rfl ⟨rfl, rfl⟩ ⟨Nat.le_of_ble_eq_true rfl, Nat.le_of_ble_eq_true rfl⟩ (rv_X10 C h) hl.1 rfl (Nat.le_of_ble_eq_true rfl) ⟨Nat.le_refl _, Nat.le_refl _⟩ dX7_manyTurns_11 (fun H locs h => ?_)
  clear hc
  refine lv_aload_n hx hb dX7_manyTurns_14 rfl (lv_at hl 0 rfl) ?_
  refine xg_X7 1 C h (by decide) tb_5_21 rfl rfl dX7_manyTurns_15 ?_
  refine xg_X10 8 C h (by decide) tb_45_0 rfl rfl dX7_manyTurns_18 ?_
  obtain ⟨e1, e2⟩ := pr_inj hf
  subst e1 e2
  exact m_iret C h dX7_manyTurns_21

set_option maxHeartbeats 4000000 in
set_option maxRecDepth 100000 in
theorem wX10_advance_14 (C : MCx p s m args meth c A RX10 cX10_advance 5 none D cs)  {g' : CS}  : ∀ (n : Nat) (g : CS) (y1 : Int32) (y2 : Int32), fX10_advance_14 P n g y1 y2 = some g' → ∀ (H : Heap) (locs : List Loc) (ls : Array Slot), MH D (SW cs ad al P g) A s H locs → lv_has ls 5 [(0, .ref (ad 12)), (1, .int y1), (2, .int y2)] → W p l e (rM 1) s m args below meth c H locs 0 0 (MQ below (GPost D none (SW cs ad al P g') A) args s 0 0 A) (F0 m 14 ls []) := by
  have hx := C.1
  have hb := C.2.1
  intro n
  induction n with
  | zero =>
    intro g y1 y2 hf
    exact absurd hf (by simp [fX10_advance_14])
  | succ n ih =>
    intro g y1 y2 hf H locs ls h hl
    rw [fX10_advance_14] at hf
    refine lv_iload_n hx hb dX10_advance_14 rfl (lv_at hl 2 rfl) ?_
    refine lv_if_lt (tgt := 156) hx hb dX10_advance_15 (by decide) (fun hq => ?_) (fun hq => ?_)
    · replace hf := if_t hq hf
      clear hq
      have e1 := Option.some.inj hf
      subst e1
      exact m_vret C h dX10_advance_156
    · replace hf := if_f hq hf
      clear hq
      refine lv_aload_n hx hb dX10_advance_18 rfl (lv_at hl 0 rfl) ?_
      refine xg_X10 4 C h (by decide) tb_5_12 rfl rfl dX10_advance_19 ?_
      refine lv_iload_n hx hb dX10_advance_22 rfl (lv_at hl 2 rfl) ?_
      replace hf := chk_some hf
      obtain ⟨hq, hf⟩ := hf
      refine yl_15 C h hq dX10_advance_23 ?_
      clear hq
      refine lv_topi (fun x1 ex1 => ?_)
      replace hf := bnd_at ex1 hf
      clear ex1
      refine lv_istore_n (lv' := [(3, .int x1), (0, .ref (ad 12)), (1, .int y1), (2, .int y2)]) hx hb dX10_advance_24 rfl hl (by decide) rfl (fun ls hl => ?_)
      refine lv_iload_n hx hb dX10_advance_25 rfl (lv_at hl 0 rfl) ?_
      refine lv_iconst (v := (2 : Int32)) hx hb dX10_advance_26 (by decide) ?_
      refine x_ishl hx hb dX10_advance_27 ?_
      refine lv_topi (fun x2 ex2 => ?_)
      replace hf := bnd_at ex2 hf
      clear ex2
      refine lv_istore (lv' := [(4, .int x2), (3, .int x1), (0, .ref (ad 12)), (1, .int y1), (2, .int y2)]) hx hb dX10_advance_28 hl (by decide) rfl (fun ls hl => ?_)
      refine lv_aload_n hx hb dX10_advance_30 rfl (lv_at hl 2 rfl) ?_
      refine lv_aload_n hx hb dX10_advance_31 rfl (lv_at hl 2 rfl) ?_
      refine xg_X10 9 C h (by decide) tb_45_13 rfl rfl dX10_advance_32 ?_
      refine lv_aload_n hx hb dX10_advance_35 rfl (lv_at hl 2 rfl) ?_
      refine xg_X10 5 C h (by decide) tb_5_13 rfl rfl dX10_advance_36 ?_
      refine lv_iload_n hx hb dX10_advance_39 rfl (lv_at hl 1 rfl) ?_
      replace hf := chk_some hf
      obtain ⟨hq, hf⟩ := hf
      refine yl_16 C h hq dX10_advance_40 ?_
      clear hq
      refine lv_aload_n hx hb dX10_advance_41 rfl (lv_at hl 2 rfl) ?_
      refine xg_X10 6 C h (by decide) tb_45_9 rfl rfl dX10_advance_42 ?_
      replace hf := bndv_some hf
      obtain ⟨x3, hc, hf⟩ := hf
      refine m_callSi [.int (g.1 12 9), .int (g.2.1 16 (ix x1)), .int (g.1 12 6)] C h cs_X10_68 (qX1_plus hc) rfl ⟨rfl, rfl⟩ ⟨Nat.le_of_ble_eq_true rfl, Nat.le_of_ble_eq_true rfl⟩ hl.1 rfl (Nat.le_of_ble_eq_true rfl) ⟨Nat.le_refl _, Nat.le_refl _⟩ dX10_advance_45 (fun H locs h => ?_)
      clear hc
      replace hf := bnd_ex hf
      obtain ⟨g4, eg4, hf⟩ := hf
      refine xp_X10_9 C h tb_45_13 dX10_advance_48 (fun H locs h => ?_)
      rw [← eg4] at h
      clear eg4
      refine lv_aload_n hx hb dX10_advance_51 rfl (lv_at hl 2 rfl) ?_
      refine xg_X10 11 C h (by decide) tb_45_15 rfl rfl dX10_advance_52 ?_
      refine lv_iload hx hb dX10_advance_55 (lv_at hl 0 rfl) ?_
      refine x_iushr hx hb dX10_advance_57 ?_
      refine lv_bipush (v := (15 : Int32)) hx hb dX10_advance_58 (by decide) ?_
      refine lv_iand hx hb dX10_advance_60 ?_
      refine lv_iload_n hx hb dX10_advance_61 rfl (lv_at hl 3 rfl) ?_
      refine lv_icmp_ge (tgt := 106) hx hb dX10_advance_62 (by decide) (fun hq => ?_) (fun hq => ?_)
      · replace hf := if_t hq hf
        clear hq
        refine lv_aload_n hx hb dX10_advance_106 rfl (lv_at hl 2 rfl) ?_
        refine lv_dup hx hb dX10_advance_107 rfl ?_
        refine xg_X10 11 C h (by decide) tb_45_15 rfl rfl dX10_advance_108 ?_
        refine lv_iload_n hx hb dX10_advance_111 rfl (lv_at hl 3 rfl) ?_
        refine lv_iload hx hb dX10_advance_112 (lv_at hl 0 rfl) ?_
        refine x_ishl hx hb dX10_advance_114 ?_
        refine lv_isub hx hb dX10_advance_115 ?_
        replace hf := bnd_ex hf
        obtain ⟨g5, eg5, hf⟩ := hf
        refine xp_X10_11 C h tb_45_15 dX10_advance_116 (fun H locs h => ?_)
        rw [← eg5] at h
        clear eg5
        refine lv_aload_n hx hb dX10_advance_119 rfl (lv_at hl 2 rfl) ?_
        refine lv_dup hx hb dX10_advance_120 rfl ?_
        refine xg_X10 10 C h (by decide) tb_45_14 rfl rfl dX10_advance_121 ?_
        refine lv_iload_n hx hb dX10_advance_124 rfl (lv_at hl 3 rfl) ?_
        refine lv_aload_n hx hb dX10_advance_125 rfl (lv_at hl 2 rfl) ?_
        refine xg_X10 3 C h (by decide) tb_5_11 rfl rfl dX10_advance_126 ?_
        refine lv_iload_n hx hb dX10_advance_129 rfl (lv_at hl 1 rfl) ?_
        replace hf := chk_some hf
        obtain ⟨hq, hf⟩ := hf
        refine yl_14 C h hq dX10_advance_130 ?_
        clear hq
        refine lv_imul hx hb dX10_advance_131 ?_
        refine lv_isub hx hb dX10_advance_132 ?_
        replace hf := bnd_ex hf
        obtain ⟨g6, eg6, hf⟩ := hf
        refine xp_X10_10 C h tb_45_14 dX10_advance_133 (fun H locs h => ?_)
        rw [← eg6] at h
        clear eg6
        refine lv_aload_n hx hb dX10_advance_136 rfl (lv_at hl 2 rfl) ?_
        refine lv_dup hx hb dX10_advance_137 rfl ?_
        refine xg_X10 12 C h (by decide) tb_45_16 rfl rfl dX10_advance_138 ?_
        refine lv_iconst (v := (1 : Int32)) hx hb dX10_advance_141 (by decide) ?_
        refine lv_iload_n hx hb dX10_advance_142 rfl (lv_at hl 1 rfl) ?_
        refine x_ishl hx hb dX10_advance_143 ?_
        refine lv_iconst (v := (-1 : Int32)) hx hb dX10_advance_144 (by decide) ?_
        refine lv_ixor hx hb dX10_advance_145 ?_
        refine lv_iand hx hb dX10_advance_146 ?_
        replace hf := bnd_ex hf
        obtain ⟨g7, eg7, hf⟩ := hf
        refine xp_X10_12 C h tb_45_16 dX10_advance_147 (fun H locs h => ?_)
        rw [← eg7] at h
        clear eg7
        obtain ⟨x8, ex8⟩ : ∃ z : Int32, z = y2 + (-1 : Int32) := ⟨_, rfl⟩
        replace hf := bnd_at ex8 hf
        refine lv_iinc (v := x8) (lv' := [(2, .int x8), (4, .int x2), (3, .int x1), (0, .ref (ad 12)), (1, .int y1)]) hx hb dX10_advance_150 hl (k := 4) rfl (by rw [ex8]; rfl) (by decide) rfl (fun ls hl => ?_)
        clear ex8
        refine lv_goto (tgt := 14) hx hb dX10_advance_153 (by decide) ?_
        exact ih g7 y1 x8 hf H locs ls h (lv_sub hl [3, 4, 0] rfl)
      · replace hf := if_f hq hf
        clear hq
        refine lv_aload_n hx hb dX10_advance_65 rfl (lv_at hl 2 rfl) ?_
        refine lv_dup hx hb dX10_advance_66 rfl ?_
        refine xg_X10 11 C h (by decide) tb_45_15 rfl rfl dX10_advance_67 ?_
        refine lv_iconst (v := (1 : Int32)) hx hb dX10_advance_70 (by decide) ?_
        refine lv_iload hx hb dX10_advance_71 (lv_at hl 0 rfl) ?_
        refine x_ishl hx hb dX10_advance_73 ?_
        refine lv_iadd hx hb dX10_advance_74 ?_
        replace hf := bnd_ex hf
        obtain ⟨g9, eg9, hf⟩ := hf
        refine xp_X10_11 C h tb_45_15 dX10_advance_75 (fun H locs h => ?_)
        rw [← eg9] at h
        clear eg9
        refine lv_aload_n hx hb dX10_advance_78 rfl (lv_at hl 2 rfl) ?_
        refine lv_dup hx hb dX10_advance_79 rfl ?_
        refine xg_X10 10 C h (by decide) tb_45_14 rfl rfl dX10_advance_80 ?_
        refine lv_aload_n hx hb dX10_advance_83 rfl (lv_at hl 2 rfl) ?_
        refine xg_X10 3 C h (by decide) tb_5_11 rfl rfl dX10_advance_84 ?_
        refine lv_iload_n hx hb dX10_advance_87 rfl (lv_at hl 1 rfl) ?_
        replace hf := chk_some hf
        obtain ⟨hq, hf⟩ := hf
        refine yl_14 C h hq dX10_advance_88 ?_
        clear hq
        refine lv_iadd hx hb dX10_advance_89 ?_
        replace hf := bnd_ex hf
        obtain ⟨g10, eg10, hf⟩ := hf
        refine xp_X10_10 C h tb_45_14 dX10_advance_90 (fun H locs h => ?_)
        rw [← eg10] at h
        clear eg10
        refine lv_aload_n hx hb dX10_advance_93 rfl (lv_at hl 2 rfl) ?_
        refine lv_dup hx hb dX10_advance_94 rfl ?_
        refine xg_X10 12 C h (by decide) tb_45_16 rfl rfl dX10_advance_95 ?_
        refine lv_iconst (v := (1 : Int32)) hx hb dX10_advance_98 (by decide) ?_
        refine lv_iload_n hx hb dX10_advance_99 rfl (lv_at hl 1 rfl) ?_
        refine x_ishl hx hb dX10_advance_100 ?_
        refine lv_ior hx hb dX10_advance_101 ?_
        replace hf := bnd_ex hf
        obtain ⟨g11, eg11, hf⟩ := hf
        refine xp_X10_12 C h tb_45_16 dX10_advance_102 (fun H locs h => ?_)
        rw [← eg11] at h
        clear eg11
        have e1 := Option.some.inj hf
        subst e1
        exact m_vret C h dX10_advance_105

set_option maxHeartbeats 4000000 in
set_option maxRecDepth 100000 in
theorem qX10_advance {l : Launch} {D : va_G} {cs : Nat → ClassId} {ad al : Nat → Nat} {P : PL} {g' : CS} {g : CS}  (hf : fX10_advance P g = some g') : GCon l D cs yX10_advance cX10_advance 5 none (rM 1) 0 0 [.ref (ad 12)] (SW cs ad al P g) none (SW cs ad al P g') := by
  refine GCon.of (by decide) (Nat.le_of_ble_eq_true rfl) ?_
  intro p e s m args below meth c A ls H locs C h hl
  have hx := C.1
  have hb := C.2.1
  have C : MCx p s m args meth c A RX10 cX10_advance 5 none D cs := C
  have hl : lv_has ls 5 [(0, .ref (ad 12))] := hl
  unfold fX10_advance at hf
  refine lv_aload_n hx hb dX10_advance_0 rfl (lv_at hl 0 rfl) ?_
  refine xg_X10 6 C h (by decide) tb_45_9 rfl rfl dX10_advance_1 ?_
  refine lv_iconst (v := (1 : Int32)) hx hb dX10_advance_4 (by decide) ?_
  refine lv_isub hx hb dX10_advance_5 ?_
  refine lv_topi (fun x12 ex12 => ?_)
  replace hf := bnd_at ex12 hf
  clear ex12
  refine lv_istore_n (lv' := [(1, .int x12), (0, .ref (ad 12))]) hx hb dX10_advance_6 rfl hl (by decide) rfl (fun ls hl => ?_)
  refine lv_aload_n hx hb dX10_advance_7 rfl (lv_at hl 1 rfl) ?_
  refine xg_X10 7 C h (by decide) tb_45_10 rfl rfl dX10_advance_8 ?_
  refine lv_iconst (v := (1 : Int32)) hx hb dX10_advance_11 (by decide) ?_
  refine lv_isub hx hb dX10_advance_12 ?_
  refine lv_topi (fun x13 ex13 => ?_)
  replace hf := bnd_at ex13 hf
  clear ex13
  refine lv_istore_n (lv' := [(2, .int x13), (1, .int x12), (0, .ref (ad 12))]) hx hb dX10_advance_13 rfl hl (by decide) rfl (fun ls hl => ?_)
  exact wX10_advance_14 (P := P) C fuel g x12 x13 hf H locs ls h (lv_sub hl [2, 1, 0] rfl)

set_option maxHeartbeats 4000000 in
set_option maxRecDepth 100000 in
theorem wX7_tell_161 (C : MCx p s m args meth c A RX7 cX7_tell 4 none D cs)  {g' : CS}  {k83 : CS → Int32 → Int32 → Int32 → Option (CS)} (hk83 : ∀ (g : CS) (y1 : Int32) (y2 : Int32) (y3 : Int32), k83 g y1 y2 y3 = some g' → ∀ (H : Heap) (locs : List Loc) (ls : Array Slot), MH D (SW cs ad al P g) A s H locs → lv_has ls 4 [(0, .ref (ad 17)), (1, .int y1), (2, .int y2), (3, .int y3)] → W p l e (rM 5) s m args below meth c H locs 0 0 (MQ below (GPost D none (SW cs ad al P g') A) args s 0 0 A) (F0 m 83 ls [])) : ∀ (g : CS) (y1 : Int32) (y2 : Int32) (y3 : Int32), fX7_tell_161 P k83 g y1 y2 y3 = some g' → ∀ (H : Heap) (locs : List Loc) (ls : Array Slot), MH D (SW cs ad al P g) A s H locs → lv_has ls 4 [(0, .ref (ad 17)), (1, .int y1), (2, .int y2), (3, .int y3)] → W p l e (rM 5) s m args below meth c H locs 0 0 (MQ below (GPost D none (SW cs ad al P g') A) args s 0 0 A) (F0 m 161 ls []) := by
  have hx := C.1
  have hb := C.2.1
  intro g y1 y2 y3 hf H locs ls h hl
  unfold fX7_tell_161 at hf
  refine lv_aload_n hx hb dX7_tell_161 rfl (lv_at hl 0 rfl) ?_
  refine xg_X7 1 C h (by decide) tb_5_21 rfl rfl dX7_tell_162 ?_
  replace hf := bndv_some hf
  obtain ⟨g1, hc, hf⟩ := hf
  refine m_callVv [] C h cv_X7_83 (qX10_advance hc) rfl ⟨rfl, rfl⟩ ⟨Nat.le_of_ble_eq_true rfl, Nat.le_of_ble_eq_true rfl⟩ (rv_X10 C h) hl.1 rfl (Nat.le_of_ble_eq_true rfl) ⟨Nat.le_refl _, Nat.le_refl _⟩ dX7_tell_165 (fun H locs h => ?_)
  clear hc
  obtain ⟨x2, ex2⟩ : ∃ z : Int32, z = y3 + (1 : Int32) := ⟨_, rfl⟩
  replace hf := bnd_at ex2 hf
  refine lv_iinc (v := x2) (lv' := [(3, .int x2), (0, .ref (ad 17)), (1, .int y1), (2, .int y2)]) hx hb dX7_tell_168 hl (k := 3) rfl (by rw [ex2]; rfl) (by decide) rfl (fun ls hl => ?_)
  clear ex2
  refine lv_goto (tgt := 83) hx hb dX7_tell_171 (by decide) ?_
  exact hk83 g1 y1 y2 x2 hf H locs ls h (lv_sub hl [1, 2, 3, 0] rfl)

set_option maxHeartbeats 4000000 in
set_option maxRecDepth 100000 in
theorem wX7_tell_139 (C : MCx p s m args meth c A RX7 cX7_tell 4 none D cs)  {g' : CS}  {k83 : CS → Int32 → Int32 → Int32 → Option (CS)} (hk83 : ∀ (g : CS) (y1 : Int32) (y2 : Int32) (y3 : Int32), k83 g y1 y2 y3 = some g' → ∀ (H : Heap) (locs : List Loc) (ls : Array Slot), MH D (SW cs ad al P g) A s H locs → lv_has ls 4 [(0, .ref (ad 17)), (1, .int y1), (2, .int y2), (3, .int y3)] → W p l e (rM 5) s m args below meth c H locs 0 0 (MQ below (GPost D none (SW cs ad al P g') A) args s 0 0 A) (F0 m 83 ls [])) : ∀ (g : CS) (y1 : Int32) (y2 : Int32) (y3 : Int32), fX7_tell_139 P k83 g y1 y2 y3 = some g' → ∀ (H : Heap) (locs : List Loc) (ls : Array Slot), MH D (SW cs ad al P g) A s H locs → lv_has ls 4 [(0, .ref (ad 17)), (1, .int y1), (2, .int y2), (3, .int y3)] → W p l e (rM 5) s m args below meth c H locs 0 0 (MQ below (GPost D none (SW cs ad al P g') A) args s 0 0 A) (F0 m 139 ls []) := by
  have hx := C.1
  have hb := C.2.1
  intro g y1 y2 y3 hf H locs ls h hl
  unfold fX7_tell_139 at hf
  refine lv_aload_n hx hb dX7_tell_139 rfl (lv_at hl 0 rfl) ?_
  refine lv_aload_n hx hb dX7_tell_140 rfl (lv_at hl 0 rfl) ?_
  refine xg_X7 1 C h (by decide) tb_5_21 rfl rfl dX7_tell_141 ?_
  refine xg_X10 10 C h (by decide) tb_45_2 rfl rfl dX7_tell_144 ?_
  replace hf := bnd_ex hf
  obtain ⟨g3, eg3, hf⟩ := hf
  refine xp_X7_8 C h tb_44_21 dX7_tell_147 (fun H locs h => ?_)
  rw [← eg3] at h
  clear eg3
  refine lv_aload_n hx hb dX7_tell_150 rfl (lv_at hl 0 rfl) ?_
  refine lv_aload_n hx hb dX7_tell_151 rfl (lv_at hl 0 rfl) ?_
  refine xg_X7 1 C h (by decide) tb_5_21 rfl rfl dX7_tell_152 ?_
  refine xg_X10 11 C h (by decide) tb_45_3 rfl rfl dX7_tell_155 ?_
  replace hf := bnd_ex hf
  obtain ⟨g4, eg4, hf⟩ := hf
  refine xp_X7_9 C h tb_44_22 dX7_tell_158 (fun H locs h => ?_)
  rw [← eg4] at h
  clear eg4
  exact wX7_tell_161 (P := P) C hk83 g4 y1 y2 y3 hf H locs ls h (lv_sub hl [0, 1, 2, 3] rfl)

set_option maxHeartbeats 4000000 in
set_option maxRecDepth 100000 in
theorem wX7_tell_83 (C : MCx p s m args meth c A RX7 cX7_tell 4 none D cs)  {g' : CS}  : ∀ (n : Nat) (g : CS) (y1 : Int32) (y2 : Int32) (y3 : Int32), fX7_tell_83 P n g y1 y2 y3 = some g' → ∀ (H : Heap) (locs : List Loc) (ls : Array Slot), MH D (SW cs ad al P g) A s H locs → lv_has ls 4 [(0, .ref (ad 17)), (1, .int y1), (2, .int y2), (3, .int y3)] → W p l e (rM 5) s m args below meth c H locs 0 0 (MQ below (GPost D none (SW cs ad al P g') A) args s 0 0 A) (F0 m 83 ls []) := by
  have hx := C.1
  have hb := C.2.1
  intro n
  induction n with
  | zero =>
    intro g y1 y2 y3 hf
    exact absurd hf (by simp [fX7_tell_83])
  | succ n ih =>
    intro g y1 y2 y3 hf H locs ls h hl
    rw [fX7_tell_83] at hf
    refine lv_iload_n hx hb dX7_tell_83 rfl (lv_at hl 3 rfl) ?_
    refine lv_aload_n hx hb dX7_tell_84 rfl (lv_at hl 0 rfl) ?_
    refine xg_X7 1 C h (by decide) tb_5_21 rfl rfl dX7_tell_85 ?_
    refine xg_X10 8 C h (by decide) tb_45_0 rfl rfl dX7_tell_88 ?_
    refine lv_icmp_ge (tgt := 174) hx hb dX7_tell_91 (by decide) (fun hq => ?_) (fun hq => ?_)
    · replace hf := if_t hq hf
      clear hq
      have e1 := Option.some.inj hf
      subst e1
      exact m_vret C h dX7_tell_174
    · replace hf := if_f hq hf
      clear hq
      refine lv_aload_n hx hb dX7_tell_94 rfl (lv_at hl 0 rfl) ?_
      refine xg_X7 1 C h (by decide) tb_5_21 rfl rfl dX7_tell_95 ?_
      refine xg_X10 9 C h (by decide) tb_45_1 rfl rfl dX7_tell_98 ?_
      refine lv_iload_n hx hb dX7_tell_101 rfl (lv_at hl 1 rfl) ?_
      refine lv_iand hx hb dX7_tell_102 ?_
      refine lv_iload_n hx hb dX7_tell_103 rfl (lv_at hl 2 rfl) ?_
      refine lv_icmp_ne (tgt := 161) hx hb dX7_tell_104 (by decide) (fun hq => ?_) (fun hq => ?_)
      · replace hf := if_tn hq hf
        clear hq
        exact wX7_tell_161 (P := P) C ih g y1 y2 y3 hf H locs ls h (lv_sub hl [0, 1, 2, 3] rfl)
      · replace hf := if_t hq hf
        clear hq
        refine lv_aload_n hx hb dX7_tell_107 rfl (lv_at hl 0 rfl) ?_
        refine lv_dup hx hb dX7_tell_108 rfl ?_
        refine xg_X7 7 C h (by decide) tb_44_20 rfl rfl dX7_tell_109 ?_
        refine lv_iconst (v := (1 : Int32)) hx hb dX7_tell_112 (by decide) ?_
        refine lv_iadd hx hb dX7_tell_113 ?_
        replace hf := bnd_ex hf
        obtain ⟨g5, eg5, hf⟩ := hf
        refine xp_X7_7 C h tb_44_20 dX7_tell_114 (fun H locs h => ?_)
        rw [← eg5] at h
        clear eg5
        refine lv_aload_n hx hb dX7_tell_117 rfl (lv_at hl 0 rfl) ?_
        refine xg_X7 8 C h (by decide) tb_44_21 rfl rfl dX7_tell_118 ?_
        refine lv_iconst (v := (-1 : Int32)) hx hb dX7_tell_121 (by decide) ?_
        refine lv_icmp_eq (tgt := 139) hx hb dX7_tell_122 (by decide) (fun hq => ?_) (fun hq => ?_)
        · replace hf := if_t hq hf
          clear hq
          exact wX7_tell_139 (P := P) C ih g5 y1 y2 y3 hf H locs ls h (lv_sub hl [0, 1, 2, 3] rfl)
        · replace hf := if_f hq hf
          clear hq
          refine lv_aload_n hx hb dX7_tell_125 rfl (lv_at hl 0 rfl) ?_
          refine xg_X7 1 C h (by decide) tb_5_21 rfl rfl dX7_tell_126 ?_
          refine xg_X10 10 C h (by decide) tb_45_2 rfl rfl dX7_tell_129 ?_
          refine lv_aload_n hx hb dX7_tell_132 rfl (lv_at hl 0 rfl) ?_
          refine xg_X7 8 C h (by decide) tb_44_21 rfl rfl dX7_tell_133 ?_
          refine lv_icmp_ge (tgt := 161) hx hb dX7_tell_136 (by decide) (fun hq => ?_) (fun hq => ?_)
          · replace hf := if_t hq hf
            clear hq
            exact wX7_tell_161 (P := P) C ih g5 y1 y2 y3 hf H locs ls h (lv_sub hl [0, 1, 2, 3] rfl)
          · replace hf := if_f hq hf
            clear hq
            exact wX7_tell_139 (P := P) C ih g5 y1 y2 y3 hf H locs ls h (lv_sub hl [0, 1, 2, 3] rfl)

set_option maxHeartbeats 4000000 in
set_option maxRecDepth 100000 in
theorem wX7_tell_31 (C : MCx p s m args meth c A RX7 cX7_tell 4 none D cs)  {g' : CS}  : ∀ (g : CS) (y1 : Int32) (y2 : Int32), fX7_tell_31 P g y1 y2 = some g' → ∀ (H : Heap) (locs : List Loc) (ls : Array Slot), MH D (SW cs ad al P g) A s H locs → lv_has ls 4 [(0, .ref (ad 17)), (1, .int y1), (2, .int y2)] → W p l e (rM 5) s m args below meth c H locs 0 0 (MQ below (GPost D none (SW cs ad al P g') A) args s 0 0 A) (F0 m 31 ls []) := by
  have hx := C.1
  have hb := C.2.1
  intro g y1 y2 hf H locs ls h hl
  unfold fX7_tell_31 at hf
  refine lv_aload_n hx hb dX7_tell_31 rfl (lv_at hl 0 rfl) ?_
  refine lv_aload_n hx hb dX7_tell_32 rfl (lv_at hl 0 rfl) ?_
  refine xg_X7 0 C h (by decide) tb_5_20 rfl rfl dX7_tell_33 ?_
  refine xg_X6 7 (by simp [okS, okT, ok6]) C h (by decide) tb_44_17 rfl rfl dX7_tell_36 ?_
  replace hf := bnd_ex hf
  obtain ⟨g6, eg6, hf⟩ := hf
  refine xp_X7_4 C h tb_6_0 dX7_tell_39 (fun H locs h => ?_)
  rw [← eg6] at h
  clear eg6
  refine lv_aload_n hx hb dX7_tell_42 rfl (lv_at hl 0 rfl) ?_
  refine lv_iload_n hx hb dX7_tell_43 rfl (lv_at hl 1 rfl) ?_
  replace hf := bnd_ex hf
  obtain ⟨g7, eg7, hf⟩ := hf
  refine xp_X7_5 C h tb_44_18 dX7_tell_44 (fun H locs h => ?_)
  rw [← eg7] at h
  clear eg7
  refine lv_aload_n hx hb dX7_tell_47 rfl (lv_at hl 0 rfl) ?_
  refine lv_iload_n hx hb dX7_tell_48 rfl (lv_at hl 2 rfl) ?_
  replace hf := bnd_ex hf
  obtain ⟨g8, eg8, hf⟩ := hf
  refine xp_X7_6 C h tb_44_19 dX7_tell_49 (fun H locs h => ?_)
  rw [← eg8] at h
  clear eg8
  refine lv_aload_n hx hb dX7_tell_52 rfl (lv_at hl 0 rfl) ?_
  refine lv_iconst (v := (0 : Int32)) hx hb dX7_tell_53 (by decide) ?_
  replace hf := bnd_ex hf
  obtain ⟨g9, eg9, hf⟩ := hf
  refine xp_X7_7 C h tb_44_20 dX7_tell_54 (fun H locs h => ?_)
  rw [← eg9] at h
  clear eg9
  refine lv_aload_n hx hb dX7_tell_57 rfl (lv_at hl 0 rfl) ?_
  refine lv_iconst (v := (-1 : Int32)) hx hb dX7_tell_58 (by decide) ?_
  replace hf := bnd_ex hf
  obtain ⟨g10, eg10, hf⟩ := hf
  refine xp_X7_8 C h tb_44_21 dX7_tell_59 (fun H locs h => ?_)
  rw [← eg10] at h
  clear eg10
  refine lv_aload_n hx hb dX7_tell_62 rfl (lv_at hl 0 rfl) ?_
  refine lv_iconst (v := (0 : Int32)) hx hb dX7_tell_63 (by decide) ?_
  replace hf := bnd_ex hf
  obtain ⟨g11, eg11, hf⟩ := hf
  refine xp_X7_9 C h tb_44_22 dX7_tell_64 (fun H locs h => ?_)
  rw [← eg11] at h
  clear eg11
  refine lv_aload_n hx hb dX7_tell_67 rfl (lv_at hl 0 rfl) ?_
  refine xg_X7 1 C h (by decide) tb_5_21 rfl rfl dX7_tell_68 ?_
  refine lv_aload_n hx hb dX7_tell_71 rfl (lv_at hl 0 rfl) ?_
  refine xg_X7 0 C h (by decide) tb_5_20 rfl rfl dX7_tell_72 ?_
  refine xg_X6 5 (by simp [okS, okT, ok6]) C h (by decide) tb_44_23 rfl rfl dX7_tell_75 ?_
  replace hf := bndv_some hf
  obtain ⟨g12, hc, hf⟩ := hf
  refine m_callVv [.int (g11.1 30 5)] C h cv_X7_47 (qX10_begin hc) rfl ⟨rfl, rfl⟩ ⟨Nat.le_of_ble_eq_true rfl, Nat.le_of_ble_eq_true rfl⟩ (rv_X10 C h) hl.1 rfl (Nat.le_of_ble_eq_true rfl) ⟨Nat.le_refl _, Nat.le_refl _⟩ dX7_tell_78 (fun H locs h => ?_)
  clear hc
  refine lv_iconst (v := (0 : Int32)) hx hb dX7_tell_81 (by decide) ?_
  refine lv_istore_n (lv' := [(3, .int (0 : Int32)), (0, .ref (ad 17)), (1, .int y1), (2, .int y2)]) hx hb dX7_tell_82 rfl hl (by decide) rfl (fun ls hl => ?_)
  exact wX7_tell_83 (P := P) C fuel g12 y1 y2 (0 : Int32) hf H locs ls h (lv_sub hl [1, 2, 3, 0] rfl)

set_option maxHeartbeats 4000000 in
set_option maxRecDepth 100000 in
theorem qX7_tell {l : Launch} {D : va_G} {cs : Nat → ClassId} {ad al : Nat → Nat} {P : PL} {g' : CS} {g : CS}  {a0 : Int32} {a1 : Int32} (hf : fX7_tell P g a0 a1 = some g') : GCon l D cs yX7_tell cX7_tell 4 none (rM 5) 0 0 [.ref (ad 17), .int a0, .int a1] (SW cs ad al P g) none (SW cs ad al P g') := by
  refine GCon.of (by decide) (Nat.le_of_ble_eq_true rfl) ?_
  intro p e s m args below meth c A ls H locs C h hl
  have hx := C.1
  have hb := C.2.1
  have C : MCx p s m args meth c A RX7 cX7_tell 4 none D cs := C
  have hl : lv_has ls 4 [(0, .ref (ad 17)), (1, .int a0), (2, .int a1)] := hl
  unfold fX7_tell at hf
  refine lv_aload_n hx hb dX7_tell_0 rfl (lv_at hl 0 rfl) ?_
  refine xg_X7 4 C h (by decide) tb_6_0 rfl rfl dX7_tell_1 ?_
  refine lv_aload_n hx hb dX7_tell_4 rfl (lv_at hl 0 rfl) ?_
  refine xg_X7 0 C h (by decide) tb_5_20 rfl rfl dX7_tell_5 ?_
  refine xg_X6 7 (by simp [okS, okT, ok6]) C h (by decide) tb_44_17 rfl rfl dX7_tell_8 ?_
  refine lv_icmp_ne (tgt := 31) hx hb dX7_tell_11 (by decide) (fun hq => ?_) (fun hq => ?_)
  · replace hf := if_tn hq hf
    clear hq
    exact wX7_tell_31 (P := P) C g a0 a1 hf H locs ls h (lv_sub hl [0, 1, 2] rfl)
  · replace hf := if_t hq hf
    clear hq
    refine lv_aload_n hx hb dX7_tell_14 rfl (lv_at hl 0 rfl) ?_
    refine xg_X7 5 C h (by decide) tb_44_18 rfl rfl dX7_tell_15 ?_
    refine lv_iload_n hx hb dX7_tell_18 rfl (lv_at hl 1 rfl) ?_
    refine lv_icmp_ne (tgt := 31) hx hb dX7_tell_19 (by decide) (fun hq => ?_) (fun hq => ?_)
    · replace hf := if_tn hq hf
      clear hq
      exact wX7_tell_31 (P := P) C g a0 a1 hf H locs ls h (lv_sub hl [0, 1, 2] rfl)
    · replace hf := if_t hq hf
      clear hq
      refine lv_aload_n hx hb dX7_tell_22 rfl (lv_at hl 0 rfl) ?_
      refine xg_X7 6 C h (by decide) tb_44_19 rfl rfl dX7_tell_23 ?_
      refine lv_iload_n hx hb dX7_tell_26 rfl (lv_at hl 2 rfl) ?_
      refine lv_icmp_ne (tgt := 31) hx hb dX7_tell_27 (by decide) (fun hq => ?_) (fun hq => ?_)
      · replace hf := if_tn hq hf
        clear hq
        exact wX7_tell_31 (P := P) C g a0 a1 hf H locs ls h (lv_sub hl [0, 1, 2] rfl)
      · replace hf := if_t hq hf
        clear hq
        have e1 := Option.some.inj hf
        subst e1
        exact m_vret C h dX7_tell_30

set_option maxHeartbeats 4000000 in
set_option maxRecDepth 100000 in
theorem qJ6_bitCount_0f7a4 {l : Launch} {D : va_G} {cs : Nat → ClassId} {r : Int32}  {a0 : Int32} (hf : fJ6_bitCount_0f7a4 a0 = some r) : GCon l D cs yJ6_bitCount_0f7a4 cJ6_bitCount_0f7a4 1 (some .int) (rM 0) 0 0 [.int a0] [] (some (.int r)) [] := by
  refine GCon.of (by decide) (Nat.le_of_ble_eq_true rfl) ?_
  intro p e s m args below meth c A ls H locs C h hl
  have hx := C.1
  have hb := C.2.1
  have C : MCx p s m args meth c A RJ6 cJ6_bitCount_0f7a4 1 (some .int) D cs := C
  have hl : lv_has ls 1 [(0, .int a0)] := hl
  unfold fJ6_bitCount_0f7a4 at hf
  refine lv_iload_n hx hb dJ6_bitCount_0f7a4_0 rfl (lv_at hl 0 rfl) ?_
  refine lv_iload_n hx hb dJ6_bitCount_0f7a4_1 rfl (lv_at hl 0 rfl) ?_
  refine lv_iconst (v := (1 : Int32)) hx hb dJ6_bitCount_0f7a4_2 (by decide) ?_
  refine x_iushr hx hb dJ6_bitCount_0f7a4_3 ?_
  refine lv_ldcw hx hb C.2.2.2.1 (C.2.2.2.2.1 _ tb_51_18) dJ6_bitCount_0f7a4_4 ?_
  refine lv_iand hx hb dJ6_bitCount_0f7a4_7 ?_
  refine lv_isub hx hb dJ6_bitCount_0f7a4_8 ?_
  refine lv_topi (fun x1 ex1 => ?_)
  replace hf := bnd_at ex1 hf
  clear ex1
  refine lv_istore_n (lv' := [(0, .int x1)]) hx hb dJ6_bitCount_0f7a4_9 rfl hl (by decide) rfl (fun ls hl => ?_)
  refine lv_iload_n hx hb dJ6_bitCount_0f7a4_10 rfl (lv_at hl 0 rfl) ?_
  refine lv_ldcw hx hb C.2.2.2.1 (C.2.2.2.2.1 _ tb_51_19) dJ6_bitCount_0f7a4_11 ?_
  refine lv_iand hx hb dJ6_bitCount_0f7a4_14 ?_
  refine lv_iload_n hx hb dJ6_bitCount_0f7a4_15 rfl (lv_at hl 0 rfl) ?_
  refine lv_iconst (v := (2 : Int32)) hx hb dJ6_bitCount_0f7a4_16 (by decide) ?_
  refine x_iushr hx hb dJ6_bitCount_0f7a4_17 ?_
  refine lv_ldcw hx hb C.2.2.2.1 (C.2.2.2.2.1 _ tb_51_19) dJ6_bitCount_0f7a4_18 ?_
  refine lv_iand hx hb dJ6_bitCount_0f7a4_21 ?_
  refine lv_iadd hx hb dJ6_bitCount_0f7a4_22 ?_
  refine lv_topi (fun x2 ex2 => ?_)
  replace hf := bnd_at ex2 hf
  clear ex2
  refine lv_istore_n (lv' := [(0, .int x2)]) hx hb dJ6_bitCount_0f7a4_23 rfl hl (by decide) rfl (fun ls hl => ?_)
  refine lv_iload_n hx hb dJ6_bitCount_0f7a4_24 rfl (lv_at hl 0 rfl) ?_
  refine lv_iload_n hx hb dJ6_bitCount_0f7a4_25 rfl (lv_at hl 0 rfl) ?_
  refine lv_iconst (v := (4 : Int32)) hx hb dJ6_bitCount_0f7a4_26 (by decide) ?_
  refine x_iushr hx hb dJ6_bitCount_0f7a4_27 ?_
  refine lv_iadd hx hb dJ6_bitCount_0f7a4_28 ?_
  refine lv_ldcw hx hb C.2.2.2.1 (C.2.2.2.2.1 _ tb_51_20) dJ6_bitCount_0f7a4_29 ?_
  refine lv_iand hx hb dJ6_bitCount_0f7a4_32 ?_
  refine lv_topi (fun x3 ex3 => ?_)
  replace hf := bnd_at ex3 hf
  clear ex3
  refine lv_istore_n (lv' := [(0, .int x3)]) hx hb dJ6_bitCount_0f7a4_33 rfl hl (by decide) rfl (fun ls hl => ?_)
  refine lv_iload_n hx hb dJ6_bitCount_0f7a4_34 rfl (lv_at hl 0 rfl) ?_
  refine lv_iload_n hx hb dJ6_bitCount_0f7a4_35 rfl (lv_at hl 0 rfl) ?_
  refine lv_bipush (v := (8 : Int32)) hx hb dJ6_bitCount_0f7a4_36 (by decide) ?_
  refine x_iushr hx hb dJ6_bitCount_0f7a4_38 ?_
  refine lv_iadd hx hb dJ6_bitCount_0f7a4_39 ?_
  refine lv_topi (fun x4 ex4 => ?_)
  replace hf := bnd_at ex4 hf
  clear ex4
  refine lv_istore_n (lv' := [(0, .int x4)]) hx hb dJ6_bitCount_0f7a4_40 rfl hl (by decide) rfl (fun ls hl => ?_)
  refine lv_iload_n hx hb dJ6_bitCount_0f7a4_41 rfl (lv_at hl 0 rfl) ?_
  refine lv_iload_n hx hb dJ6_bitCount_0f7a4_42 rfl (lv_at hl 0 rfl) ?_
  refine lv_bipush (v := (16 : Int32)) hx hb dJ6_bitCount_0f7a4_43 (by decide) ?_
  refine x_iushr hx hb dJ6_bitCount_0f7a4_45 ?_
  refine lv_iadd hx hb dJ6_bitCount_0f7a4_46 ?_
  refine lv_topi (fun x5 ex5 => ?_)
  replace hf := bnd_at ex5 hf
  clear ex5
  refine lv_istore_n (lv' := [(0, .int x5)]) hx hb dJ6_bitCount_0f7a4_47 rfl hl (by decide) rfl (fun ls hl => ?_)
  refine lv_iload_n hx hb dJ6_bitCount_0f7a4_48 rfl (lv_at hl 0 rfl) ?_
  refine lv_bipush (v := (63 : Int32)) hx hb dJ6_bitCount_0f7a4_49 (by decide) ?_
  refine lv_iand hx hb dJ6_bitCount_0f7a4_51 ?_
  have e1 := Option.some.inj hf
  subst e1
  exact m_iret C h dJ6_bitCount_0f7a4_52

set_option maxHeartbeats 4000000 in
set_option maxRecDepth 100000 in
theorem wX7_isLess_23 (C : MCx p s m args meth c A RX7 cX7_isLess 3 (some .boolean) D cs)  {r : Int32}  : fX7_isLess_23  = some r → ∀ (H : Heap) (locs : List Loc) (ls : Array Slot), MH D [] A s H locs → lv_has ls 3 [] → W p l e (rM 1) s m args below meth c H locs 0 0 (MQ below (GPost D (some (.int r)) [] A) args s 0 0 A) (F0 m 23 ls []) := by
  have hx := C.1
  have hb := C.2.1
  intro  hf H locs ls h hl
  unfold fX7_isLess_23 at hf
  refine lv_iconst (v := (1 : Int32)) hx hb dX7_isLess_23 (by decide) ?_
  refine lv_goto (tgt := 28) hx hb dX7_isLess_24 (by decide) ?_
  have e1 := Option.some.inj hf
  subst e1
  exact m_zret C h rfl dX7_isLess_28

set_option maxHeartbeats 4000000 in
set_option maxRecDepth 100000 in
theorem qX7_isLess {l : Launch} {D : va_G} {cs : Nat → ClassId} {r : Int32}  {a0 : Int32} {a1 : Int32} (hf : fX7_isLess a0 a1 = some r) : GCon l D cs yX7_isLess cX7_isLess 3 (some .boolean) (rM 1) 0 0 [.int a0, .int a1] [] (some (.int r)) [] := by
  refine GCon.of (by decide) (Nat.le_of_ble_eq_true rfl) ?_
  intro p e s m args below meth c A ls H locs C h hl
  have hx := C.1
  have hb := C.2.1
  have C : MCx p s m args meth c A RX7 cX7_isLess 3 (some .boolean) D cs := C
  have hl : lv_has ls 3 [(0, .int a0), (1, .int a1)] := hl
  unfold fX7_isLess at hf
  refine lv_iload_n hx hb dX7_isLess_0 rfl (lv_at hl 0 rfl) ?_
  replace hf := bndv_some hf
  obtain ⟨x1, hc, hf⟩ := hf
  refine m_callSi [.int a0] C h cs_X7_106 (qJ6_bitCount_0f7a4 hc) rfl ⟨rfl, rfl⟩ ⟨Nat.le_of_ble_eq_true rfl, Nat.le_of_ble_eq_true rfl⟩ hl.1 rfl (Nat.le_of_ble_eq_true rfl) ⟨Nat.le_refl _, Nat.le_refl _⟩ dX7_isLess_1 (fun H locs h => ?_)
  clear hc
  refine lv_iload_n hx hb dX7_isLess_4 rfl (lv_at hl 1 rfl) ?_
  replace hf := bndv_some hf
  obtain ⟨x2, hc, hf⟩ := hf
  refine m_callSi [.int a1] C h cs_X7_106 (qJ6_bitCount_0f7a4 hc) rfl ⟨rfl, rfl⟩ ⟨Nat.le_of_ble_eq_true rfl, Nat.le_of_ble_eq_true rfl⟩ hl.1 rfl (Nat.le_of_ble_eq_true rfl) ⟨Nat.le_refl _, Nat.le_refl _⟩ dX7_isLess_5 (fun H locs h => ?_)
  clear hc
  refine lv_isub hx hb dX7_isLess_8 ?_
  refine lv_topi (fun x3 ex3 => ?_)
  replace hf := bnd_at ex3 hf
  clear ex3
  refine lv_istore_n (lv' := [(2, .int x3), (0, .int a0), (1, .int a1)]) hx hb dX7_isLess_9 rfl hl (by decide) rfl (fun ls hl => ?_)
  refine lv_iload_n hx hb dX7_isLess_10 rfl (lv_at hl 0 rfl) ?_
  refine lv_if_lt (tgt := 23) hx hb dX7_isLess_11 (by decide) (fun hq => ?_) (fun hq => ?_)
  · replace hf := if_t hq hf
    clear hq
    exact wX7_isLess_23 C  hf H locs ls h (lv_sub hl [] rfl)
  · replace hf := if_f hq hf
    clear hq
    refine lv_iload_n hx hb dX7_isLess_14 rfl (lv_at hl 0 rfl) ?_
    refine lv_if_ne (tgt := 27) hx hb dX7_isLess_15 (by decide) (fun hq => ?_) (fun hq => ?_)
    · replace hf := if_tn hq hf
      clear hq
      refine lv_iconst (v := (0 : Int32)) hx hb dX7_isLess_27 (by decide) ?_
      have e1 := Option.some.inj hf
      subst e1
      exact m_zret C h rfl dX7_isLess_28
    · replace hf := if_t hq hf
      clear hq
      refine lv_iload_n hx hb dX7_isLess_18 rfl (lv_at hl 1 rfl) ?_
      refine lv_iload_n hx hb dX7_isLess_19 rfl (lv_at hl 2 rfl) ?_
      refine lv_icmp_ge (tgt := 27) hx hb dX7_isLess_20 (by decide) (fun hq => ?_) (fun hq => ?_)
      · replace hf := if_t hq hf
        clear hq
        refine lv_iconst (v := (0 : Int32)) hx hb dX7_isLess_27 (by decide) ?_
        have e1 := Option.some.inj hf
        subst e1
        exact m_zret C h rfl dX7_isLess_28
      · replace hf := if_f hq hf
        clear hq
        exact wX7_isLess_23 C  hf H locs ls h (lv_sub hl [] rfl)

set_option maxHeartbeats 4000000 in
set_option maxRecDepth 100000 in
theorem wX7_seat_91 (C : MCx p s m args meth c A RX7 cX7_seat 2 none D cs)  {g' : CS}  : ∀ (g : CS) (y1 : Int32), fX7_seat_91 P g y1 = some g' → ∀ (H : Heap) (locs : List Loc) (ls : Array Slot), MH D (SW cs ad al P g) A s H locs → lv_has ls 2 [(0, .ref (ad 17)), (1, .int y1)] → W p l e (rM 2) s m args below meth c H locs 0 0 (MQ below (GPost D none (SW cs ad al P g') A) args s 0 0 A) (F0 m 91 ls []) := by
  have hx := C.1
  have hb := C.2.1
  intro g y1 hf H locs ls h hl
  unfold fX7_seat_91 at hf
  refine lv_aload_n hx hb dX7_seat_91 rfl (lv_at hl 0 rfl) ?_
  refine xg_X7 16 C h (by decide) tb_6_4 rfl rfl dX7_seat_92 ?_
  refine lv_iload_n hx hb dX7_seat_95 rfl (lv_at hl 1 rfl) ?_
  refine lv_aload_n hx hb dX7_seat_96 rfl (lv_at hl 0 rfl) ?_
  refine xg_X7 1 C h (by decide) tb_5_21 rfl rfl dX7_seat_97 ?_
  refine xg_X10 12 C h (by decide) tb_51_10 rfl rfl dX7_seat_100 ?_
  replace hf := chk_some hf
  obtain ⟨hq, hf⟩ := hf
  replace hf := bnd_ex hf
  obtain ⟨g1, eg1, hf⟩ := hf
  refine ys_21 C h hq dX7_seat_103 (fun H locs h => ?_)
  rw [← eg1] at h
  clear hq eg1
  have e1 := Option.some.inj hf
  subst e1
  exact m_vret C h dX7_seat_104

set_option maxHeartbeats 4000000 in
set_option maxRecDepth 100000 in
theorem wX7_seat_62 (C : MCx p s m args meth c A RX7 cX7_seat 2 none D cs)  {g' : CS}  : ∀ (g : CS) (y1 : Int32), fX7_seat_62 P g y1 = some g' → ∀ (H : Heap) (locs : List Loc) (ls : Array Slot), MH D (SW cs ad al P g) A s H locs → lv_has ls 2 [(0, .ref (ad 17)), (1, .int y1)] → W p l e (rM 2) s m args below meth c H locs 0 0 (MQ below (GPost D none (SW cs ad al P g') A) args s 0 0 A) (F0 m 62 ls []) := by
  have hx := C.1
  have hb := C.2.1
  intro g y1 hf H locs ls h hl
  unfold fX7_seat_62 at hf
  refine lv_aload_n hx hb dX7_seat_62 rfl (lv_at hl 0 rfl) ?_
  refine xg_X7 16 C h (by decide) tb_6_4 rfl rfl dX7_seat_63 ?_
  refine lv_iload_n hx hb dX7_seat_66 rfl (lv_at hl 1 rfl) ?_
  replace hf := chk_some hf
  obtain ⟨hq, hf⟩ := hf
  refine yl_21 C h hq dX7_seat_67 ?_
  clear hq
  refine lv_iconst (v := (-1 : Int32)) hx hb dX7_seat_68 (by decide) ?_
  refine lv_icmp_eq (tgt := 91) hx hb dX7_seat_69 (by decide) (fun hq => ?_) (fun hq => ?_)
  · replace hf := if_t hq hf
    clear hq
    exact wX7_seat_91 (P := P) C g y1 hf H locs ls h (lv_sub hl [0, 1] rfl)
  · replace hf := if_f hq hf
    clear hq
    refine lv_aload_n hx hb dX7_seat_72 rfl (lv_at hl 0 rfl) ?_
    refine xg_X7 1 C h (by decide) tb_5_21 rfl rfl dX7_seat_73 ?_
    refine xg_X10 12 C h (by decide) tb_51_10 rfl rfl dX7_seat_76 ?_
    refine lv_aload_n hx hb dX7_seat_79 rfl (lv_at hl 0 rfl) ?_
    refine xg_X7 16 C h (by decide) tb_6_4 rfl rfl dX7_seat_80 ?_
    refine lv_iload_n hx hb dX7_seat_83 rfl (lv_at hl 1 rfl) ?_
    replace hf := chk_some hf
    obtain ⟨hq, hf⟩ := hf
    refine yl_21 C h hq dX7_seat_84 ?_
    clear hq
    replace hf := bndv_some hf
    obtain ⟨x2, hc, hf⟩ := hf
    refine m_callSi [.int (g.1 12 12), .int (g.2.1 21 (ix y1))] C h cs_X7_102 (qX7_isLess hc) rfl ⟨rfl, rfl⟩ ⟨Nat.le_of_ble_eq_true rfl, Nat.le_of_ble_eq_true rfl⟩ hl.1 rfl (Nat.le_of_ble_eq_true rfl) ⟨Nat.le_refl _, Nat.le_refl _⟩ dX7_seat_85 (fun H locs h => ?_)
    clear hc
    refine lv_if_eq (tgt := 104) hx hb dX7_seat_88 (by decide) (fun hq => ?_) (fun hq => ?_)
    · replace hf := if_t hq hf
      clear hq
      have e1 := Option.some.inj hf
      subst e1
      exact m_vret C h dX7_seat_104
    · replace hf := if_f hq hf
      clear hq
      exact wX7_seat_91 (P := P) C g y1 hf H locs ls h (lv_sub hl [0, 1] rfl)

set_option maxHeartbeats 4000000 in
set_option maxRecDepth 100000 in
theorem wX7_seat_36 (C : MCx p s m args meth c A RX7 cX7_seat 2 none D cs)  {g' : CS}  : ∀ (g : CS) (y1 : Int32), fX7_seat_36 P g y1 = some g' → ∀ (H : Heap) (locs : List Loc) (ls : Array Slot), MH D (SW cs ad al P g) A s H locs → lv_has ls 2 [(0, .ref (ad 17)), (1, .int y1)] → W p l e (rM 2) s m args below meth c H locs 0 0 (MQ below (GPost D none (SW cs ad al P g') A) args s 0 0 A) (F0 m 36 ls []) := by
  have hx := C.1
  have hb := C.2.1
  intro g y1 hf H locs ls h hl
  unfold fX7_seat_36 at hf
  refine lv_aload_n hx hb dX7_seat_36 rfl (lv_at hl 0 rfl) ?_
  refine xg_X7 14 C h (by decide) tb_6_2 rfl rfl dX7_seat_37 ?_
  refine lv_iload_n hx hb dX7_seat_40 rfl (lv_at hl 1 rfl) ?_
  refine lv_aload_n hx hb dX7_seat_41 rfl (lv_at hl 0 rfl) ?_
  refine xg_X7 1 C h (by decide) tb_5_21 rfl rfl dX7_seat_42 ?_
  refine xg_X10 10 C h (by decide) tb_45_2 rfl rfl dX7_seat_45 ?_
  replace hf := chk_some hf
  obtain ⟨hq, hf⟩ := hf
  replace hf := bnd_ex hf
  obtain ⟨g3, eg3, hf⟩ := hf
  refine ys_19 C h hq dX7_seat_48 (fun H locs h => ?_)
  rw [← eg3] at h
  clear hq eg3
  refine lv_aload_n hx hb dX7_seat_49 rfl (lv_at hl 0 rfl) ?_
  refine xg_X7 15 C h (by decide) tb_6_3 rfl rfl dX7_seat_50 ?_
  refine lv_iload_n hx hb dX7_seat_53 rfl (lv_at hl 1 rfl) ?_
  refine lv_aload_n hx hb dX7_seat_54 rfl (lv_at hl 0 rfl) ?_
  refine xg_X7 1 C h (by decide) tb_5_21 rfl rfl dX7_seat_55 ?_
  refine xg_X10 11 C h (by decide) tb_45_3 rfl rfl dX7_seat_58 ?_
  replace hf := chk_some hf
  obtain ⟨hq, hf⟩ := hf
  replace hf := bnd_ex hf
  obtain ⟨g4, eg4, hf⟩ := hf
  refine ys_20 C h hq dX7_seat_61 (fun H locs h => ?_)
  rw [← eg4] at h
  clear hq eg4
  exact wX7_seat_62 (P := P) C g4 y1 hf H locs ls h (lv_sub hl [0, 1] rfl)

set_option maxHeartbeats 4000000 in
set_option maxRecDepth 100000 in
theorem qX7_seat {l : Launch} {D : va_G} {cs : Nat → ClassId} {ad al : Nat → Nat} {P : PL} {g' : CS} {g : CS}  {a0 : Int32} (hf : fX7_seat P g a0 = some g') : GCon l D cs yX7_seat cX7_seat 2 none (rM 2) 0 0 [.ref (ad 17), .int a0] (SW cs ad al P g) none (SW cs ad al P g') := by
  refine GCon.of (by decide) (Nat.le_of_ble_eq_true rfl) ?_
  intro p e s m args below meth c A ls H locs C h hl
  have hx := C.1
  have hb := C.2.1
  have C : MCx p s m args meth c A RX7 cX7_seat 2 none D cs := C
  have hl : lv_has ls 2 [(0, .ref (ad 17)), (1, .int a0)] := hl
  unfold fX7_seat at hf
  refine lv_aload_n hx hb dX7_seat_0 rfl (lv_at hl 0 rfl) ?_
  refine xg_X7 13 C h (by decide) tb_6_1 rfl rfl dX7_seat_1 ?_
  refine lv_iload_n hx hb dX7_seat_4 rfl (lv_at hl 1 rfl) ?_
  refine lv_dup2_11 hx hb dX7_seat_5 rfl rfl ?_
  replace hf := chk_some hf
  obtain ⟨hq, hf⟩ := hf
  refine yl_18 C h hq dX7_seat_6 ?_
  clear hq
  refine lv_iconst (v := (1 : Int32)) hx hb dX7_seat_7 (by decide) ?_
  refine lv_iadd hx hb dX7_seat_8 ?_
  replace hf := chk_some hf
  obtain ⟨hq, hf⟩ := hf
  replace hf := bnd_ex hf
  obtain ⟨g5, eg5, hf⟩ := hf
  refine ys_18 C h hq dX7_seat_9 (fun H locs h => ?_)
  rw [← eg5] at h
  clear hq eg5
  refine lv_aload_n hx hb dX7_seat_10 rfl (lv_at hl 0 rfl) ?_
  refine xg_X7 14 C h (by decide) tb_6_2 rfl rfl dX7_seat_11 ?_
  refine lv_iload_n hx hb dX7_seat_14 rfl (lv_at hl 1 rfl) ?_
  replace hf := chk_some hf
  obtain ⟨hq, hf⟩ := hf
  refine yl_19 C h hq dX7_seat_15 ?_
  clear hq
  refine lv_iconst (v := (-1 : Int32)) hx hb dX7_seat_16 (by decide) ?_
  refine lv_icmp_eq (tgt := 36) hx hb dX7_seat_17 (by decide) (fun hq => ?_) (fun hq => ?_)
  · replace hf := if_t hq hf
    clear hq
    exact wX7_seat_36 (P := P) C g5 a0 hf H locs ls h (lv_sub hl [0, 1] rfl)
  · replace hf := if_f hq hf
    clear hq
    refine lv_aload_n hx hb dX7_seat_20 rfl (lv_at hl 0 rfl) ?_
    refine xg_X7 1 C h (by decide) tb_5_21 rfl rfl dX7_seat_21 ?_
    refine xg_X10 10 C h (by decide) tb_45_2 rfl rfl dX7_seat_24 ?_
    refine lv_aload_n hx hb dX7_seat_27 rfl (lv_at hl 0 rfl) ?_
    refine xg_X7 14 C h (by decide) tb_6_2 rfl rfl dX7_seat_28 ?_
    refine lv_iload_n hx hb dX7_seat_31 rfl (lv_at hl 1 rfl) ?_
    replace hf := chk_some hf
    obtain ⟨hq, hf⟩ := hf
    refine yl_19 C h hq dX7_seat_32 ?_
    clear hq
    refine lv_icmp_ge (tgt := 62) hx hb dX7_seat_33 (by decide) (fun hq => ?_) (fun hq => ?_)
    · replace hf := if_t hq hf
      clear hq
      exact wX7_seat_62 (P := P) C g5 a0 hf H locs ls h (lv_sub hl [0, 1] rfl)
    · replace hf := if_f hq hf
      clear hq
      exact wX7_seat_36 (P := P) C g5 a0 hf H locs ls h (lv_sub hl [0, 1] rfl)
end
