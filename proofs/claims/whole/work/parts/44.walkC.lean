section
variable {p : Program} {l : Launch} {e : Env} {s : State} {m : MethodId} {args : Array Value} {below : List Frame} {meth : Method} {c : Code} {D : va_G} {cs : Nat → ClassId} {ad al adK adV : Nat → Nat} {P : PL} {A : Nat → Prop}
set_option maxHeartbeats 4000000 in
set_option maxRecDepth 100000 in
theorem wX7_seatAll_110 (C : MCx p s m args meth c A RX7 cX7_seatAll 3 none D cs)  {g' : CS}  {k74 : CS → Int32 → Option (CS)} (hk74 : ∀ (g : CS) (y1 : Int32), k74 g y1 = some g' → ∀ (H : Heap) (locs : List Loc) (ls : Array Slot), MH D (SW cs ad al P g) A s H locs → lv_has ls 3 [(0, .ref (ad 17)), (1, .int y1)] → W p l e (rM 5) s m args below meth c H locs 0 0 (MQ below (GPost D none (SW cs ad al P g') A) args s 0 0 A) (F0 m 74 ls [])) : ∀ (g : CS) (y1 : Int32), fX7_seatAll_110 P k74 g y1 = some g' → ∀ (H : Heap) (locs : List Loc) (ls : Array Slot), MH D (SW cs ad al P g) A s H locs → lv_has ls 3 [(0, .ref (ad 17)), (1, .int y1)] → W p l e (rM 5) s m args below meth c H locs 0 0 (MQ below (GPost D none (SW cs ad al P g') A) args s 0 0 A) (F0 m 110 ls []) := by
  have hx := C.1
  have hb := C.2.1
  intro g y1 hf H locs ls h hl
  unfold fX7_seatAll_110 at hf
  refine lv_aload_n hx hb dX7_seatAll_110 rfl (lv_at hl 0 rfl) ?_
  refine xg_X7 1 C h (by decide) tb_5_21 rfl rfl dX7_seatAll_111 ?_
  replace hf := bndv_some hf
  obtain ⟨g1, hc, hf⟩ := hf
  refine m_callVv [] C h cv_X7_83 (qX10_advance hc) rfl ⟨rfl, rfl⟩ ⟨Nat.le_of_ble_eq_true rfl, Nat.le_of_ble_eq_true rfl⟩ (rv_X10 C h) hl.1 rfl (Nat.le_of_ble_eq_true rfl) ⟨Nat.le_refl _, Nat.le_refl _⟩ dX7_seatAll_114 (fun H locs h => ?_)
  clear hc
  obtain ⟨x2, ex2⟩ : ∃ z : Int32, z = y1 + (1 : Int32) := ⟨_, rfl⟩
  replace hf := bnd_at ex2 hf
  refine lv_iinc (v := x2) (lv' := [(1, .int x2), (0, .ref (ad 17))]) hx hb dX7_seatAll_117 hl (k := 1) rfl (by rw [ex2]; rfl) (by decide) rfl (fun ls hl => ?_)
  clear ex2
  refine lv_goto (tgt := 74) hx hb dX7_seatAll_120 (by decide) ?_
  exact hk74 g1 x2 hf H locs ls h (lv_sub hl [1, 0] rfl)

set_option maxHeartbeats 4000000 in
set_option maxRecDepth 100000 in
theorem wX7_seatAll_74 (C : MCx p s m args meth c A RX7 cX7_seatAll 3 none D cs)  {g' : CS}  : ∀ (n : Nat) (g : CS) (y1 : Int32), fX7_seatAll_74 P n g y1 = some g' → ∀ (H : Heap) (locs : List Loc) (ls : Array Slot), MH D (SW cs ad al P g) A s H locs → lv_has ls 3 [(0, .ref (ad 17)), (1, .int y1)] → W p l e (rM 5) s m args below meth c H locs 0 0 (MQ below (GPost D none (SW cs ad al P g') A) args s 0 0 A) (F0 m 74 ls []) := by
  have hx := C.1
  have hb := C.2.1
  intro n
  induction n with
  | zero =>
    intro g y1 hf
    exact absurd hf (by simp [fX7_seatAll_74])
  | succ n ih =>
    intro g y1 hf H locs ls h hl
    rw [fX7_seatAll_74] at hf
    refine lv_iload_n hx hb dX7_seatAll_74 rfl (lv_at hl 1 rfl) ?_
    refine lv_aload_n hx hb dX7_seatAll_75 rfl (lv_at hl 0 rfl) ?_
    refine xg_X7 1 C h (by decide) tb_5_21 rfl rfl dX7_seatAll_76 ?_
    refine xg_X10 8 C h (by decide) tb_45_0 rfl rfl dX7_seatAll_79 ?_
    refine lv_icmp_ge (tgt := 123) hx hb dX7_seatAll_82 (by decide) (fun hq => ?_) (fun hq => ?_)
    · replace hf := if_t hq hf
      clear hq
      have e1 := Option.some.inj hf
      subst e1
      exact m_vret C h dX7_seatAll_123
    · replace hf := if_f hq hf
      clear hq
      refine lv_aload_n hx hb dX7_seatAll_85 rfl (lv_at hl 0 rfl) ?_
      refine xg_X7 0 C h (by decide) tb_5_20 rfl rfl dX7_seatAll_86 ?_
      refine lv_aload_n hx hb dX7_seatAll_89 rfl (lv_at hl 0 rfl) ?_
      refine xg_X7 1 C h (by decide) tb_5_21 rfl rfl dX7_seatAll_90 ?_
      refine xg_X10 9 C h (by decide) tb_45_1 rfl rfl dX7_seatAll_93 ?_
      replace hf := bndc_some hf
      obtain ⟨x3, g4, hc, hf⟩ := hf
      refine m_callVi [.int (g.1 12 9)] C h cv_X7_92 (qX6_chairOf (by simp [okS, okT, ok6]) hc) rfl ⟨rfl, rfl⟩ ⟨Nat.le_of_ble_eq_true rfl, Nat.le_of_ble_eq_true rfl⟩ (rv_X6 (by simp [okS, okT, ok6]) C h) hl.1 rfl (Nat.le_of_ble_eq_true rfl) ⟨Nat.le_refl _, Nat.le_refl _⟩ dX7_seatAll_96 (fun H locs h => ?_)
      clear hc
      refine lv_istore_n (lv' := [(2, .int x3), (0, .ref (ad 17)), (1, .int y1)]) hx hb dX7_seatAll_99 rfl hl (by decide) rfl (fun ls hl => ?_)
      refine lv_iload_n hx hb dX7_seatAll_100 rfl (lv_at hl 0 rfl) ?_
      refine lv_iconst (v := (-1 : Int32)) hx hb dX7_seatAll_101 (by decide) ?_
      refine lv_icmp_eq (tgt := 110) hx hb dX7_seatAll_102 (by decide) (fun hq => ?_) (fun hq => ?_)
      · replace hf := if_t hq hf
        clear hq
        exact wX7_seatAll_110 (P := P) C ih g4 y1 hf H locs ls h (lv_sub hl [1, 2] rfl)
      · replace hf := if_f hq hf
        clear hq
        refine lv_aload_n hx hb dX7_seatAll_105 rfl (lv_at hl 1 rfl) ?_
        refine lv_iload_n hx hb dX7_seatAll_106 rfl (lv_at hl 0 rfl) ?_
        replace hf := bndv_some hf
        obtain ⟨g5, hc, hf⟩ := hf
        refine m_callVv [.int x3] C h cv_X7_96 (qX7_seat hc) rfl ⟨rfl, rfl⟩ ⟨Nat.le_of_ble_eq_true rfl, Nat.le_of_ble_eq_true rfl⟩ (rv_X7 C h) hl.1 rfl (Nat.le_of_ble_eq_true rfl) ⟨Nat.le_refl _, Nat.le_refl _⟩ dX7_seatAll_107 (fun H locs h => ?_)
        clear hc
        exact wX7_seatAll_110 (P := P) C ih g5 y1 hf H locs ls h (lv_sub hl [1, 2] rfl)

set_option maxHeartbeats 4000000 in
set_option maxRecDepth 100000 in
theorem qX7_seatAll {l : Launch} {D : va_G} {cs : Nat → ClassId} {ad al : Nat → Nat} {P : PL} {g' : CS} {g : CS}  (hf : fX7_seatAll P g = some g') : GCon l D cs yX7_seatAll cX7_seatAll 3 none (rM 5) 0 0 [.ref (ad 17)] (SW cs ad al P g) none (SW cs ad al P g') := by
  refine GCon.of (by decide) (Nat.le_of_ble_eq_true rfl) ?_
  intro p e s m args below meth c A ls H locs C h hl
  have hx := C.1
  have hb := C.2.1
  have C : MCx p s m args meth c A RX7 cX7_seatAll 3 none D cs := C
  have hl : lv_has ls 3 [(0, .ref (ad 17))] := hl
  unfold fX7_seatAll at hf
  refine lv_aload_n hx hb dX7_seatAll_0 rfl (lv_at hl 0 rfl) ?_
  refine xg_X7 2 C h (by decide) tb_5_22 rfl rfl dX7_seatAll_1 ?_
  refine lv_aload_n hx hb dX7_seatAll_4 rfl (lv_at hl 0 rfl) ?_
  refine xg_X7 0 C h (by decide) tb_5_20 rfl rfl dX7_seatAll_5 ?_
  refine xg_X6 7 (by simp [okS, okT, ok6]) C h (by decide) tb_44_17 rfl rfl dX7_seatAll_8 ?_
  refine lv_icmp_ne (tgt := 15) hx hb dX7_seatAll_11 (by decide) (fun hq => ?_) (fun hq => ?_)
  · replace hf := if_tn hq hf
    clear hq
    refine lv_aload_n hx hb dX7_seatAll_15 rfl (lv_at hl 0 rfl) ?_
    refine lv_aload_n hx hb dX7_seatAll_16 rfl (lv_at hl 0 rfl) ?_
    refine xg_X7 0 C h (by decide) tb_5_20 rfl rfl dX7_seatAll_17 ?_
    refine xg_X6 7 (by simp [okS, okT, ok6]) C h (by decide) tb_44_17 rfl rfl dX7_seatAll_20 ?_
    replace hf := bnd_ex hf
    obtain ⟨g6, eg6, hf⟩ := hf
    refine xp_X7_2 C h tb_5_22 dX7_seatAll_23 (fun H locs h => ?_)
    rw [← eg6] at h
    clear eg6
    refine lv_aload_n hx hb dX7_seatAll_26 rfl (lv_at hl 0 rfl) ?_
    refine xg_X7 13 C h (by decide) tb_6_1 rfl rfl dX7_seatAll_27 ?_
    refine lv_iconst (v := (0 : Int32)) hx hb dX7_seatAll_30 (by decide) ?_
    replace hf := bndv_some hf
    obtain ⟨g7, hc, hf⟩ := hf
    refine m_callSWv [.ref (ad 18), .int (0 : Int32)] C h cs_X7_86 (qJ7_fill_53178 (by simp [okS, okT, ok6]) hc) rfl ⟨rfl, rfl⟩ ⟨Nat.le_of_ble_eq_true rfl, Nat.le_of_ble_eq_true rfl⟩ hl.1 rfl (Nat.le_of_ble_eq_true rfl) ⟨Nat.le_refl _, Nat.le_refl _⟩ dX7_seatAll_31 (fun H locs h => ?_)
    clear hc
    refine lv_aload_n hx hb dX7_seatAll_34 rfl (lv_at hl 0 rfl) ?_
    refine xg_X7 14 C h (by decide) tb_6_2 rfl rfl dX7_seatAll_35 ?_
    refine lv_iconst (v := (-1 : Int32)) hx hb dX7_seatAll_38 (by decide) ?_
    replace hf := bndv_some hf
    obtain ⟨g8, hc, hf⟩ := hf
    refine m_callSWv [.ref (ad 19), .int (-1 : Int32)] C h cs_X7_86 (qJ7_fill_53178 (by simp [okS, okT, ok6]) hc) rfl ⟨rfl, rfl⟩ ⟨Nat.le_of_ble_eq_true rfl, Nat.le_of_ble_eq_true rfl⟩ hl.1 rfl (Nat.le_of_ble_eq_true rfl) ⟨Nat.le_refl _, Nat.le_refl _⟩ dX7_seatAll_39 (fun H locs h => ?_)
    clear hc
    refine lv_aload_n hx hb dX7_seatAll_42 rfl (lv_at hl 0 rfl) ?_
    refine xg_X7 15 C h (by decide) tb_6_3 rfl rfl dX7_seatAll_43 ?_
    refine lv_iconst (v := (0 : Int32)) hx hb dX7_seatAll_46 (by decide) ?_
    replace hf := bndv_some hf
    obtain ⟨g9, hc, hf⟩ := hf
    refine m_callSWv [.ref (ad 20), .int (0 : Int32)] C h cs_X7_86 (qJ7_fill_53178 (by simp [okS, okT, ok6]) hc) rfl ⟨rfl, rfl⟩ ⟨Nat.le_of_ble_eq_true rfl, Nat.le_of_ble_eq_true rfl⟩ hl.1 rfl (Nat.le_of_ble_eq_true rfl) ⟨Nat.le_refl _, Nat.le_refl _⟩ dX7_seatAll_47 (fun H locs h => ?_)
    clear hc
    refine lv_aload_n hx hb dX7_seatAll_50 rfl (lv_at hl 0 rfl) ?_
    refine xg_X7 16 C h (by decide) tb_6_4 rfl rfl dX7_seatAll_51 ?_
    refine lv_iconst (v := (-1 : Int32)) hx hb dX7_seatAll_54 (by decide) ?_
    replace hf := bndv_some hf
    obtain ⟨g10, hc, hf⟩ := hf
    refine m_callSWv [.ref (ad 21), .int (-1 : Int32)] C h cs_X7_86 (qJ7_fill_53178 (by simp [okS, okT, ok6]) hc) rfl ⟨rfl, rfl⟩ ⟨Nat.le_of_ble_eq_true rfl, Nat.le_of_ble_eq_true rfl⟩ hl.1 rfl (Nat.le_of_ble_eq_true rfl) ⟨Nat.le_refl _, Nat.le_refl _⟩ dX7_seatAll_55 (fun H locs h => ?_)
    clear hc
    refine lv_aload_n hx hb dX7_seatAll_58 rfl (lv_at hl 0 rfl) ?_
    refine xg_X7 1 C h (by decide) tb_5_21 rfl rfl dX7_seatAll_59 ?_
    refine lv_aload_n hx hb dX7_seatAll_62 rfl (lv_at hl 0 rfl) ?_
    refine xg_X7 0 C h (by decide) tb_5_20 rfl rfl dX7_seatAll_63 ?_
    refine xg_X6 5 (by simp [okS, okT, ok6]) C h (by decide) tb_44_23 rfl rfl dX7_seatAll_66 ?_
    replace hf := bndv_some hf
    obtain ⟨g11, hc, hf⟩ := hf
    refine m_callVv [.int (g10.1 30 5)] C h cv_X7_47 (qX10_begin hc) rfl ⟨rfl, rfl⟩ ⟨Nat.le_of_ble_eq_true rfl, Nat.le_of_ble_eq_true rfl⟩ (rv_X10 C h) hl.1 rfl (Nat.le_of_ble_eq_true rfl) ⟨Nat.le_refl _, Nat.le_refl _⟩ dX7_seatAll_69 (fun H locs h => ?_)
    clear hc
    refine lv_iconst (v := (0 : Int32)) hx hb dX7_seatAll_72 (by decide) ?_
    refine lv_istore_n (lv' := [(1, .int (0 : Int32)), (0, .ref (ad 17))]) hx hb dX7_seatAll_73 rfl hl (by decide) rfl (fun ls hl => ?_)
    exact wX7_seatAll_74 (P := P) C fuel g11 (0 : Int32) hf H locs ls h (lv_sub hl [1, 0] rfl)
  · replace hf := if_t hq hf
    clear hq
    have e1 := Option.some.inj hf
    subst e1
    exact m_vret C h dX7_seatAll_14

set_option maxHeartbeats 4000000 in
set_option maxRecDepth 100000 in
theorem wX7_reaches_10 (C : MCx p s m args meth c A RX7 cX7_reaches 4 (some .boolean) D cs)  {r : Int32} {g' : CS}  : ∀ (n : Nat) (g : CS) (y1 : Int32) (y3 : Int32), fX7_reaches_10 P n g y1 y3 = some (r, g') → ∀ (H : Heap) (locs : List Loc) (ls : Array Slot), MH D (SW cs ad al P g) A s H locs → lv_has ls 4 [(0, .ref (ad 17)), (1, .int y1), (3, .int y3)] → W p l e (rM 5) s m args below meth c H locs 0 0 (MQ below (GPost D (some (.int r)) (SW cs ad al P g') A) args s 0 0 A) (F0 m 10 ls []) := by
  have hx := C.1
  have hb := C.2.1
  intro n
  induction n with
  | zero =>
    intro g y1 y3 hf
    exact absurd hf (by simp [fX7_reaches_10])
  | succ n ih =>
    intro g y1 y3 hf H locs ls h hl
    rw [fX7_reaches_10] at hf
    refine lv_iload_n hx hb dX7_reaches_10 rfl (lv_at hl 2 rfl) ?_
    refine lv_aload_n hx hb dX7_reaches_11 rfl (lv_at hl 0 rfl) ?_
    refine xg_X7 1 C h (by decide) tb_5_21 rfl rfl dX7_reaches_12 ?_
    refine xg_X10 8 C h (by decide) tb_45_0 rfl rfl dX7_reaches_15 ?_
    refine lv_icmp_ge (tgt := 54) hx hb dX7_reaches_18 (by decide) (fun hq => ?_) (fun hq => ?_)
    · replace hf := if_t hq hf
      clear hq
      refine lv_iconst (v := (0 : Int32)) hx hb dX7_reaches_54 (by decide) ?_
      obtain ⟨e1, e2⟩ := pr_inj hf
      subst e1 e2
      exact m_zret C h rfl dX7_reaches_55
    · replace hf := if_f hq hf
      clear hq
      refine lv_aload_n hx hb dX7_reaches_21 rfl (lv_at hl 0 rfl) ?_
      refine xg_X7 0 C h (by decide) tb_5_20 rfl rfl dX7_reaches_22 ?_
      refine lv_aload_n hx hb dX7_reaches_25 rfl (lv_at hl 0 rfl) ?_
      refine xg_X7 1 C h (by decide) tb_5_21 rfl rfl dX7_reaches_26 ?_
      refine xg_X10 9 C h (by decide) tb_45_1 rfl rfl dX7_reaches_29 ?_
      replace hf := bndc_some hf
      obtain ⟨x1, g2, hc, hf⟩ := hf
      refine m_callVi [.int (g.1 12 9)] C h cv_X7_92 (qX6_chairOf (by simp [okS, okT, ok6]) hc) rfl ⟨rfl, rfl⟩ ⟨Nat.le_of_ble_eq_true rfl, Nat.le_of_ble_eq_true rfl⟩ (rv_X6 (by simp [okS, okT, ok6]) C h) hl.1 rfl (Nat.le_of_ble_eq_true rfl) ⟨Nat.le_refl _, Nat.le_refl _⟩ dX7_reaches_32 (fun H locs h => ?_)
      clear hc
      refine lv_iload_n hx hb dX7_reaches_35 rfl (lv_at hl 1 rfl) ?_
      refine lv_icmp_ne (tgt := 41) hx hb dX7_reaches_36 (by decide) (fun hq => ?_) (fun hq => ?_)
      · replace hf := if_tn hq hf
        clear hq
        refine lv_aload_n hx hb dX7_reaches_41 rfl (lv_at hl 0 rfl) ?_
        refine xg_X7 1 C h (by decide) tb_5_21 rfl rfl dX7_reaches_42 ?_
        replace hf := bndv_some hf
        obtain ⟨g3, hc, hf⟩ := hf
        refine m_callVv [] C h cv_X7_83 (qX10_advance hc) rfl ⟨rfl, rfl⟩ ⟨Nat.le_of_ble_eq_true rfl, Nat.le_of_ble_eq_true rfl⟩ (rv_X10 C h) hl.1 rfl (Nat.le_of_ble_eq_true rfl) ⟨Nat.le_refl _, Nat.le_refl _⟩ dX7_reaches_45 (fun H locs h => ?_)
        clear hc
        obtain ⟨x4, ex4⟩ : ∃ z : Int32, z = y3 + (1 : Int32) := ⟨_, rfl⟩
        replace hf := bnd_at ex4 hf
        refine lv_iinc (v := x4) (lv' := [(3, .int x4), (0, .ref (ad 17)), (1, .int y1)]) hx hb dX7_reaches_48 hl (k := 2) rfl (by rw [ex4]; rfl) (by decide) rfl (fun ls hl => ?_)
        clear ex4
        refine lv_goto (tgt := 10) hx hb dX7_reaches_51 (by decide) ?_
        exact ih g3 y1 x4 hf H locs ls h (lv_sub hl [1, 2, 0] rfl)
      · replace hf := if_t hq hf
        clear hq
        refine lv_iconst (v := (1 : Int32)) hx hb dX7_reaches_39 (by decide) ?_
        obtain ⟨e1, e2⟩ := pr_inj hf
        subst e1 e2
        exact m_zret C h rfl dX7_reaches_40

set_option maxHeartbeats 4000000 in
set_option maxRecDepth 100000 in
theorem qX7_reaches {l : Launch} {D : va_G} {cs : Nat → ClassId} {ad al : Nat → Nat} {P : PL} {r : Int32} {g' : CS} {g : CS}  {a0 : Int32} {a1 : Int32} (hf : fX7_reaches P g a0 a1 = some (r, g')) : GCon l D cs yX7_reaches cX7_reaches 4 (some .boolean) (rM 5) 0 0 [.ref (ad 17), .int a0, .int a1] (SW cs ad al P g) (some (.int r)) (SW cs ad al P g') := by
  refine GCon.of (by decide) (Nat.le_of_ble_eq_true rfl) ?_
  intro p e s m args below meth c A ls H locs C h hl
  have hx := C.1
  have hb := C.2.1
  have C : MCx p s m args meth c A RX7 cX7_reaches 4 (some .boolean) D cs := C
  have hl : lv_has ls 4 [(0, .ref (ad 17)), (1, .int a0), (2, .int a1)] := hl
  unfold fX7_reaches at hf
  refine lv_aload_n hx hb dX7_reaches_0 rfl (lv_at hl 0 rfl) ?_
  refine xg_X7 1 C h (by decide) tb_5_21 rfl rfl dX7_reaches_1 ?_
  refine lv_iload_n hx hb dX7_reaches_4 rfl (lv_at hl 2 rfl) ?_
  replace hf := bndv_some hf
  obtain ⟨g5, hc, hf⟩ := hf
  refine m_callVv [.int a1] C h cv_X7_47 (qX10_begin hc) rfl ⟨rfl, rfl⟩ ⟨Nat.le_of_ble_eq_true rfl, Nat.le_of_ble_eq_true rfl⟩ (rv_X10 C h) hl.1 rfl (Nat.le_of_ble_eq_true rfl) ⟨Nat.le_refl _, Nat.le_refl _⟩ dX7_reaches_5 (fun H locs h => ?_)
  clear hc
  refine lv_iconst (v := (0 : Int32)) hx hb dX7_reaches_8 (by decide) ?_
  refine lv_istore_n (lv' := [(3, .int (0 : Int32)), (0, .ref (ad 17)), (1, .int a0), (2, .int a1)]) hx hb dX7_reaches_9 rfl hl (by decide) rfl (fun ls hl => ?_)
  exact wX7_reaches_10 (P := P) C fuel g5 a0 (0 : Int32) hf H locs ls h (lv_sub hl [1, 2, 0] rfl)

set_option maxHeartbeats 4000000 in
set_option maxRecDepth 100000 in
theorem wX7_pairAll_133 (C : MCx p s m args meth c A RX7 cX7_pairAll 3 none D cs)  {g' : CS}  {k47 : CS → Int32 → Option (CS)} (hk47 : ∀ (g : CS) (y1 : Int32), k47 g y1 = some g' → ∀ (H : Heap) (locs : List Loc) (ls : Array Slot), MH D (SW cs ad al P g) A s H locs → lv_has ls 3 [(0, .ref (ad 17)), (1, .int y1)] → W p l e (rM 5) s m args below meth c H locs 0 0 (MQ below (GPost D none (SW cs ad al P g') A) args s 0 0 A) (F0 m 47 ls [])) : ∀ (g : CS) (y1 : Int32), fX7_pairAll_133 P k47 g y1 = some g' → ∀ (H : Heap) (locs : List Loc) (ls : Array Slot), MH D (SW cs ad al P g) A s H locs → lv_has ls 3 [(0, .ref (ad 17)), (1, .int y1)] → W p l e (rM 5) s m args below meth c H locs 0 0 (MQ below (GPost D none (SW cs ad al P g') A) args s 0 0 A) (F0 m 133 ls []) := by
  have hx := C.1
  have hb := C.2.1
  intro g y1 hf H locs ls h hl
  unfold fX7_pairAll_133 at hf
  refine lv_aload_n hx hb dX7_pairAll_133 rfl (lv_at hl 0 rfl) ?_
  refine xg_X7 1 C h (by decide) tb_5_21 rfl rfl dX7_pairAll_134 ?_
  replace hf := bndv_some hf
  obtain ⟨g1, hc, hf⟩ := hf
  refine m_callVv [] C h cv_X7_83 (qX10_advance hc) rfl ⟨rfl, rfl⟩ ⟨Nat.le_of_ble_eq_true rfl, Nat.le_of_ble_eq_true rfl⟩ (rv_X10 C h) hl.1 rfl (Nat.le_of_ble_eq_true rfl) ⟨Nat.le_refl _, Nat.le_refl _⟩ dX7_pairAll_137 (fun H locs h => ?_)
  clear hc
  obtain ⟨x2, ex2⟩ : ∃ z : Int32, z = y1 + (1 : Int32) := ⟨_, rfl⟩
  replace hf := bnd_at ex2 hf
  refine lv_iinc (v := x2) (lv' := [(1, .int x2), (0, .ref (ad 17))]) hx hb dX7_pairAll_140 hl (k := 1) rfl (by rw [ex2]; rfl) (by decide) rfl (fun ls hl => ?_)
  clear ex2
  refine lv_goto (tgt := 47) hx hb dX7_pairAll_143 (by decide) ?_
  exact hk47 g1 x2 hf H locs ls h (lv_sub hl [1, 0] rfl)

set_option maxHeartbeats 4000000 in
set_option maxRecDepth 100000 in
theorem wX7_pairAll_106 (C : MCx p s m args meth c A RX7 cX7_pairAll 3 none D cs)  {g' : CS}  {k47 : CS → Int32 → Option (CS)} (hk47 : ∀ (g : CS) (y1 : Int32), k47 g y1 = some g' → ∀ (H : Heap) (locs : List Loc) (ls : Array Slot), MH D (SW cs ad al P g) A s H locs → lv_has ls 3 [(0, .ref (ad 17)), (1, .int y1)] → W p l e (rM 5) s m args below meth c H locs 0 0 (MQ below (GPost D none (SW cs ad al P g') A) args s 0 0 A) (F0 m 47 ls [])) : ∀ (g : CS) (y1 : Int32) (y2 : Int32), fX7_pairAll_106 P k47 g y1 y2 = some g' → ∀ (H : Heap) (locs : List Loc) (ls : Array Slot), MH D (SW cs ad al P g) A s H locs → lv_has ls 3 [(0, .ref (ad 17)), (1, .int y1), (2, .int y2)] → W p l e (rM 5) s m args below meth c H locs 0 0 (MQ below (GPost D none (SW cs ad al P g') A) args s 0 0 A) (F0 m 106 ls []) := by
  have hx := C.1
  have hb := C.2.1
  intro g y1 y2 hf H locs ls h hl
  unfold fX7_pairAll_106 at hf
  refine lv_aload_n hx hb dX7_pairAll_106 rfl (lv_at hl 0 rfl) ?_
  refine lv_iload_n hx hb dX7_pairAll_107 rfl (lv_at hl 2 rfl) ?_
  replace hf := bnd_ex hf
  obtain ⟨g3, eg3, hf⟩ := hf
  refine xp_X7_10 C h tb_57_6 dX7_pairAll_108 (fun H locs h => ?_)
  rw [← eg3] at h
  clear eg3
  refine lv_aload_n hx hb dX7_pairAll_111 rfl (lv_at hl 0 rfl) ?_
  refine lv_aload_n hx hb dX7_pairAll_112 rfl (lv_at hl 0 rfl) ?_
  refine xg_X7 1 C h (by decide) tb_5_21 rfl rfl dX7_pairAll_113 ?_
  refine xg_X10 10 C h (by decide) tb_45_2 rfl rfl dX7_pairAll_116 ?_
  replace hf := bnd_ex hf
  obtain ⟨g4, eg4, hf⟩ := hf
  refine xp_X7_11 C h tb_57_8 dX7_pairAll_119 (fun H locs h => ?_)
  rw [← eg4] at h
  clear eg4
  refine lv_aload_n hx hb dX7_pairAll_122 rfl (lv_at hl 0 rfl) ?_
  refine lv_aload_n hx hb dX7_pairAll_123 rfl (lv_at hl 0 rfl) ?_
  refine xg_X7 1 C h (by decide) tb_5_21 rfl rfl dX7_pairAll_124 ?_
  refine xg_X10 11 C h (by decide) tb_45_3 rfl rfl dX7_pairAll_127 ?_
  replace hf := bnd_ex hf
  obtain ⟨g5, eg5, hf⟩ := hf
  refine xp_X7_12 C h tb_57_9 dX7_pairAll_130 (fun H locs h => ?_)
  rw [← eg5] at h
  clear eg5
  exact wX7_pairAll_133 (P := P) C hk47 g5 y1 hf H locs ls h (lv_sub hl [0, 1] rfl)

set_option maxHeartbeats 4000000 in
set_option maxRecDepth 100000 in
theorem wX7_pairAll_47 (C : MCx p s m args meth c A RX7 cX7_pairAll 3 none D cs)  {g' : CS}  : ∀ (n : Nat) (g : CS) (y1 : Int32), fX7_pairAll_47 P n g y1 = some g' → ∀ (H : Heap) (locs : List Loc) (ls : Array Slot), MH D (SW cs ad al P g) A s H locs → lv_has ls 3 [(0, .ref (ad 17)), (1, .int y1)] → W p l e (rM 5) s m args below meth c H locs 0 0 (MQ below (GPost D none (SW cs ad al P g') A) args s 0 0 A) (F0 m 47 ls []) := by
  have hx := C.1
  have hb := C.2.1
  intro n
  induction n with
  | zero =>
    intro g y1 hf
    exact absurd hf (by simp [fX7_pairAll_47])
  | succ n ih =>
    intro g y1 hf H locs ls h hl
    rw [fX7_pairAll_47] at hf
    refine lv_iload_n hx hb dX7_pairAll_47 rfl (lv_at hl 1 rfl) ?_
    refine lv_aload_n hx hb dX7_pairAll_48 rfl (lv_at hl 0 rfl) ?_
    refine xg_X7 1 C h (by decide) tb_5_21 rfl rfl dX7_pairAll_49 ?_
    refine xg_X10 8 C h (by decide) tb_45_0 rfl rfl dX7_pairAll_52 ?_
    refine lv_icmp_ge (tgt := 146) hx hb dX7_pairAll_55 (by decide) (fun hq => ?_) (fun hq => ?_)
    · replace hf := if_t hq hf
      clear hq
      have e1 := Option.some.inj hf
      subst e1
      exact m_vret C h dX7_pairAll_146
    · replace hf := if_f hq hf
      clear hq
      refine lv_aload_n hx hb dX7_pairAll_58 rfl (lv_at hl 0 rfl) ?_
      refine xg_X7 1 C h (by decide) tb_5_21 rfl rfl dX7_pairAll_59 ?_
      refine xg_X10 9 C h (by decide) tb_45_1 rfl rfl dX7_pairAll_62 ?_
      refine lv_aload_n hx hb dX7_pairAll_65 rfl (lv_at hl 0 rfl) ?_
      refine xg_X7 0 C h (by decide) tb_5_20 rfl rfl dX7_pairAll_66 ?_
      refine xg_X6 1 (by simp [okS, okT, ok6]) C h (by decide) tb_57_7 rfl rfl dX7_pairAll_69 ?_
      replace hf := bndv_some hf
      obtain ⟨x6, hc, hf⟩ := hf
      refine m_callSi [.int (g.1 12 9), .int (g.1 30 1)] C h cs_X7_117 (qX1_kneesIn hc) rfl ⟨rfl, rfl⟩ ⟨Nat.le_of_ble_eq_true rfl, Nat.le_of_ble_eq_true rfl⟩ hl.1 rfl (Nat.le_of_ble_eq_true rfl) ⟨Nat.le_refl _, Nat.le_refl _⟩ dX7_pairAll_72 (fun H locs h => ?_)
      clear hc
      refine lv_istore_n (lv' := [(2, .int x6), (0, .ref (ad 17)), (1, .int y1)]) hx hb dX7_pairAll_75 rfl hl (by decide) rfl (fun ls hl => ?_)
      refine lv_iload_n hx hb dX7_pairAll_76 rfl (lv_at hl 0 rfl) ?_
      refine lv_aload_n hx hb dX7_pairAll_77 rfl (lv_at hl 1 rfl) ?_
      refine xg_X7 10 C h (by decide) tb_57_6 rfl rfl dX7_pairAll_78 ?_
      refine lv_icmp_gt (tgt := 106) hx hb dX7_pairAll_81 (by decide) (fun hq => ?_) (fun hq => ?_)
      · replace hf := if_t hq hf
        clear hq
        exact wX7_pairAll_106 (P := P) C ih g y1 x6 hf H locs ls h (lv_sub hl [1, 2, 0] rfl)
      · replace hf := if_f hq hf
        clear hq
        refine lv_iload_n hx hb dX7_pairAll_84 rfl (lv_at hl 0 rfl) ?_
        refine lv_aload_n hx hb dX7_pairAll_85 rfl (lv_at hl 1 rfl) ?_
        refine xg_X7 10 C h (by decide) tb_57_6 rfl rfl dX7_pairAll_86 ?_
        refine lv_icmp_ne (tgt := 133) hx hb dX7_pairAll_89 (by decide) (fun hq => ?_) (fun hq => ?_)
        · replace hf := if_tn hq hf
          clear hq
          exact wX7_pairAll_133 (P := P) C ih g y1 hf H locs ls h (lv_sub hl [1, 2] rfl)
        · replace hf := if_t hq hf
          clear hq
          refine lv_aload_n hx hb dX7_pairAll_92 rfl (lv_at hl 1 rfl) ?_
          refine xg_X7 1 C h (by decide) tb_5_21 rfl rfl dX7_pairAll_93 ?_
          refine xg_X10 10 C h (by decide) tb_45_2 rfl rfl dX7_pairAll_96 ?_
          refine lv_aload_n hx hb dX7_pairAll_99 rfl (lv_at hl 1 rfl) ?_
          refine xg_X7 11 C h (by decide) tb_57_8 rfl rfl dX7_pairAll_100 ?_
          refine lv_icmp_ge (tgt := 133) hx hb dX7_pairAll_103 (by decide) (fun hq => ?_) (fun hq => ?_)
          · replace hf := if_t hq hf
            clear hq
            exact wX7_pairAll_133 (P := P) C ih g y1 hf H locs ls h (lv_sub hl [1, 2] rfl)
          · replace hf := if_f hq hf
            clear hq
            exact wX7_pairAll_106 (P := P) C ih g y1 x6 hf H locs ls h (lv_sub hl [1, 2, 0] rfl)

set_option maxHeartbeats 4000000 in
set_option maxRecDepth 100000 in
theorem qX7_pairAll {l : Launch} {D : va_G} {cs : Nat → ClassId} {ad al : Nat → Nat} {P : PL} {g' : CS} {g : CS}  (hf : fX7_pairAll P g = some g') : GCon l D cs yX7_pairAll cX7_pairAll 3 none (rM 5) 0 0 [.ref (ad 17)] (SW cs ad al P g) none (SW cs ad al P g') := by
  refine GCon.of (by decide) (Nat.le_of_ble_eq_true rfl) ?_
  intro p e s m args below meth c A ls H locs C h hl
  have hx := C.1
  have hb := C.2.1
  have C : MCx p s m args meth c A RX7 cX7_pairAll 3 none D cs := C
  have hl : lv_has ls 3 [(0, .ref (ad 17))] := hl
  unfold fX7_pairAll at hf
  refine lv_aload_n hx hb dX7_pairAll_0 rfl (lv_at hl 0 rfl) ?_
  refine xg_X7 3 C h (by decide) tb_5_23 rfl rfl dX7_pairAll_1 ?_
  refine lv_aload_n hx hb dX7_pairAll_4 rfl (lv_at hl 0 rfl) ?_
  refine xg_X7 0 C h (by decide) tb_5_20 rfl rfl dX7_pairAll_5 ?_
  refine xg_X6 7 (by simp [okS, okT, ok6]) C h (by decide) tb_44_17 rfl rfl dX7_pairAll_8 ?_
  refine lv_icmp_ne (tgt := 15) hx hb dX7_pairAll_11 (by decide) (fun hq => ?_) (fun hq => ?_)
  · replace hf := if_tn hq hf
    clear hq
    refine lv_aload_n hx hb dX7_pairAll_15 rfl (lv_at hl 0 rfl) ?_
    refine lv_aload_n hx hb dX7_pairAll_16 rfl (lv_at hl 0 rfl) ?_
    refine xg_X7 0 C h (by decide) tb_5_20 rfl rfl dX7_pairAll_17 ?_
    refine xg_X6 7 (by simp [okS, okT, ok6]) C h (by decide) tb_44_17 rfl rfl dX7_pairAll_20 ?_
    replace hf := bnd_ex hf
    obtain ⟨g7, eg7, hf⟩ := hf
    refine xp_X7_3 C h tb_5_23 dX7_pairAll_23 (fun H locs h => ?_)
    rw [← eg7] at h
    clear eg7
    refine lv_aload_n hx hb dX7_pairAll_26 rfl (lv_at hl 0 rfl) ?_
    refine lv_iconst (v := (-1 : Int32)) hx hb dX7_pairAll_27 (by decide) ?_
    replace hf := bnd_ex hf
    obtain ⟨g8, eg8, hf⟩ := hf
    refine xp_X7_10 C h tb_57_6 dX7_pairAll_28 (fun H locs h => ?_)
    rw [← eg8] at h
    clear eg8
    refine lv_aload_n hx hb dX7_pairAll_31 rfl (lv_at hl 0 rfl) ?_
    refine xg_X7 1 C h (by decide) tb_5_21 rfl rfl dX7_pairAll_32 ?_
    refine lv_aload_n hx hb dX7_pairAll_35 rfl (lv_at hl 0 rfl) ?_
    refine xg_X7 0 C h (by decide) tb_5_20 rfl rfl dX7_pairAll_36 ?_
    refine xg_X6 5 (by simp [okS, okT, ok6]) C h (by decide) tb_44_23 rfl rfl dX7_pairAll_39 ?_
    replace hf := bndv_some hf
    obtain ⟨g9, hc, hf⟩ := hf
    refine m_callVv [.int (g8.1 30 5)] C h cv_X7_47 (qX10_begin hc) rfl ⟨rfl, rfl⟩ ⟨Nat.le_of_ble_eq_true rfl, Nat.le_of_ble_eq_true rfl⟩ (rv_X10 C h) hl.1 rfl (Nat.le_of_ble_eq_true rfl) ⟨Nat.le_refl _, Nat.le_refl _⟩ dX7_pairAll_42 (fun H locs h => ?_)
    clear hc
    refine lv_iconst (v := (0 : Int32)) hx hb dX7_pairAll_45 (by decide) ?_
    refine lv_istore_n (lv' := [(1, .int (0 : Int32)), (0, .ref (ad 17))]) hx hb dX7_pairAll_46 rfl hl (by decide) rfl (fun ls hl => ?_)
    exact wX7_pairAll_47 (P := P) C fuel g9 (0 : Int32) hf H locs ls h (lv_sub hl [1, 0] rfl)
  · replace hf := if_t hq hf
    clear hq
    have e1 := Option.some.inj hf
    subst e1
    exact m_vret C h dX7_pairAll_14

set_option maxHeartbeats 4000000 in
set_option maxRecDepth 100000 in
theorem qX8_begin {l : Launch} {D : va_G} {cs : Nat → ClassId} {ad al : Nat → Nat} {P : PL} {g' : CS} {g : CS}  {a0 : Int32} (hf : fX8_begin P g a0 = some g') : GCon l D cs yX8_begin cX8_begin 2 none (rM 2) 0 0 [.ref (ad 5), .int a0] (SW cs ad al P g) none (SW cs ad al P g') := by
  refine GCon.of (by decide) (Nat.le_of_ble_eq_true rfl) ?_
  intro p e s m args below meth c A ls H locs C h hl
  have hx := C.1
  have hb := C.2.1
  have C : MCx p s m args meth c A RX8 cX8_begin 2 none D cs := C
  have hl : lv_has ls 2 [(0, .ref (ad 5)), (1, .int a0)] := hl
  unfold fX8_begin at hf
  refine lv_aload_n hx hb dX8_begin_0 rfl (lv_at hl 0 rfl) ?_
  refine lv_iload_n hx hb dX8_begin_1 rfl (lv_at hl 1 rfl) ?_
  refine lv_aload_n hx hb dX8_begin_2 rfl (lv_at hl 0 rfl) ?_
  refine xg_X8 0 C h (by decide) tb_3_22 rfl rfl dX8_begin_3 ?_
  refine ya_1 (v := (900 : Int32)) C h (by decide) dX8_begin_6 ?_
  refine x_min tb_10_0 C hl.1 (Nat.le_of_ble_eq_true rfl) (Nat.le_of_ble_eq_true rfl) (Nat.le_refl _) (Nat.le_refl _) dX8_begin_7 ?_
  replace hf := bnd_ex hf
  obtain ⟨g1, eg1, hf⟩ := hf
  refine xp_X8_1 C h tb_10_4 dX8_begin_10 (fun H locs h => ?_)
  rw [← eg1] at h
  clear eg1
  refine lv_aload_n hx hb dX8_begin_13 rfl (lv_at hl 0 rfl) ?_
  refine lv_iconst (v := (0 : Int32)) hx hb dX8_begin_14 (by decide) ?_
  replace hf := bnd_ex hf
  obtain ⟨g2, eg2, hf⟩ := hf
  refine xp_X8_2 C h tb_10_5 dX8_begin_15 (fun H locs h => ?_)
  rw [← eg2] at h
  clear eg2
  refine lv_aload_n hx hb dX8_begin_18 rfl (lv_at hl 0 rfl) ?_
  replace hf := bndv_some hf
  obtain ⟨g3, hc, hf⟩ := hf
  refine m_callVv [] C h cv_X8_28 (qX8_step hc) rfl ⟨rfl, rfl⟩ ⟨Nat.le_of_ble_eq_true rfl, Nat.le_of_ble_eq_true rfl⟩ (rv_X8 C h) hl.1 rfl (Nat.le_of_ble_eq_true rfl) ⟨Nat.le_refl _, Nat.le_refl _⟩ dX8_begin_19 (fun H locs h => ?_)
  clear hc
  have e1 := Option.some.inj hf
  subst e1
  exact m_vret C h dX8_begin_22

set_option maxHeartbeats 4000000 in
set_option maxRecDepth 100000 in
theorem wJ7_fill_d0a16_6 (C : MCx p s m args meth c A RJ7 cJ7_fill_d0a16 5 none D cs)  {g' : CS}  : ∀ (n : Nat) (g : CS) (y0 : Nat) (y1 : Int64) (y3 : Int32) (y4 : Int32), okT y0 → fJ7_fill_d0a16_6 P n g y0 y1 y3 y4 = some g' → ∀ (H : Heap) (locs : List Loc) (ls : Array Slot), MH D (SW cs ad al P g) A s H locs → lv_has ls 5 [(0, .ref (ad (y0 + 10))), (1, .long y1), (3, .int y3), (4, .int y4)] → W p l e (rM 0) s m args below meth c H locs 0 0 (MQ below (GPost D none (SW cs ad al P g') A) args s 0 0 A) (F0 m 6 ls []) := by
  have hx := C.1
  have hb := C.2.1
  intro n
  induction n with
  | zero =>
    intro g y0 y1 y3 y4 hn_y0 hf
    exact absurd hf (by simp [fJ7_fill_d0a16_6])
  | succ n ih =>
    intro g y0 y1 y3 y4 hn_y0 hf H locs ls h hl
    rw [fJ7_fill_d0a16_6] at hf
    refine lv_iload_n hx hb dJ7_fill_d0a16_6 rfl (lv_at hl 2 rfl) ?_
    refine lv_iload hx hb dJ7_fill_d0a16_7 (lv_at hl 3 rfl) ?_
    refine lv_icmp_ge (tgt := 22) hx hb dJ7_fill_d0a16_9 (by decide) (fun hq => ?_) (fun hq => ?_)
    · replace hf := if_t hq hf
      clear hq
      have e1 := Option.some.inj hf
      subst e1
      exact m_vret C h dJ7_fill_d0a16_22
    · replace hf := if_f hq hf
      clear hq
      refine lv_aload_n hx hb dJ7_fill_d0a16_12 rfl (lv_at hl 0 rfl) ?_
      refine lv_iload_n hx hb dJ7_fill_d0a16_13 rfl (lv_at hl 2 rfl) ?_
      refine lv_lload_n hx hb dJ7_fill_d0a16_14 rfl (lv_at hl 1 rfl) ?_
      replace hf := chk_some hf
      obtain ⟨hq, hf⟩ := hf
      replace hf := bnd_ex hf
      obtain ⟨g1, eg1, hf⟩ := hf
      refine ys_num hn_y0 C h hq dJ7_fill_d0a16_15 (fun H locs h => ?_)
      rw [← eg1] at h
      clear hq eg1
      obtain ⟨x2, ex2⟩ : ∃ z : Int32, z = y3 + (1 : Int32) := ⟨_, rfl⟩
      replace hf := bnd_at ex2 hf
      refine lv_iinc (v := x2) (lv' := [(3, .int x2), (0, .ref (ad (y0 + 10))), (1, .long y1), (4, .int y4)]) hx hb dJ7_fill_d0a16_16 hl (k := 2) rfl (by rw [ex2]; rfl) (by decide) rfl (fun ls hl => ?_)
      clear ex2
      refine lv_goto (tgt := 6) hx hb dJ7_fill_d0a16_19 (by decide) ?_
      exact ih g1 y0 y1 x2 y4 hn_y0 hf H locs ls h (lv_sub hl [1, 2, 0, 3] rfl)

set_option maxHeartbeats 4000000 in
set_option maxRecDepth 100000 in
theorem qJ7_fill_d0a16 {l : Launch} {D : va_G} {cs : Nat → ClassId} {ad al : Nat → Nat} {P : PL} {g' : CS} {g : CS}  {a0 : Nat} {a1 : Int64} (hn_a0 : okT a0) (hf : fJ7_fill_d0a16 P g a0 a1 = some g') : GCon l D cs yJ7_fill_d0a16 cJ7_fill_d0a16 5 none (rM 0) 0 0 [.ref (ad (a0 + 10)), .long a1] (SW cs ad al P g) none (SW cs ad al P g') := by
  refine GCon.of (by decide) (Nat.le_of_ble_eq_true rfl) ?_
  intro p e s m args below meth c A ls H locs C h hl
  have hx := C.1
  have hb := C.2.1
  have C : MCx p s m args meth c A RJ7 cJ7_fill_d0a16 5 none D cs := C
  have hl : lv_has ls 5 [(0, .ref (ad (a0 + 10))), (1, .long a1)] := hl
  unfold fJ7_fill_d0a16 at hf
  refine lv_iconst (v := (0 : Int32)) hx hb dJ7_fill_d0a16_0 (by decide) ?_
  refine lv_istore_n (lv' := [(3, .int (0 : Int32)), (0, .ref (ad (a0 + 10))), (1, .long a1)]) hx hb dJ7_fill_d0a16_1 rfl hl (by decide) rfl (fun ls hl => ?_)
  refine lv_aload_n hx hb dJ7_fill_d0a16_2 rfl (lv_at hl 1 rfl) ?_
  refine ya_num hn_a0 (v := (30 : Int32)) C h (by decide) dJ7_fill_d0a16_3 ?_
  refine lv_istore (lv' := [(4, .int (30 : Int32)), (3, .int (0 : Int32)), (0, .ref (ad (a0 + 10))), (1, .long a1)]) hx hb dJ7_fill_d0a16_4 hl (by decide) rfl (fun ls hl => ?_)
  exact wJ7_fill_d0a16_6 (P := P) C fuel g a0 a1 (0 : Int32) (30 : Int32) hn_a0 hf H locs ls h (lv_sub hl [2, 3, 1, 0] rfl)

set_option maxHeartbeats 4000000 in
set_option maxRecDepth 100000 in
theorem qX9_clearTo {l : Launch} {D : va_G} {cs : Nat → ClassId} {ad al : Nat → Nat} {P : PL} {g' : CS} {g : CS}  {o : Nat} {a0 : Int32} {a1 : Int32} (hn_o : okT o) (hf : fX9_clearTo P g o a0 a1 = some g') : GCon l D cs yX9_clearTo cX9_clearTo 3 none (rM 1) 0 0 [.ref (ad o), .int a0, .int a1] (SW cs ad al P g) none (SW cs ad al P g') := by
  refine GCon.of (by decide) (Nat.le_of_ble_eq_true rfl) ?_
  intro p e s m args below meth c A ls H locs C h hl
  have hx := C.1
  have hb := C.2.1
  have C : MCx p s m args meth c A RX9 cX9_clearTo 3 none D cs := C
  have hl : lv_has ls 3 [(0, .ref (ad o)), (1, .int a0), (2, .int a1)] := hl
  unfold fX9_clearTo at hf
  refine lv_aload_n hx hb dX9_clearTo_0 rfl (lv_at hl 0 rfl) ?_
  refine lv_iload_n hx hb dX9_clearTo_1 rfl (lv_at hl 1 rfl) ?_
  replace hf := bnd_ex hf
  obtain ⟨g1, eg1, hf⟩ := hf
  refine xp_X9_1 hn_o C h tb_67_16 dX9_clearTo_2 (fun H locs h => ?_)
  rw [← eg1] at h
  clear eg1
  refine lv_aload_n hx hb dX9_clearTo_5 rfl (lv_at hl 0 rfl) ?_
  refine lv_iload_n hx hb dX9_clearTo_6 rfl (lv_at hl 2 rfl) ?_
  replace hf := bnd_ex hf
  obtain ⟨g2, eg2, hf⟩ := hf
  refine xp_X9_0 hn_o C h tb_5_4 dX9_clearTo_7 (fun H locs h => ?_)
  rw [← eg2] at h
  clear eg2
  refine lv_aload_n hx hb dX9_clearTo_10 rfl (lv_at hl 0 rfl) ?_
  refine xg_X9 2 hn_o C h (by decide) tb_5_5 rfl rfl dX9_clearTo_11 ?_
  refine lv_lconst (v := (0 : Int64)) hx hb dX9_clearTo_14 rfl ?_
  replace hf := bndv_some hf
  obtain ⟨g3, hc, hf⟩ := hf
  refine m_callSWv [.ref (ad (o + 10)), .long (0 : Int64)] C h cs_X9_22 (qJ7_fill_d0a16 hn_o hc) rfl ⟨rfl, rfl⟩ ⟨Nat.le_of_ble_eq_true rfl, Nat.le_of_ble_eq_true rfl⟩ hl.1 rfl (Nat.le_of_ble_eq_true rfl) ⟨Nat.le_refl _, Nat.le_refl _⟩ dX9_clearTo_15 (fun H locs h => ?_)
  clear hc
  have e1 := Option.some.inj hf
  subst e1
  exact m_vret C h dX9_clearTo_18

set_option maxHeartbeats 4000000 in
set_option maxRecDepth 100000 in
theorem qX9_get {l : Launch} {D : va_G} {cs : Nat → ClassId} {ad al : Nat → Nat} {P : PL} {r : Int64} {g' : CS} {g : CS}  {o : Nat} {a0 : Int32} (hn_o : okT o) (hf : fX9_get P g o a0 = some (r, g')) : GCon l D cs yX9_get cX9_get 2 (some .long) (rM 0) 0 0 [.ref (ad o), .int a0] (SW cs ad al P g) (some (.long r)) (SW cs ad al P g') := by
  refine GCon.of (by decide) (Nat.le_of_ble_eq_true rfl) ?_
  intro p e s m args below meth c A ls H locs C h hl
  have hx := C.1
  have hb := C.2.1
  have C : MCx p s m args meth c A RX9 cX9_get 2 (some .long) D cs := C
  have hl : lv_has ls 2 [(0, .ref (ad o)), (1, .int a0)] := hl
  unfold fX9_get at hf
  refine lv_iload_n hx hb dX9_get_0 rfl (lv_at hl 1 rfl) ?_
  refine lv_if_lt (tgt := 19) hx hb dX9_get_1 (by decide) (fun hq => ?_) (fun hq => ?_)
  · replace hf := if_t hq hf
    clear hq
    refine lv_lconst (v := (0 : Int64)) hx hb dX9_get_19 rfl ?_
    obtain ⟨e1, e2⟩ := pr_inj hf
    subst e1 e2
    exact m_lret C h dX9_get_20
  · replace hf := if_f hq hf
    clear hq
    refine lv_iload_n hx hb dX9_get_4 rfl (lv_at hl 1 rfl) ?_
    refine lv_bipush (v := (30 : Int32)) hx hb dX9_get_5 (by decide) ?_
    refine lv_icmp_ge (tgt := 19) hx hb dX9_get_7 (by decide) (fun hq => ?_) (fun hq => ?_)
    · replace hf := if_t hq hf
      clear hq
      refine lv_lconst (v := (0 : Int64)) hx hb dX9_get_19 rfl ?_
      obtain ⟨e1, e2⟩ := pr_inj hf
      subst e1 e2
      exact m_lret C h dX9_get_20
    · replace hf := if_f hq hf
      clear hq
      refine lv_aload_n hx hb dX9_get_10 rfl (lv_at hl 0 rfl) ?_
      refine xg_X9 2 hn_o C h (by decide) tb_5_5 rfl rfl dX9_get_11 ?_
      refine lv_iload_n hx hb dX9_get_14 rfl (lv_at hl 1 rfl) ?_
      replace hf := chk_some hf
      obtain ⟨hq, hf⟩ := hf
      refine yl_num hn_o C h hq dX9_get_15 ?_
      clear hq
      refine lv_goto (tgt := 20) hx hb dX9_get_16 (by decide) ?_
      obtain ⟨e1, e2⟩ := pr_inj hf
      subst e1 e2
      exact m_lret C h dX9_get_20

set_option maxHeartbeats 4000000 in
set_option maxRecDepth 100000 in
theorem qX9_cut {l : Launch} {D : va_G} {cs : Nat → ClassId} {ad al : Nat → Nat} {P : PL} {r : Int64} {g' : CS} {g : CS}  {o : Nat} {a0 : Int64} (hn_o : okT o) (hf : fX9_cut P g o a0 = some (r, g')) : GCon l D cs yX9_cut cX9_cut 3 (some .long) (rM 0) 0 0 [.ref (ad o), .long a0] (SW cs ad al P g) (some (.long r)) (SW cs ad al P g') := by
  refine GCon.of (by decide) (Nat.le_of_ble_eq_true rfl) ?_
  intro p e s m args below meth c A ls H locs C h hl
  have hx := C.1
  have hb := C.2.1
  have C : MCx p s m args meth c A RX9 cX9_cut 3 (some .long) D cs := C
  have hl : lv_has ls 3 [(0, .ref (ad o)), (1, .long a0)] := hl
  unfold fX9_cut at hf
  refine lv_aload_n hx hb dX9_cut_0 rfl (lv_at hl 0 rfl) ?_
  refine xg_X9 1 hn_o C h (by decide) tb_67_16 rfl rfl dX9_cut_1 ?_
  refine lv_topi (fun x1 ex1 => ?_)
  replace hf := bnd_at ex1 hf
  clear ex1
  rcases Decidable.em (x1 = (0 : Int32)) with hq | q0
  · replace hf := if_t hq hf
    subst hq
    refine lv_tableIn (off := 28) (tgt := 32) hx hb dX9_cut_4 (by decide) (by decide) (by decide) (by decide) ?_
    refine lv_lload_n hx hb dX9_cut_32 rfl (lv_at hl 1 rfl) ?_
    refine lv_l2i hx hb dX9_cut_33 rfl ?_
    refine lv_i2b hx hb dX9_cut_34 rfl ?_
    refine lv_i2l hx hb dX9_cut_35 rfl ?_
    obtain ⟨e1, e2⟩ := pr_inj hf
    subst e1 e2
    exact m_lret C h dX9_cut_36
  replace hf := if_f q0 hf
  rcases Decidable.em (x1 = (1 : Int32)) with hq | q1
  · replace hf := if_t hq hf
    subst hq
    refine lv_tableIn (off := 33) (tgt := 37) hx hb dX9_cut_4 (by decide) (by decide) (by decide) (by decide) ?_
    refine lv_lload_n hx hb dX9_cut_37 rfl (lv_at hl 1 rfl) ?_
    refine lv_l2i hx hb dX9_cut_38 rfl ?_
    refine lv_i2s hx hb dX9_cut_39 rfl ?_
    refine lv_i2l hx hb dX9_cut_40 rfl ?_
    obtain ⟨e1, e2⟩ := pr_inj hf
    subst e1 e2
    exact m_lret C h dX9_cut_41
  replace hf := if_f q1 hf
  rcases Decidable.em (x1 = (2 : Int32)) with hq | q2
  · replace hf := if_t hq hf
    subst hq
    refine lv_tableIn (off := 38) (tgt := 42) hx hb dX9_cut_4 (by decide) (by decide) (by decide) (by decide) ?_
    refine lv_lload_n hx hb dX9_cut_42 rfl (lv_at hl 1 rfl) ?_
    refine lv_l2i hx hb dX9_cut_43 rfl ?_
    refine lv_i2l hx hb dX9_cut_44 rfl ?_
    obtain ⟨e1, e2⟩ := pr_inj hf
    subst e1 e2
    exact m_lret C h dX9_cut_45
  replace hf := if_f q2 hf
  refine lv_tableOut (tgt := 46) hx hb dX9_cut_4 (by
      have z0 := i32_ne q0
      have z1 := i32_ne q1
      have z2 := i32_ne q2
      simp only [i32v_0, i32v_1, i32v_2] at z0 z1 z2
      omega) (by decide) ?_
  refine lv_lload_n hx hb dX9_cut_46 rfl (lv_at hl 1 rfl) ?_
  obtain ⟨e1, e2⟩ := pr_inj hf
  subst e1 e2
  exact m_lret C h dX9_cut_47

set_option maxHeartbeats 4000000 in
set_option maxRecDepth 100000 in
theorem qX9_put {l : Launch} {D : va_G} {cs : Nat → ClassId} {ad al : Nat → Nat} {P : PL} {r : Int64} {g' : CS} {g : CS}  {o : Nat} {a0 : Int32} {a1 : Int64} (hn_o : okT o) (hf : fX9_put P g o a0 a1 = some (r, g')) : GCon l D cs yX9_put cX9_put 6 (some .long) (rM 1) 0 0 [.ref (ad o), .int a0, .long a1] (SW cs ad al P g) (some (.long r)) (SW cs ad al P g') := by
  refine GCon.of (by decide) (Nat.le_of_ble_eq_true rfl) ?_
  intro p e s m args below meth c A ls H locs C h hl
  have hx := C.1
  have hb := C.2.1
  have C : MCx p s m args meth c A RX9 cX9_put 6 (some .long) D cs := C
  have hl : lv_has ls 6 [(0, .ref (ad o)), (1, .int a0), (2, .long a1)] := hl
  unfold fX9_put at hf
  refine lv_aload_n hx hb dX9_put_0 rfl (lv_at hl 0 rfl) ?_
  refine lv_lload_n hx hb dX9_put_1 rfl (lv_at hl 2 rfl) ?_
  replace hf := bndc_some hf
  obtain ⟨x1, g2, hc, hf⟩ := hf
  refine m_callVl [.long a1] C h cv_X9_28 (qX9_cut hn_o hc) rfl ⟨rfl, rfl⟩ ⟨Nat.le_of_ble_eq_true rfl, Nat.le_of_ble_eq_true rfl⟩ (rv_X9 hn_o C h) hl.1 rfl (Nat.le_of_ble_eq_true rfl) ⟨Nat.le_refl _, Nat.le_refl _⟩ dX9_put_2 (fun H locs h => ?_)
  clear hc
  refine lv_lstore (lv' := [(4, .long x1), (0, .ref (ad o)), (1, .int a0), (2, .long a1)]) hx hb dX9_put_5 hl (by decide) rfl (fun ls hl => ?_)
  refine lv_iload_n hx hb dX9_put_7 rfl (lv_at hl 2 rfl) ?_
  refine lv_if_lt (tgt := 25) hx hb dX9_put_8 (by decide) (fun hq => ?_) (fun hq => ?_)
  · replace hf := if_t hq hf
    clear hq
    refine lv_lload hx hb dX9_put_25 (lv_at hl 0 rfl) ?_
    obtain ⟨e1, e2⟩ := pr_inj hf
    subst e1 e2
    exact m_lret C h dX9_put_27
  · replace hf := if_f hq hf
    clear hq
    refine lv_iload_n hx hb dX9_put_11 rfl (lv_at hl 2 rfl) ?_
    refine lv_bipush (v := (30 : Int32)) hx hb dX9_put_12 (by decide) ?_
    refine lv_icmp_ge (tgt := 25) hx hb dX9_put_14 (by decide) (fun hq => ?_) (fun hq => ?_)
    · replace hf := if_t hq hf
      clear hq
      refine lv_lload hx hb dX9_put_25 (lv_at hl 0 rfl) ?_
      obtain ⟨e1, e2⟩ := pr_inj hf
      subst e1 e2
      exact m_lret C h dX9_put_27
    · replace hf := if_f hq hf
      clear hq
      refine lv_aload_n hx hb dX9_put_17 rfl (lv_at hl 1 rfl) ?_
      refine xg_X9 2 hn_o C h (by decide) tb_5_5 rfl rfl dX9_put_18 ?_
      refine lv_iload_n hx hb dX9_put_21 rfl (lv_at hl 2 rfl) ?_
      refine lv_lload hx hb dX9_put_22 (lv_at hl 0 rfl) ?_
      replace hf := chk_some hf
      obtain ⟨hq, hf⟩ := hf
      replace hf := bnd_ex hf
      obtain ⟨g3, eg3, hf⟩ := hf
      refine ys_num hn_o C h hq dX9_put_24 (fun H locs h => ?_)
      rw [← eg3] at h
      clear hq eg3
      refine lv_lload hx hb dX9_put_25 (lv_at hl 0 rfl) ?_
      obtain ⟨e1, e2⟩ := pr_inj hf
      subst e1 e2
      exact m_lret C h dX9_put_27

set_option maxHeartbeats 4000000 in
set_option maxRecDepth 100000 in
theorem wX9_tellsLook_12 (C : MCx p s m args meth c A RX9 cX9_tellsLook 3 (some .boolean) D cs)  {r : Int32} {g' : CS}  : ∀ (n : Nat) (g : CS) (y0 : Nat) (y1 : Int32) (y2 : Int32), okT y0 → fX9_tellsLook_12 P n g y0 y1 y2 = some (r, g') → ∀ (H : Heap) (locs : List Loc) (ls : Array Slot), MH D (SW cs ad al P g) A s H locs → lv_has ls 3 [(0, .ref (ad y0)), (1, .int y1), (2, .int y2)] → W p l e (rM 1) s m args below meth c H locs 0 0 (MQ below (GPost D (some (.int r)) (SW cs ad al P g') A) args s 0 0 A) (F0 m 12 ls []) := by
  have hx := C.1
  have hb := C.2.1
  intro n
  induction n with
  | zero =>
    intro g y0 y1 y2 hn_y0 hf
    exact absurd hf (by simp [fX9_tellsLook_12])
  | succ n ih =>
    intro g y0 y1 y2 hn_y0 hf H locs ls h hl
    rw [fX9_tellsLook_12] at hf
    refine lv_iload_n hx hb dX9_tellsLook_12 rfl (lv_at hl 2 rfl) ?_
    refine lv_iload_n hx hb dX9_tellsLook_13 rfl (lv_at hl 1 rfl) ?_
    refine lv_icmp_ge (tgt := 48) hx hb dX9_tellsLook_14 (by decide) (fun hq => ?_) (fun hq => ?_)
    · replace hf := if_t hq hf
      clear hq
      refine lv_iconst (v := (1 : Int32)) hx hb dX9_tellsLook_48 (by decide) ?_
      obtain ⟨e1, e2⟩ := pr_inj hf
      subst e1 e2
      exact m_zret C h rfl dX9_tellsLook_49
    · replace hf := if_f hq hf
      clear hq
      refine lv_aload_n hx hb dX9_tellsLook_17 rfl (lv_at hl 0 rfl) ?_
      refine lv_iload_n hx hb dX9_tellsLook_18 rfl (lv_at hl 2 rfl) ?_
      replace hf := bndc_some hf
      obtain ⟨x1, g2, hc, hf⟩ := hf
      refine m_callVl [.int y2] C h cv_X9_32 (qX9_get hn_y0 hc) rfl ⟨rfl, rfl⟩ ⟨Nat.le_of_ble_eq_true rfl, Nat.le_of_ble_eq_true rfl⟩ (rv_X9 hn_y0 C h) hl.1 rfl (Nat.le_of_ble_eq_true rfl) ⟨Nat.le_refl _, Nat.le_refl _⟩ dX9_tellsLook_19 (fun H locs h => ?_)
      clear hc
      refine lv_ldc2 hx hb C.2.2.2.1 (C.2.2.2.2.1 _ tb_43_22) dX9_tellsLook_22 ?_
      refine W.lcmp hx hb dX9_tellsLook_25 ?_
      refine lv_if_lt (tgt := 40) hx hb dX9_tellsLook_26 (by decide) (fun hq => ?_) (fun hq => ?_)
      · replace hf := if_t hq hf
        clear hq
        refine lv_iconst (v := (0 : Int32)) hx hb dX9_tellsLook_40 (by decide) ?_
        obtain ⟨e1, e2⟩ := pr_inj hf
        subst e1 e2
        exact m_zret C h rfl dX9_tellsLook_41
      · replace hf := if_f hq hf
        clear hq
        refine lv_aload_n hx hb dX9_tellsLook_29 rfl (lv_at hl 0 rfl) ?_
        refine lv_iload_n hx hb dX9_tellsLook_30 rfl (lv_at hl 2 rfl) ?_
        replace hf := bndc_some hf
        obtain ⟨x3, g4, hc, hf⟩ := hf
        refine m_callVl [.int y2] C h cv_X9_32 (qX9_get hn_y0 hc) rfl ⟨rfl, rfl⟩ ⟨Nat.le_of_ble_eq_true rfl, Nat.le_of_ble_eq_true rfl⟩ (rv_X9 hn_y0 C h) hl.1 rfl (Nat.le_of_ble_eq_true rfl) ⟨Nat.le_refl _, Nat.le_refl _⟩ dX9_tellsLook_31 (fun H locs h => ?_)
        clear hc
        refine lv_iload_n hx hb dX9_tellsLook_34 rfl (lv_at hl 1 rfl) ?_
        refine lv_i2l hx hb dX9_tellsLook_35 rfl ?_
        refine W.lcmp hx hb dX9_tellsLook_36 ?_
        refine lv_if_lt (tgt := 42) hx hb dX9_tellsLook_37 (by decide) (fun hq => ?_) (fun hq => ?_)
        · replace hf := if_t hq hf
          clear hq
          obtain ⟨x5, ex5⟩ : ∃ z : Int32, z = y2 + (1 : Int32) := ⟨_, rfl⟩
          replace hf := bnd_at ex5 hf
          refine lv_iinc (v := x5) (lv' := [(2, .int x5), (0, .ref (ad y0)), (1, .int y1)]) hx hb dX9_tellsLook_42 hl (k := 2) rfl (by rw [ex5]; rfl) (by decide) rfl (fun ls hl => ?_)
          clear ex5
          refine lv_goto (tgt := 12) hx hb dX9_tellsLook_45 (by decide) ?_
          exact ih g4 y0 y1 x5 hn_y0 hf H locs ls h (lv_sub hl [1, 2, 0] rfl)
        · replace hf := if_f hq hf
          clear hq
          refine lv_iconst (v := (0 : Int32)) hx hb dX9_tellsLook_40 (by decide) ?_
          obtain ⟨e1, e2⟩ := pr_inj hf
          subst e1 e2
          exact m_zret C h rfl dX9_tellsLook_41

set_option maxHeartbeats 4000000 in
set_option maxRecDepth 100000 in
theorem qX9_tellsLook {l : Launch} {D : va_G} {cs : Nat → ClassId} {ad al : Nat → Nat} {P : PL} {r : Int32} {g' : CS} {g : CS}  {o : Nat} {a0 : Int32} (hn_o : okT o) (hf : fX9_tellsLook P g o a0 = some (r, g')) : GCon l D cs yX9_tellsLook cX9_tellsLook 3 (some .boolean) (rM 1) 0 0 [.ref (ad o), .int a0] (SW cs ad al P g) (some (.int r)) (SW cs ad al P g') := by
  refine GCon.of (by decide) (Nat.le_of_ble_eq_true rfl) ?_
  intro p e s m args below meth c A ls H locs C h hl
  have hx := C.1
  have hb := C.2.1
  have C : MCx p s m args meth c A RX9 cX9_tellsLook 3 (some .boolean) D cs := C
  have hl : lv_has ls 3 [(0, .ref (ad o)), (1, .int a0)] := hl
  unfold fX9_tellsLook at hf
  refine lv_aload_n hx hb dX9_tellsLook_0 rfl (lv_at hl 0 rfl) ?_
  refine xg_X9 0 hn_o C h (by decide) tb_5_4 rfl rfl dX9_tellsLook_1 ?_
  refine lv_iload_n hx hb dX9_tellsLook_4 rfl (lv_at hl 1 rfl) ?_
  refine lv_icmp_eq (tgt := 10) hx hb dX9_tellsLook_5 (by decide) (fun hq => ?_) (fun hq => ?_)
  · replace hf := if_t hq hf
    clear hq
    refine lv_iconst (v := (0 : Int32)) hx hb dX9_tellsLook_10 (by decide) ?_
    refine lv_istore_n (lv' := [(2, .int (0 : Int32)), (0, .ref (ad o)), (1, .int a0)]) hx hb dX9_tellsLook_11 rfl hl (by decide) rfl (fun ls hl => ?_)
    exact wX9_tellsLook_12 (P := P) C fuel g o a0 (0 : Int32) hn_o hf H locs ls h (lv_sub hl [1, 2, 0] rfl)
  · replace hf := if_f hq hf
    clear hq
    refine lv_iconst (v := (0 : Int32)) hx hb dX9_tellsLook_8 (by decide) ?_
    obtain ⟨e1, e2⟩ := pr_inj hf
    subst e1 e2
    exact m_zret C h rfl dX9_tellsLook_9

set_option maxHeartbeats 4000000 in
set_option maxRecDepth 100000 in
theorem wX9_maskOf_4 (C : MCx p s m args meth c A RX9 cX9_maskOf 4 (some .int) D cs)  {r : Int32} {g' : CS}  : ∀ (n : Nat) (g : CS) (y0 : Nat) (y1 : Int32) (y2 : Int32) (y3 : Int32), okT y0 → fX9_maskOf_4 P n g y0 y1 y2 y3 = some (r, g') → ∀ (H : Heap) (locs : List Loc) (ls : Array Slot), MH D (SW cs ad al P g) A s H locs → lv_has ls 4 [(0, .ref (ad y0)), (1, .int y1), (2, .int y2), (3, .int y3)] → W p l e (rM 1) s m args below meth c H locs 0 0 (MQ below (GPost D (some (.int r)) (SW cs ad al P g') A) args s 0 0 A) (F0 m 4 ls []) := by
  have hx := C.1
  have hb := C.2.1
  intro n
  induction n with
  | zero =>
    intro g y0 y1 y2 y3 hn_y0 hf
    exact absurd hf (by simp [fX9_maskOf_4])
  | succ n ih =>
    intro g y0 y1 y2 y3 hn_y0 hf H locs ls h hl
    rw [fX9_maskOf_4] at hf
    refine lv_iload_n hx hb dX9_maskOf_4 rfl (lv_at hl 3 rfl) ?_
    refine lv_iload_n hx hb dX9_maskOf_5 rfl (lv_at hl 1 rfl) ?_
    refine lv_icmp_ge (tgt := 35) hx hb dX9_maskOf_6 (by decide) (fun hq => ?_) (fun hq => ?_)
    · replace hf := if_t hq hf
      clear hq
      refine lv_iload_n hx hb dX9_maskOf_35 rfl (lv_at hl 2 rfl) ?_
      obtain ⟨e1, e2⟩ := pr_inj hf
      subst e1 e2
      exact m_iret C h dX9_maskOf_36
    · replace hf := if_f hq hf
      clear hq
      refine lv_aload_n hx hb dX9_maskOf_9 rfl (lv_at hl 0 rfl) ?_
      refine lv_iload_n hx hb dX9_maskOf_10 rfl (lv_at hl 3 rfl) ?_
      replace hf := bndc_some hf
      obtain ⟨x1, g2, hc, hf⟩ := hf
      refine m_callVl [.int y3] C h cv_X9_32 (qX9_get hn_y0 hc) rfl ⟨rfl, rfl⟩ ⟨Nat.le_of_ble_eq_true rfl, Nat.le_of_ble_eq_true rfl⟩ (rv_X9 hn_y0 C h) hl.1 rfl (Nat.le_of_ble_eq_true rfl) ⟨Nat.le_refl _, Nat.le_refl _⟩ dX9_maskOf_11 (fun H locs h => ?_)
      clear hc
      refine lv_ldc2 hx hb C.2.2.2.1 (C.2.2.2.2.1 _ tb_43_22) dX9_maskOf_14 ?_
      refine W.lcmp hx hb dX9_maskOf_17 ?_
      refine lv_if_eq (tgt := 29) hx hb dX9_maskOf_18 (by decide) (fun hq => ?_) (fun hq => ?_)
      · replace hf := if_t hq hf
        clear hq
        obtain ⟨x3, ex3⟩ : ∃ z : Int32, z = y3 + (1 : Int32) := ⟨_, rfl⟩
        replace hf := bnd_at ex3 hf
        refine lv_iinc (v := x3) (lv' := [(3, .int x3), (0, .ref (ad y0)), (1, .int y1), (2, .int y2)]) hx hb dX9_maskOf_29 hl (k := 3) rfl (by rw [ex3]; rfl) (by decide) rfl (fun ls hl => ?_)
        clear ex3
        refine lv_goto (tgt := 4) hx hb dX9_maskOf_32 (by decide) ?_
        exact ih g2 y0 y1 y2 x3 hn_y0 hf H locs ls h (lv_sub hl [1, 2, 3, 0] rfl)
      · replace hf := if_f hq hf
        clear hq
        refine lv_iload_n hx hb dX9_maskOf_21 rfl (lv_at hl 2 rfl) ?_
        refine lv_iload_n hx hb dX9_maskOf_22 rfl (lv_at hl 3 rfl) ?_
        refine lv_bipush (v := (15 : Int32)) hx hb dX9_maskOf_23 (by decide) ?_
        replace hf := bndv_some hf
        obtain ⟨x4, hc, hf⟩ := hf
        refine m_callSi [.int y2, .int y3, .int (15 : Int32)] C h cs_X9_38 (qX1_with hc) rfl ⟨rfl, rfl⟩ ⟨Nat.le_of_ble_eq_true rfl, Nat.le_of_ble_eq_true rfl⟩ hl.1 rfl (Nat.le_of_ble_eq_true rfl) ⟨Nat.le_refl _, Nat.le_refl _⟩ dX9_maskOf_25 (fun H locs h => ?_)
        clear hc
        refine lv_istore_n (lv' := [(2, .int x4), (0, .ref (ad y0)), (1, .int y1), (3, .int y3)]) hx hb dX9_maskOf_28 rfl hl (by decide) rfl (fun ls hl => ?_)
        obtain ⟨x5, ex5⟩ : ∃ z : Int32, z = y3 + (1 : Int32) := ⟨_, rfl⟩
        replace hf := bnd_at ex5 hf
        refine lv_iinc (v := x5) (lv' := [(3, .int x5), (2, .int x4), (0, .ref (ad y0)), (1, .int y1)]) hx hb dX9_maskOf_29 hl (k := 3) rfl (by rw [ex5]; rfl) (by decide) rfl (fun ls hl => ?_)
        clear ex5
        refine lv_goto (tgt := 4) hx hb dX9_maskOf_32 (by decide) ?_
        exact ih g2 y0 y1 x4 x5 hn_y0 hf H locs ls h (lv_sub hl [2, 3, 1, 0] rfl)

set_option maxHeartbeats 4000000 in
set_option maxRecDepth 100000 in
theorem qX9_maskOf {l : Launch} {D : va_G} {cs : Nat → ClassId} {ad al : Nat → Nat} {P : PL} {r : Int32} {g' : CS} {g : CS}  {o : Nat} {a0 : Int32} (hn_o : okT o) (hf : fX9_maskOf P g o a0 = some (r, g')) : GCon l D cs yX9_maskOf cX9_maskOf 4 (some .int) (rM 1) 0 0 [.ref (ad o), .int a0] (SW cs ad al P g) (some (.int r)) (SW cs ad al P g') := by
  refine GCon.of (by decide) (Nat.le_of_ble_eq_true rfl) ?_
  intro p e s m args below meth c A ls H locs C h hl
  have hx := C.1
  have hb := C.2.1
  have C : MCx p s m args meth c A RX9 cX9_maskOf 4 (some .int) D cs := C
  have hl : lv_has ls 4 [(0, .ref (ad o)), (1, .int a0)] := hl
  unfold fX9_maskOf at hf
  refine lv_iconst (v := (0 : Int32)) hx hb dX9_maskOf_0 (by decide) ?_
  refine lv_istore_n (lv' := [(2, .int (0 : Int32)), (0, .ref (ad o)), (1, .int a0)]) hx hb dX9_maskOf_1 rfl hl (by decide) rfl (fun ls hl => ?_)
  refine lv_iconst (v := (0 : Int32)) hx hb dX9_maskOf_2 (by decide) ?_
  refine lv_istore_n (lv' := [(3, .int (0 : Int32)), (2, .int (0 : Int32)), (0, .ref (ad o)), (1, .int a0)]) hx hb dX9_maskOf_3 rfl hl (by decide) rfl (fun ls hl => ?_)
  exact wX9_maskOf_4 (P := P) C fuel g o a0 (0 : Int32) (0 : Int32) hn_o hf H locs ls h (lv_sub hl [2, 3, 1, 0] rfl)

set_option maxHeartbeats 4000000 in
set_option maxRecDepth 100000 in
theorem wX9_aimsOf_4 (C : MCx p s m args meth c A RX9 cX9_aimsOf 4 (some .int) D cs)  {r : Int32} {g' : CS}  : ∀ (n : Nat) (g : CS) (y0 : Nat) (y1 : Int32) (y2 : Int32) (y3 : Int32), okT y0 → fX9_aimsOf_4 P n g y0 y1 y2 y3 = some (r, g') → ∀ (H : Heap) (locs : List Loc) (ls : Array Slot), MH D (SW cs ad al P g) A s H locs → lv_has ls 4 [(0, .ref (ad y0)), (1, .int y1), (2, .int y2), (3, .int y3)] → W p l e (rM 1) s m args below meth c H locs 0 0 (MQ below (GPost D (some (.int r)) (SW cs ad al P g') A) args s 0 0 A) (F0 m 4 ls []) := by
  have hx := C.1
  have hb := C.2.1
  intro n
  induction n with
  | zero =>
    intro g y0 y1 y2 y3 hn_y0 hf
    exact absurd hf (by simp [fX9_aimsOf_4])
  | succ n ih =>
    intro g y0 y1 y2 y3 hn_y0 hf H locs ls h hl
    rw [fX9_aimsOf_4] at hf
    refine lv_iload_n hx hb dX9_aimsOf_4 rfl (lv_at hl 3 rfl) ?_
    refine lv_iload_n hx hb dX9_aimsOf_5 rfl (lv_at hl 1 rfl) ?_
    refine lv_icmp_ge (tgt := 39) hx hb dX9_aimsOf_6 (by decide) (fun hq => ?_) (fun hq => ?_)
    · replace hf := if_t hq hf
      clear hq
      refine lv_iload_n hx hb dX9_aimsOf_39 rfl (lv_at hl 2 rfl) ?_
      obtain ⟨e1, e2⟩ := pr_inj hf
      subst e1 e2
      exact m_iret C h dX9_aimsOf_40
    · replace hf := if_f hq hf
      clear hq
      refine lv_aload_n hx hb dX9_aimsOf_9 rfl (lv_at hl 0 rfl) ?_
      refine lv_iload_n hx hb dX9_aimsOf_10 rfl (lv_at hl 3 rfl) ?_
      replace hf := bndc_some hf
      obtain ⟨x1, g2, hc, hf⟩ := hf
      refine m_callVl [.int y3] C h cv_X9_32 (qX9_get hn_y0 hc) rfl ⟨rfl, rfl⟩ ⟨Nat.le_of_ble_eq_true rfl, Nat.le_of_ble_eq_true rfl⟩ (rv_X9 hn_y0 C h) hl.1 rfl (Nat.le_of_ble_eq_true rfl) ⟨Nat.le_refl _, Nat.le_refl _⟩ dX9_aimsOf_11 (fun H locs h => ?_)
      clear hc
      refine lv_ldc2 hx hb C.2.2.2.1 (C.2.2.2.2.1 _ tb_43_22) dX9_aimsOf_14 ?_
      refine W.lcmp hx hb dX9_aimsOf_17 ?_
      refine lv_if_eq (tgt := 33) hx hb dX9_aimsOf_18 (by decide) (fun hq => ?_) (fun hq => ?_)
      · replace hf := if_t hq hf
        clear hq
        obtain ⟨x3, ex3⟩ : ∃ z : Int32, z = y3 + (1 : Int32) := ⟨_, rfl⟩
        replace hf := bnd_at ex3 hf
        refine lv_iinc (v := x3) (lv' := [(3, .int x3), (0, .ref (ad y0)), (1, .int y1), (2, .int y2)]) hx hb dX9_aimsOf_33 hl (k := 3) rfl (by rw [ex3]; rfl) (by decide) rfl (fun ls hl => ?_)
        clear ex3
        refine lv_goto (tgt := 4) hx hb dX9_aimsOf_36 (by decide) ?_
        exact ih g2 y0 y1 y2 x3 hn_y0 hf H locs ls h (lv_sub hl [1, 2, 3, 0] rfl)
      · replace hf := if_f hq hf
        clear hq
        refine lv_iload_n hx hb dX9_aimsOf_21 rfl (lv_at hl 2 rfl) ?_
        refine lv_iload_n hx hb dX9_aimsOf_22 rfl (lv_at hl 3 rfl) ?_
        refine lv_aload_n hx hb dX9_aimsOf_23 rfl (lv_at hl 0 rfl) ?_
        refine lv_iload_n hx hb dX9_aimsOf_24 rfl (lv_at hl 3 rfl) ?_
        replace hf := bndc_some hf
        obtain ⟨x4, g5, hc, hf⟩ := hf
        refine m_callVl [.int y3] C h cv_X9_32 (qX9_get hn_y0 hc) rfl ⟨rfl, rfl⟩ ⟨Nat.le_of_ble_eq_true rfl, Nat.le_of_ble_eq_true rfl⟩ (rv_X9 hn_y0 C h) hl.1 rfl (Nat.le_of_ble_eq_true rfl) ⟨Nat.le_refl _, Nat.le_refl _⟩ dX9_aimsOf_25 (fun H locs h => ?_)
        clear hc
        refine lv_l2i hx hb dX9_aimsOf_28 rfl ?_
        replace hf := bndv_some hf
        obtain ⟨x6, hc, hf⟩ := hf
        refine m_callSi [.int y2, .int y3, .int x4.toInt32] C h cs_X9_38 (qX1_with hc) rfl ⟨rfl, rfl⟩ ⟨Nat.le_of_ble_eq_true rfl, Nat.le_of_ble_eq_true rfl⟩ hl.1 rfl (Nat.le_of_ble_eq_true rfl) ⟨Nat.le_refl _, Nat.le_refl _⟩ dX9_aimsOf_29 (fun H locs h => ?_)
        clear hc
        refine lv_istore_n (lv' := [(2, .int x6), (0, .ref (ad y0)), (1, .int y1), (3, .int y3)]) hx hb dX9_aimsOf_32 rfl hl (by decide) rfl (fun ls hl => ?_)
        obtain ⟨x7, ex7⟩ : ∃ z : Int32, z = y3 + (1 : Int32) := ⟨_, rfl⟩
        replace hf := bnd_at ex7 hf
        refine lv_iinc (v := x7) (lv' := [(3, .int x7), (2, .int x6), (0, .ref (ad y0)), (1, .int y1)]) hx hb dX9_aimsOf_33 hl (k := 3) rfl (by rw [ex7]; rfl) (by decide) rfl (fun ls hl => ?_)
        clear ex7
        refine lv_goto (tgt := 4) hx hb dX9_aimsOf_36 (by decide) ?_
        exact ih g5 y0 y1 x6 x7 hn_y0 hf H locs ls h (lv_sub hl [2, 3, 1, 0] rfl)

set_option maxHeartbeats 4000000 in
set_option maxRecDepth 100000 in
theorem qX9_aimsOf {l : Launch} {D : va_G} {cs : Nat → ClassId} {ad al : Nat → Nat} {P : PL} {r : Int32} {g' : CS} {g : CS}  {o : Nat} {a0 : Int32} (hn_o : okT o) (hf : fX9_aimsOf P g o a0 = some (r, g')) : GCon l D cs yX9_aimsOf cX9_aimsOf 4 (some .int) (rM 1) 0 0 [.ref (ad o), .int a0] (SW cs ad al P g) (some (.int r)) (SW cs ad al P g') := by
  refine GCon.of (by decide) (Nat.le_of_ble_eq_true rfl) ?_
  intro p e s m args below meth c A ls H locs C h hl
  have hx := C.1
  have hb := C.2.1
  have C : MCx p s m args meth c A RX9 cX9_aimsOf 4 (some .int) D cs := C
  have hl : lv_has ls 4 [(0, .ref (ad o)), (1, .int a0)] := hl
  unfold fX9_aimsOf at hf
  refine lv_iconst (v := (0 : Int32)) hx hb dX9_aimsOf_0 (by decide) ?_
  refine lv_istore_n (lv' := [(2, .int (0 : Int32)), (0, .ref (ad o)), (1, .int a0)]) hx hb dX9_aimsOf_1 rfl hl (by decide) rfl (fun ls hl => ?_)
  refine lv_iconst (v := (0 : Int32)) hx hb dX9_aimsOf_2 (by decide) ?_
  refine lv_istore_n (lv' := [(3, .int (0 : Int32)), (2, .int (0 : Int32)), (0, .ref (ad o)), (1, .int a0)]) hx hb dX9_aimsOf_3 rfl hl (by decide) rfl (fun ls hl => ?_)
  exact wX9_aimsOf_4 (P := P) C fuel g o a0 (0 : Int32) (0 : Int32) hn_o hf H locs ls h (lv_sub hl [2, 3, 1, 0] rfl)

set_option maxHeartbeats 4000000 in
set_option maxRecDepth 100000 in
theorem wX11_append_3 (C : MCx p s m args meth c A RX11 cX11_append 3 none D cs)  {g' : CS}  : ∀ (n : Nat) (g : CS) (y1 : Int32) (y2 : Int32), fX11_append_3 P n g y1 y2 = some g' → ∀ (H : Heap) (locs : List Loc) (ls : Array Slot), MH D (SW cs ad al P g) A s H locs → lv_has ls 3 [(0, .ref (ad 0)), (1, .int y1), (2, .int y2)] → W p l e (rM 0) s m args below meth c H locs 0 0 (MQ below (GPost D none (SW cs ad al P g') A) args s 0 0 A) (F0 m 3 ls []) := by
  have hx := C.1
  have hb := C.2.1
  intro n
  induction n with
  | zero =>
    intro g y1 y2 hf
    exact absurd hf (by simp [fX11_append_3])
  | succ n ih =>
    intro g y1 y2 hf H locs ls h hl
    rw [fX11_append_3] at hf
    refine lv_iload_n hx hb dX11_append_3 rfl (lv_at hl 2 rfl) ?_
    refine lv_if_lt (tgt := 46) hx hb dX11_append_4 (by decide) (fun hq => ?_) (fun hq => ?_)
    · replace hf := if_t hq hf
      clear hq
      have e1 := Option.some.inj hf
      subst e1
      exact m_vret C h dX11_append_46
    · replace hf := if_f hq hf
      clear hq
      refine lv_aload_n hx hb dX11_append_7 rfl (lv_at hl 0 rfl) ?_
      refine xg_X11 1 C h (by decide) tb_8_8 rfl rfl dX11_append_8 ?_
      refine lv_sipush (v := (900 : Int32)) hx hb dX11_append_11 (by decide) ?_
      refine lv_icmp_ge (tgt := 46) hx hb dX11_append_14 (by decide) (fun hq => ?_) (fun hq => ?_)
      · replace hf := if_t hq hf
        clear hq
        have e1 := Option.some.inj hf
        subst e1
        exact m_vret C h dX11_append_46
      · replace hf := if_f hq hf
        clear hq
        refine lv_aload_n hx hb dX11_append_17 rfl (lv_at hl 0 rfl) ?_
        refine xg_X11 0 C h (by decide) tb_1_15 rfl rfl dX11_append_18 ?_
        refine lv_aload_n hx hb dX11_append_21 rfl (lv_at hl 0 rfl) ?_
        refine xg_X11 1 C h (by decide) tb_8_8 rfl rfl dX11_append_22 ?_
        refine lv_iload_n hx hb dX11_append_25 rfl (lv_at hl 1 rfl) ?_
        refine lv_iload_n hx hb dX11_append_26 rfl (lv_at hl 2 rfl) ?_
        refine x_iushr hx hb dX11_append_27 ?_
        refine lv_i2b hx hb dX11_append_28 rfl ?_
        replace hf := chk_some hf
        obtain ⟨hq, hf⟩ := hf
        replace hf := chk_some hf
        obtain ⟨hz, hf⟩ := hf
        replace hf := bnd_ex hf
        obtain ⟨g1, eg1, hf⟩ := hf
        refine ys_1 C h hq hz dX11_append_29 (fun H locs h => ?_)
        rw [← eg1] at h
        clear hq hz eg1
        refine lv_aload_n hx hb dX11_append_30 rfl (lv_at hl 0 rfl) ?_
        refine lv_dup hx hb dX11_append_31 rfl ?_
        refine xg_X11 1 C h (by decide) tb_8_8 rfl rfl dX11_append_32 ?_
        refine lv_iconst (v := (1 : Int32)) hx hb dX11_append_35 (by decide) ?_
        refine lv_iadd hx hb dX11_append_36 ?_
        replace hf := bnd_ex hf
        obtain ⟨g2, eg2, hf⟩ := hf
        refine xp_X11_1 C h tb_8_8 dX11_append_37 (fun H locs h => ?_)
        rw [← eg2] at h
        clear eg2
        obtain ⟨x3, ex3⟩ : ∃ z : Int32, z = y2 + (-8 : Int32) := ⟨_, rfl⟩
        replace hf := bnd_at ex3 hf
        refine lv_iinc (v := x3) (lv' := [(2, .int x3), (0, .ref (ad 0)), (1, .int y1)]) hx hb dX11_append_40 hl (k := 2) rfl (by rw [ex3]; rfl) (by decide) rfl (fun ls hl => ?_)
        clear ex3
        refine lv_goto (tgt := 3) hx hb dX11_append_43 (by decide) ?_
        exact ih g2 y1 x3 hf H locs ls h (lv_sub hl [1, 2, 0] rfl)

set_option maxHeartbeats 4000000 in
set_option maxRecDepth 100000 in
theorem qX11_append {l : Launch} {D : va_G} {cs : Nat → ClassId} {ad al : Nat → Nat} {P : PL} {g' : CS} {g : CS}  {a0 : Int32} (hf : fX11_append P g a0 = some g') : GCon l D cs yX11_append cX11_append 3 none (rM 0) 0 0 [.ref (ad 0), .int a0] (SW cs ad al P g) none (SW cs ad al P g') := by
  refine GCon.of (by decide) (Nat.le_of_ble_eq_true rfl) ?_
  intro p e s m args below meth c A ls H locs C h hl
  have hx := C.1
  have hb := C.2.1
  have C : MCx p s m args meth c A RX11 cX11_append 3 none D cs := C
  have hl : lv_has ls 3 [(0, .ref (ad 0)), (1, .int a0)] := hl
  unfold fX11_append at hf
  refine lv_bipush (v := (24 : Int32)) hx hb dX11_append_0 (by decide) ?_
  refine lv_istore_n (lv' := [(2, .int (24 : Int32)), (0, .ref (ad 0)), (1, .int a0)]) hx hb dX11_append_2 rfl hl (by decide) rfl (fun ls hl => ?_)
  exact wX11_append_3 (P := P) C fuel g a0 (24 : Int32) hf H locs ls h (lv_sub hl [1, 2, 0] rfl)

set_option maxHeartbeats 4000000 in
set_option maxRecDepth 100000 in
theorem qX11_feed {l : Launch} {D : va_G} {cs : Nat → ClassId} {ad al : Nat → Nat} {P : PL} {r : Int32} {g' : CS} {g : CS}  {a0 : Int32} {a1 : Int32} {a2 : Int32} {a3 : Int32} {a4 : Int32} (hf : fX11_feed P g a0 a1 a2 a3 a4 = some (r, g')) : GCon l D cs yX11_feed cX11_feed 6 (some .int) (rM 1) 0 0 [.ref (ad 0), .int a0, .int a1, .int a2, .int a3, .int a4] (SW cs ad al P g) (some (.int r)) (SW cs ad al P g') := by
  refine GCon.of (by decide) (Nat.le_of_ble_eq_true rfl) ?_
  intro p e s m args below meth c A ls H locs C h hl
  have hx := C.1
  have hb := C.2.1
  have C : MCx p s m args meth c A RX11 cX11_feed 6 (some .int) D cs := C
  have hl : lv_has ls 6 [(0, .ref (ad 0)), (1, .int a0), (2, .int a1), (3, .int a2), (4, .int a3), (5, .int a4)] := hl
  unfold fX11_feed at hf
  refine lv_aload_n hx hb dX11_feed_0 rfl (lv_at hl 0 rfl) ?_
  refine xg_X11 1 C h (by decide) tb_8_8 rfl rfl dX11_feed_1 ?_
  refine lv_bipush (v := (20 : Int32)) hx hb dX11_feed_4 (by decide) ?_
  refine lv_iadd hx hb dX11_feed_6 ?_
  refine lv_sipush (v := (900 : Int32)) hx hb dX11_feed_7 (by decide) ?_
  refine lv_icmp_le (tgt := 15) hx hb dX11_feed_10 (by decide) (fun hq => ?_) (fun hq => ?_)
  · replace hf := if_t hq hf
    clear hq
    refine lv_aload_n hx hb dX11_feed_15 rfl (lv_at hl 0 rfl) ?_
    refine lv_iload_n hx hb dX11_feed_16 rfl (lv_at hl 1 rfl) ?_
    replace hf := bndv_some hf
    obtain ⟨g1, hc, hf⟩ := hf
    refine m_callVv [.int a0] C h cv_X11_83 (qX11_append hc) rfl ⟨rfl, rfl⟩ ⟨Nat.le_of_ble_eq_true rfl, Nat.le_of_ble_eq_true rfl⟩ (rv_X11 C h) hl.1 rfl (Nat.le_of_ble_eq_true rfl) ⟨Nat.le_refl _, Nat.le_refl _⟩ dX11_feed_17 (fun H locs h => ?_)
    clear hc
    refine lv_aload_n hx hb dX11_feed_20 rfl (lv_at hl 0 rfl) ?_
    refine lv_iload_n hx hb dX11_feed_21 rfl (lv_at hl 2 rfl) ?_
    replace hf := bndv_some hf
    obtain ⟨g2, hc, hf⟩ := hf
    refine m_callVv [.int a1] C h cv_X11_83 (qX11_append hc) rfl ⟨rfl, rfl⟩ ⟨Nat.le_of_ble_eq_true rfl, Nat.le_of_ble_eq_true rfl⟩ (rv_X11 C h) hl.1 rfl (Nat.le_of_ble_eq_true rfl) ⟨Nat.le_refl _, Nat.le_refl _⟩ dX11_feed_22 (fun H locs h => ?_)
    clear hc
    refine lv_aload_n hx hb dX11_feed_25 rfl (lv_at hl 0 rfl) ?_
    refine lv_iload_n hx hb dX11_feed_26 rfl (lv_at hl 3 rfl) ?_
    replace hf := bndv_some hf
    obtain ⟨g3, hc, hf⟩ := hf
    refine m_callVv [.int a2] C h cv_X11_83 (qX11_append hc) rfl ⟨rfl, rfl⟩ ⟨Nat.le_of_ble_eq_true rfl, Nat.le_of_ble_eq_true rfl⟩ (rv_X11 C h) hl.1 rfl (Nat.le_of_ble_eq_true rfl) ⟨Nat.le_refl _, Nat.le_refl _⟩ dX11_feed_27 (fun H locs h => ?_)
    clear hc
    refine lv_aload_n hx hb dX11_feed_30 rfl (lv_at hl 0 rfl) ?_
    refine lv_iload hx hb dX11_feed_31 (lv_at hl 4 rfl) ?_
    replace hf := bndv_some hf
    obtain ⟨g4, hc, hf⟩ := hf
    refine m_callVv [.int a3] C h cv_X11_83 (qX11_append hc) rfl ⟨rfl, rfl⟩ ⟨Nat.le_of_ble_eq_true rfl, Nat.le_of_ble_eq_true rfl⟩ (rv_X11 C h) hl.1 rfl (Nat.le_of_ble_eq_true rfl) ⟨Nat.le_refl _, Nat.le_refl _⟩ dX11_feed_33 (fun H locs h => ?_)
    clear hc
    refine lv_aload_n hx hb dX11_feed_36 rfl (lv_at hl 0 rfl) ?_
    refine lv_iload hx hb dX11_feed_37 (lv_at hl 5 rfl) ?_
    replace hf := bndv_some hf
    obtain ⟨g5, hc, hf⟩ := hf
    refine m_callVv [.int a4] C h cv_X11_83 (qX11_append hc) rfl ⟨rfl, rfl⟩ ⟨Nat.le_of_ble_eq_true rfl, Nat.le_of_ble_eq_true rfl⟩ (rv_X11 C h) hl.1 rfl (Nat.le_of_ble_eq_true rfl) ⟨Nat.le_refl _, Nat.le_refl _⟩ dX11_feed_39 (fun H locs h => ?_)
    clear hc
    refine lv_aload_n hx hb dX11_feed_42 rfl (lv_at hl 0 rfl) ?_
    refine xg_X11 1 C h (by decide) tb_8_8 rfl rfl dX11_feed_43 ?_
    obtain ⟨e1, e2⟩ := pr_inj hf
    subst e1 e2
    exact m_iret C h dX11_feed_46
  · replace hf := if_f hq hf
    clear hq
    refine lv_iconst (v := (-1 : Int32)) hx hb dX11_feed_13 (by decide) ?_
    obtain ⟨e1, e2⟩ := pr_inj hf
    subst e1 e2
    exact m_iret C h dX11_feed_14

set_option maxHeartbeats 4000000 in
set_option maxRecDepth 100000 in
theorem qX11_fault {l : Launch} {D : va_G} {cs : Nat → ClassId} {ad al : Nat → Nat} {P : PL} {r : Int32} {g' : CS} {g : CS}  {a0 : Int32} (hf : fX11_fault P g a0 = some (r, g')) : GCon l D cs yX11_fault cX11_fault 2 (some .int) (rM 0) 0 0 [.ref (ad 0), .int a0] (SW cs ad al P g) (some (.int r)) (SW cs ad al P g') := by
  refine GCon.of (by decide) (Nat.le_of_ble_eq_true rfl) ?_
  intro p e s m args below meth c A ls H locs C h hl
  have hx := C.1
  have hb := C.2.1
  have C : MCx p s m args meth c A RX11 cX11_fault 2 (some .int) D cs := C
  have hl : lv_has ls 2 [(0, .ref (ad 0)), (1, .int a0)] := hl
  unfold fX11_fault at hf
  refine lv_iload_n hx hb dX11_fault_0 rfl (lv_at hl 1 rfl) ?_
  refine lv_if_ne (tgt := 9) hx hb dX11_fault_1 (by decide) (fun hq => ?_) (fun hq => ?_)
  · replace hf := if_tn hq hf
    clear hq
    refine lv_iload_n hx hb dX11_fault_9 rfl (lv_at hl 1 rfl) ?_
    refine lv_iconst (v := (1 : Int32)) hx hb dX11_fault_10 (by decide) ?_
    refine lv_icmp_ne (tgt := 21) hx hb dX11_fault_11 (by decide) (fun hq => ?_) (fun hq => ?_)
    · replace hf := if_tn hq hf
      clear hq
      refine lv_iconst (v := (-1 : Int32)) hx hb dX11_fault_21 (by decide) ?_
      obtain ⟨e1, e2⟩ := pr_inj hf
      subst e1 e2
      exact m_iret C h dX11_fault_22
    · replace hf := if_t hq hf
      clear hq
      refine lv_aload_n hx hb dX11_fault_14 rfl (lv_at hl 0 rfl) ?_
      refine xg_X11 3 C h (by decide) tb_1_16 rfl rfl dX11_fault_15 ?_
      refine lv_goto (tgt := 22) hx hb dX11_fault_18 (by decide) ?_
      obtain ⟨e1, e2⟩ := pr_inj hf
      subst e1 e2
      exact m_iret C h dX11_fault_22
  · replace hf := if_t hq hf
    clear hq
    refine lv_aload_n hx hb dX11_fault_4 rfl (lv_at hl 0 rfl) ?_
    refine xg_X11 2 C h (by decide) tb_9_7 rfl rfl dX11_fault_5 ?_
    obtain ⟨e1, e2⟩ := pr_inj hf
    subst e1 e2
    exact m_iret C h dX11_fault_8

set_option maxHeartbeats 4000000 in
set_option maxRecDepth 100000 in
theorem qX11_needMember {l : Launch} {D : va_G} {cs : Nat → ClassId} {ad al : Nat → Nat} {P : PL} {r : Unit} {g' : CS} {g : CS}  {a0 : Int32} (hf : fX11_needMember P g a0 = some (Sum.inr r, g')) : GCon l D cs yX11_needMember cX11_needMember 2 none (rM 1) 0 0 [.ref (ad 0), .int a0] (SW cs ad al P g) none (SW cs ad al P g') := by
  refine GCon.of (by decide) (Nat.le_of_ble_eq_true rfl) ?_
  intro p e s m args below meth c A ls H locs C h hl
  have hx := C.1
  have hb := C.2.1
  have C : MCx p s m args meth c A RX11 cX11_needMember 2 none D cs := C
  have hl : lv_has ls 2 [(0, .ref (ad 0)), (1, .int a0)] := hl
  unfold fX11_needMember at hf
  refine lv_aload_n hx hb dX11_needMember_0 rfl (lv_at hl 0 rfl) ?_
  refine xg_X11 5 C h (by decide) tb_2_3 rfl rfl dX11_needMember_1 ?_
  refine lv_iload_n hx hb dX11_needMember_4 rfl (lv_at hl 1 rfl) ?_
  replace hf := bndc_some hf
  obtain ⟨x1, g2, hc, hf⟩ := hf
  refine m_callVi [.int a0] C h cv_X11_162 (qX6_has (by simp [okS, okT, ok6]) hc) rfl ⟨rfl, rfl⟩ ⟨Nat.le_of_ble_eq_true rfl, Nat.le_of_ble_eq_true rfl⟩ (rv_X6 (by simp [okS, okT, ok6]) C h) hl.1 rfl (Nat.le_of_ble_eq_true rfl) ⟨Nat.le_refl _, Nat.le_refl _⟩ dX11_needMember_5 (fun H locs h => ?_)
  clear hc
  refine lv_if_ne (tgt := 22) hx hb dX11_needMember_8 (by decide) (fun hq => ?_) (fun hq => ?_)
  · replace hf := if_tn hq hf
    clear hq
    obtain ⟨e1, e2⟩ := xr_inj hf
    subst e1 e2
    exact m_vret C h dX11_needMember_22
  · replace hf := if_t hq hf
    clear hq
    exact (xl_r hf).elim

set_option maxHeartbeats 4000000 in
set_option maxRecDepth 100000 in
theorem qX11_member {l : Launch} {D : va_G} {cs : Nat → ClassId} {ad al : Nat → Nat} {P : PL} {r : Int32} {g' : CS} {g : CS}  {a0 : Int32} {a1 : Int32} (hf : fX11_member P g a0 a1 = some (Sum.inr r, g')) : GCon l D cs yX11_member cX11_member 3 (some .int) (rM 3) 0 0 [.ref (ad 0), .int a0, .int a1] (SW cs ad al P g) (some (.int r)) (SW cs ad al P g') := by
  refine GCon.of (by decide) (Nat.le_of_ble_eq_true rfl) ?_
  intro p e s m args below meth c A ls H locs C h hl
  have hx := C.1
  have hb := C.2.1
  have C : MCx p s m args meth c A RX11 cX11_member 3 (some .int) D cs := C
  have hl : lv_has ls 3 [(0, .ref (ad 0)), (1, .int a0), (2, .int a1)] := hl
  unfold fX11_member at hf
  refine lv_aload_n hx hb dX11_member_0 rfl (lv_at hl 0 rfl) ?_
  refine lv_iload_n hx hb dX11_member_1 rfl (lv_at hl 1 rfl) ?_
  replace hf := bndx_r hf
  obtain ⟨x1, g2, hc, hf⟩ := hf
  refine m_callVv [.int a0] C h cv_X11_113 (qX11_needMember hc) rfl ⟨rfl, rfl⟩ ⟨Nat.le_of_ble_eq_true rfl, Nat.le_of_ble_eq_true rfl⟩ (rv_X11 C h) hl.1 rfl (Nat.le_of_ble_eq_true rfl) ⟨Nat.le_refl _, Nat.le_refl _⟩ dX11_member_2 (fun H locs h => ?_)
  clear hc
  refine lv_iload_n hx hb dX11_member_5 rfl (lv_at hl 2 rfl) ?_
  rcases Decidable.em (a1 = (0 : Int32)) with hq | q0
  · replace hf := if_t hq hf
    subst hq
    refine lv_tableIn (off := 38) (tgt := 44) hx hb dX11_member_6 (by decide) (by decide) (by decide) (by decide) ?_
    refine lv_aload_n hx hb dX11_member_44 rfl (lv_at hl 0 rfl) ?_
    refine xg_X11 5 C h (by decide) tb_2_3 rfl rfl dX11_member_45 ?_
    refine xg_X6 3 (by simp [okS, okT, ok6]) C h (by decide) tb_25_18 rfl rfl dX11_member_48 ?_
    refine lv_iload_n hx hb dX11_member_51 rfl (lv_at hl 1 rfl) ?_
    replace hf := bndv_some hf
    obtain ⟨x4, hc, hf⟩ := hf
    refine m_callSi [.int (g2.1 30 3), .int a0] C h cs_X11_119 (qX1_at hc) rfl ⟨rfl, rfl⟩ ⟨Nat.le_of_ble_eq_true rfl, Nat.le_of_ble_eq_true rfl⟩ hl.1 rfl (Nat.le_of_ble_eq_true rfl) ⟨Nat.le_refl _, Nat.le_refl _⟩ dX11_member_52 (fun H locs h => ?_)
    clear hc
    obtain ⟨e1, e2⟩ := xr_inj hf
    subst e1 e2
    exact m_iret C h dX11_member_55
  replace hf := if_f q0 hf
  rcases Decidable.em (a1 = (1 : Int32)) with hq | q1
  · replace hf := if_t hq hf
    subst hq
    refine lv_tableIn (off := 50) (tgt := 56) hx hb dX11_member_6 (by decide) (by decide) (by decide) (by decide) ?_
    refine lv_aload_n hx hb dX11_member_56 rfl (lv_at hl 0 rfl) ?_
    refine xg_X11 5 C h (by decide) tb_2_3 rfl rfl dX11_member_57 ?_
    refine lv_iload_n hx hb dX11_member_60 rfl (lv_at hl 1 rfl) ?_
    replace hf := bndc_some hf
    obtain ⟨x7, g8, hc, hf⟩ := hf
    refine m_callVi [.int a0] C h cv_X11_125 (qX6_faced (by simp [okS, okT, ok6]) hc) rfl ⟨rfl, rfl⟩ ⟨Nat.le_of_ble_eq_true rfl, Nat.le_of_ble_eq_true rfl⟩ (rv_X6 (by simp [okS, okT, ok6]) C h) hl.1 rfl (Nat.le_of_ble_eq_true rfl) ⟨Nat.le_refl _, Nat.le_refl _⟩ dX11_member_61 (fun H locs h => ?_)
    clear hc
    obtain ⟨e1, e2⟩ := xr_inj hf
    subst e1 e2
    exact m_iret C h dX11_member_64
  replace hf := if_f q1 hf
  rcases Decidable.em (a1 = (2 : Int32)) with hq | q2
  · replace hf := if_t hq hf
    subst hq
    refine lv_tableIn (off := 59) (tgt := 65) hx hb dX11_member_6 (by decide) (by decide) (by decide) (by decide) ?_
    refine lv_aload_n hx hb dX11_member_65 rfl (lv_at hl 0 rfl) ?_
    refine xg_X11 5 C h (by decide) tb_2_3 rfl rfl dX11_member_66 ?_
    refine xg_X6 4 (by simp [okS, okT, ok6]) C h (by decide) tb_25_19 rfl rfl dX11_member_69 ?_
    refine lv_iload_n hx hb dX11_member_72 rfl (lv_at hl 1 rfl) ?_
    replace hf := bndv_some hf
    obtain ⟨x10, hc, hf⟩ := hf
    refine m_callSi [.int (g2.1 30 4), .int a0] C h cs_X11_119 (qX1_at hc) rfl ⟨rfl, rfl⟩ ⟨Nat.le_of_ble_eq_true rfl, Nat.le_of_ble_eq_true rfl⟩ hl.1 rfl (Nat.le_of_ble_eq_true rfl) ⟨Nat.le_refl _, Nat.le_refl _⟩ dX11_member_73 (fun H locs h => ?_)
    clear hc
    obtain ⟨e1, e2⟩ := xr_inj hf
    subst e1 e2
    exact m_iret C h dX11_member_76
  replace hf := if_f q2 hf
  rcases Decidable.em (a1 = (3 : Int32)) with hq | q3
  · replace hf := if_t hq hf
    subst hq
    refine lv_tableIn (off := 71) (tgt := 77) hx hb dX11_member_6 (by decide) (by decide) (by decide) (by decide) ?_
    refine lv_aload_n hx hb dX11_member_77 rfl (lv_at hl 0 rfl) ?_
    refine xg_X11 5 C h (by decide) tb_2_3 rfl rfl dX11_member_78 ?_
    refine lv_aload_n hx hb dX11_member_81 rfl (lv_at hl 0 rfl) ?_
    refine xg_X11 5 C h (by decide) tb_2_3 rfl rfl dX11_member_82 ?_
    refine xg_X6 3 (by simp [okS, okT, ok6]) C h (by decide) tb_25_18 rfl rfl dX11_member_85 ?_
    replace hf := bndc_some hf
    obtain ⟨x14, g15, hc, hf⟩ := hf
    refine m_callVl [.int (g2.1 30 3)] C h cv_X11_132 (qX6_votesIn (by simp [okS, okT, ok6]) hc) rfl ⟨rfl, rfl⟩ ⟨Nat.le_of_ble_eq_true rfl, Nat.le_of_ble_eq_true rfl⟩ (rv_X6 (by simp [okS, okT, ok6]) C h) hl.1 rfl (Nat.le_of_ble_eq_true rfl) ⟨Nat.le_refl _, Nat.le_refl _⟩ dX11_member_88 (fun H locs h => ?_)
    clear hc
    refine lv_iload_n hx hb dX11_member_91 rfl (lv_at hl 1 rfl) ?_
    replace hf := bndv_some hf
    obtain ⟨x16, hc, hf⟩ := hf
    refine m_callSi [.long x14, .int a0] C h cs_X11_136 (qX1_votesAt hc) rfl ⟨rfl, rfl⟩ ⟨Nat.le_of_ble_eq_true rfl, Nat.le_of_ble_eq_true rfl⟩ hl.1 rfl (Nat.le_of_ble_eq_true rfl) ⟨Nat.le_refl _, Nat.le_refl _⟩ dX11_member_92 (fun H locs h => ?_)
    clear hc
    obtain ⟨e1, e2⟩ := xr_inj hf
    subst e1 e2
    exact m_iret C h dX11_member_95
  replace hf := if_f q3 hf
  rcases Decidable.em (a1 = (4 : Int32)) with hq | q4
  · replace hf := if_t hq hf
    subst hq
    refine lv_tableIn (off := 90) (tgt := 96) hx hb dX11_member_6 (by decide) (by decide) (by decide) (by decide) ?_
    refine lv_aload_n hx hb dX11_member_96 rfl (lv_at hl 0 rfl) ?_
    refine xg_X11 5 C h (by decide) tb_2_3 rfl rfl dX11_member_97 ?_
    refine lv_iload_n hx hb dX11_member_100 rfl (lv_at hl 1 rfl) ?_
    replace hf := bndc_some hf
    obtain ⟨x19, g20, hc, hf⟩ := hf
    refine m_callVi [.int a0] C h cv_X11_140 (qX6_isStuck (by simp [okS, okT, ok6]) hc) rfl ⟨rfl, rfl⟩ ⟨Nat.le_of_ble_eq_true rfl, Nat.le_of_ble_eq_true rfl⟩ (rv_X6 (by simp [okS, okT, ok6]) C h) hl.1 rfl (Nat.le_of_ble_eq_true rfl) ⟨Nat.le_refl _, Nat.le_refl _⟩ dX11_member_101 (fun H locs h => ?_)
    clear hc
    refine lv_if_eq (tgt := 111) hx hb dX11_member_104 (by decide) (fun hq => ?_) (fun hq => ?_)
    · replace hf := if_t hq hf
      clear hq
      refine lv_iconst (v := (0 : Int32)) hx hb dX11_member_111 (by decide) ?_
      obtain ⟨e1, e2⟩ := xr_inj hf
      subst e1 e2
      exact m_iret C h dX11_member_112
    · replace hf := if_f hq hf
      clear hq
      refine lv_iconst (v := (1 : Int32)) hx hb dX11_member_107 (by decide) ?_
      refine lv_goto (tgt := 112) hx hb dX11_member_108 (by decide) ?_
      obtain ⟨e1, e2⟩ := xr_inj hf
      subst e1 e2
      exact m_iret C h dX11_member_112
  replace hf := if_f q4 hf
  rcases Decidable.em (a1 = (5 : Int32)) with hq | q5
  · replace hf := if_t hq hf
    subst hq
    refine lv_tableIn (off := 107) (tgt := 113) hx hb dX11_member_6 (by decide) (by decide) (by decide) (by decide) ?_
    refine lv_aload_n hx hb dX11_member_113 rfl (lv_at hl 0 rfl) ?_
    refine xg_X11 5 C h (by decide) tb_2_3 rfl rfl dX11_member_114 ?_
    refine lv_iload_n hx hb dX11_member_117 rfl (lv_at hl 1 rfl) ?_
    replace hf := bndc_some hf
    obtain ⟨x23, g24, hc, hf⟩ := hf
    refine m_callVi [.int a0] C h cv_X11_144 (qX6_price (by simp [okS, okT, ok6]) hc) rfl ⟨rfl, rfl⟩ ⟨Nat.le_of_ble_eq_true rfl, Nat.le_of_ble_eq_true rfl⟩ (rv_X6 (by simp [okS, okT, ok6]) C h) hl.1 rfl (Nat.le_of_ble_eq_true rfl) ⟨Nat.le_refl _, Nat.le_refl _⟩ dX11_member_118 (fun H locs h => ?_)
    clear hc
    obtain ⟨e1, e2⟩ := xr_inj hf
    subst e1 e2
    exact m_iret C h dX11_member_121
  replace hf := if_f q5 hf
  refine lv_tableOut (tgt := 122) hx hb dX11_member_6 (by
      have z0 := i32_ne q0
      have z1 := i32_ne q1
      have z2 := i32_ne q2
      have z3 := i32_ne q3
      have z4 := i32_ne q4
      have z5 := i32_ne q5
      simp only [i32v_0, i32v_1, i32v_2, i32v_3, i32v_4, i32v_5] at z0 z1 z2 z3 z4 z5
      omega) (by decide) ?_
  exact (xl_r hf).elim

set_option maxHeartbeats 4000000 in
set_option maxRecDepth 100000 in
theorem qX11_chair {l : Launch} {D : va_G} {cs : Nat → ClassId} {ad al : Nat → Nat} {P : PL} {r : Int32} {g' : CS} {g : CS}  (hf : fX11_chair P g = some (r, g')) : GCon l D cs yX11_chair cX11_chair 1 (some .int) (rM 2) 0 0 [.ref (ad 0)] (SW cs ad al P g) (some (.int r)) (SW cs ad al P g') := by
  refine GCon.of (by decide) (Nat.le_of_ble_eq_true rfl) ?_
  intro p e s m args below meth c A ls H locs C h hl
  have hx := C.1
  have hb := C.2.1
  have C : MCx p s m args meth c A RX11 cX11_chair 1 (some .int) D cs := C
  have hl : lv_has ls 1 [(0, .ref (ad 0))] := hl
  unfold fX11_chair at hf
  refine lv_aload_n hx hb dX11_chair_0 rfl (lv_at hl 0 rfl) ?_
  refine xg_X11 5 C h (by decide) tb_2_3 rfl rfl dX11_chair_1 ?_
  refine lv_aload_n hx hb dX11_chair_4 rfl (lv_at hl 0 rfl) ?_
  refine xg_X11 5 C h (by decide) tb_2_3 rfl rfl dX11_chair_5 ?_
  refine xg_X6 3 (by simp [okS, okT, ok6]) C h (by decide) tb_25_18 rfl rfl dX11_chair_8 ?_
  replace hf := bndc_some hf
  obtain ⟨x1, g2, hc, hf⟩ := hf
  refine m_callVi [.int (g.1 30 3)] C h cv_X11_149 (qX6_chairOf (by simp [okS, okT, ok6]) hc) rfl ⟨rfl, rfl⟩ ⟨Nat.le_of_ble_eq_true rfl, Nat.le_of_ble_eq_true rfl⟩ (rv_X6 (by simp [okS, okT, ok6]) C h) hl.1 rfl (Nat.le_of_ble_eq_true rfl) ⟨Nat.le_refl _, Nat.le_refl _⟩ dX11_chair_11 (fun H locs h => ?_)
  clear hc
  obtain ⟨e1, e2⟩ := pr_inj hf
  subst e1 e2
  exact m_iret C h dX11_chair_14

set_option maxHeartbeats 4000000 in
set_option maxRecDepth 100000 in
theorem qX11_drags {l : Launch} {D : va_G} {cs : Nat → ClassId} {ad al : Nat → Nat} {P : PL} {r : Int32} {g' : CS} {g : CS}  {a0 : Int32} (hf : fX11_drags P g a0 = some (Sum.inr r, g')) : GCon l D cs yX11_drags cX11_drags 2 (some .int) (rM 4) 0 0 [.ref (ad 0), .int a0] (SW cs ad al P g) (some (.int r)) (SW cs ad al P g') := by
  refine GCon.of (by decide) (Nat.le_of_ble_eq_true rfl) ?_
  intro p e s m args below meth c A ls H locs C h hl
  have hx := C.1
  have hb := C.2.1
  have C : MCx p s m args meth c A RX11 cX11_drags 2 (some .int) D cs := C
  have hl : lv_has ls 2 [(0, .ref (ad 0)), (1, .int a0)] := hl
  unfold fX11_drags at hf
  refine lv_aload_n hx hb dX11_drags_0 rfl (lv_at hl 0 rfl) ?_
  refine lv_iload_n hx hb dX11_drags_1 rfl (lv_at hl 1 rfl) ?_
  replace hf := bndx_r hf
  obtain ⟨x1, g2, hc, hf⟩ := hf
  refine m_callVv [.int a0] C h cv_X11_113 (qX11_needMember hc) rfl ⟨rfl, rfl⟩ ⟨Nat.le_of_ble_eq_true rfl, Nat.le_of_ble_eq_true rfl⟩ (rv_X11 C h) hl.1 rfl (Nat.le_of_ble_eq_true rfl) ⟨Nat.le_refl _, Nat.le_refl _⟩ dX11_drags_2 (fun H locs h => ?_)
  clear hc
  refine lv_aload_n hx hb dX11_drags_5 rfl (lv_at hl 0 rfl) ?_
  refine xg_X11 5 C h (by decide) tb_2_3 rfl rfl dX11_drags_6 ?_
  refine lv_iload_n hx hb dX11_drags_9 rfl (lv_at hl 1 rfl) ?_
  replace hf := bndc_some hf
  obtain ⟨x3, g4, hc, hf⟩ := hf
  refine m_callVi [.int a0] C h cv_X11_152 (qX6_turningWith (by simp [okS, okT, ok6]) hc) rfl ⟨rfl, rfl⟩ ⟨Nat.le_of_ble_eq_true rfl, Nat.le_of_ble_eq_true rfl⟩ (rv_X6 (by simp [okS, okT, ok6]) C h) hl.1 rfl (Nat.le_of_ble_eq_true rfl) ⟨Nat.le_refl _, Nat.le_refl _⟩ dX11_drags_10 (fun H locs h => ?_)
  clear hc
  obtain ⟨e1, e2⟩ := xr_inj hf
  subst e1 e2
  exact m_iret C h dX11_drags_13

set_option maxHeartbeats 4000000 in
set_option maxRecDepth 100000 in
theorem qX11_goes {l : Launch} {D : va_G} {cs : Nat → ClassId} {ad al : Nat → Nat} {P : PL} {r : Int32} {g' : CS} {g : CS}  {a0 : Int32} (hf : fX11_goes P g a0 = some (Sum.inr r, g')) : GCon l D cs yX11_goes cX11_goes 3 (some .int) (rM 3) 0 0 [.ref (ad 0), .int a0] (SW cs ad al P g) (some (.int r)) (SW cs ad al P g') := by
  refine GCon.of (by decide) (Nat.le_of_ble_eq_true rfl) ?_
  intro p e s m args below meth c A ls H locs C h hl
  have hx := C.1
  have hb := C.2.1
  have C : MCx p s m args meth c A RX11 cX11_goes 3 (some .int) D cs := C
  have hl : lv_has ls 3 [(0, .ref (ad 0)), (1, .int a0)] := hl
  unfold fX11_goes at hf
  refine lv_aload_n hx hb dX11_goes_0 rfl (lv_at hl 0 rfl) ?_
  refine lv_iload_n hx hb dX11_goes_1 rfl (lv_at hl 1 rfl) ?_
  replace hf := bndx_r hf
  obtain ⟨x1, g2, hc, hf⟩ := hf
  refine m_callVv [.int a0] C h cv_X11_113 (qX11_needMember hc) rfl ⟨rfl, rfl⟩ ⟨Nat.le_of_ble_eq_true rfl, Nat.le_of_ble_eq_true rfl⟩ (rv_X11 C h) hl.1 rfl (Nat.le_of_ble_eq_true rfl) ⟨Nat.le_refl _, Nat.le_refl _⟩ dX11_goes_2 (fun H locs h => ?_)
  clear hc
  refine lv_aload_n hx hb dX11_goes_5 rfl (lv_at hl 0 rfl) ?_
  refine xg_X11 5 C h (by decide) tb_2_3 rfl rfl dX11_goes_6 ?_
  refine lv_iload_n hx hb dX11_goes_9 rfl (lv_at hl 1 rfl) ?_
  replace hf := bndc_some hf
  obtain ⟨x3, g4, hc, hf⟩ := hf
  refine m_callVi [.int a0] C h cv_X11_140 (qX6_isStuck (by simp [okS, okT, ok6]) hc) rfl ⟨rfl, rfl⟩ ⟨Nat.le_of_ble_eq_true rfl, Nat.le_of_ble_eq_true rfl⟩ (rv_X6 (by simp [okS, okT, ok6]) C h) hl.1 rfl (Nat.le_of_ble_eq_true rfl) ⟨Nat.le_refl _, Nat.le_refl _⟩ dX11_goes_10 (fun H locs h => ?_)
  clear hc
  refine lv_if_eq (tgt := 18) hx hb dX11_goes_13 (by decide) (fun hq => ?_) (fun hq => ?_)
  · replace hf := if_t hq hf
    clear hq
    refine lv_aload_n hx hb dX11_goes_18 rfl (lv_at hl 0 rfl) ?_
    refine xg_X11 5 C h (by decide) tb_2_3 rfl rfl dX11_goes_19 ?_
    refine lv_aload_n hx hb dX11_goes_22 rfl (lv_at hl 0 rfl) ?_
    refine xg_X11 5 C h (by decide) tb_2_3 rfl rfl dX11_goes_23 ?_
    refine xg_X6 3 (by simp [okS, okT, ok6]) C h (by decide) tb_25_18 rfl rfl dX11_goes_26 ?_
    replace hf := bndc_some hf
    obtain ⟨x5, g6, hc, hf⟩ := hf
    refine m_callVl [.int (g4.1 30 3)] C h cv_X11_132 (qX6_votesIn (by simp [okS, okT, ok6]) hc) rfl ⟨rfl, rfl⟩ ⟨Nat.le_of_ble_eq_true rfl, Nat.le_of_ble_eq_true rfl⟩ (rv_X6 (by simp [okS, okT, ok6]) C h) hl.1 rfl (Nat.le_of_ble_eq_true rfl) ⟨Nat.le_refl _, Nat.le_refl _⟩ dX11_goes_29 (fun H locs h => ?_)
    clear hc
    refine lv_iload_n hx hb dX11_goes_32 rfl (lv_at hl 1 rfl) ?_
    replace hf := bndv_some hf
    obtain ⟨x7, hc, hf⟩ := hf
    refine m_callSi [.long x5, .int a0] C h cs_X11_136 (qX1_votesAt hc) rfl ⟨rfl, rfl⟩ ⟨Nat.le_of_ble_eq_true rfl, Nat.le_of_ble_eq_true rfl⟩ hl.1 rfl (Nat.le_of_ble_eq_true rfl) ⟨Nat.le_refl _, Nat.le_refl _⟩ dX11_goes_33 (fun H locs h => ?_)
    clear hc
    refine lv_istore_n (lv' := [(2, .int x7), (0, .ref (ad 0)), (1, .int a0)]) hx hb dX11_goes_36 rfl hl (by decide) rfl (fun ls hl => ?_)
    refine lv_aload_n hx hb dX11_goes_37 rfl (lv_at hl 1 rfl) ?_
    refine xg_X11 5 C h (by decide) tb_2_3 rfl rfl dX11_goes_38 ?_
    refine lv_iload_n hx hb dX11_goes_41 rfl (lv_at hl 2 rfl) ?_
    refine lv_aload_n hx hb dX11_goes_42 rfl (lv_at hl 1 rfl) ?_
    refine xg_X11 5 C h (by decide) tb_2_3 rfl rfl dX11_goes_43 ?_
    refine xg_X6 3 (by simp [okS, okT, ok6]) C h (by decide) tb_25_18 rfl rfl dX11_goes_46 ?_
    refine lv_iload_n hx hb dX11_goes_49 rfl (lv_at hl 2 rfl) ?_
    replace hf := bndv_some hf
    obtain ⟨x8, hc, hf⟩ := hf
    refine m_callSi [.int (g6.1 30 3), .int a0] C h cs_X11_119 (qX1_at hc) rfl ⟨rfl, rfl⟩ ⟨Nat.le_of_ble_eq_true rfl, Nat.le_of_ble_eq_true rfl⟩ hl.1 rfl (Nat.le_of_ble_eq_true rfl) ⟨Nat.le_refl _, Nat.le_refl _⟩ dX11_goes_50 (fun H locs h => ?_)
    clear hc
    refine lv_iload_n hx hb dX11_goes_53 rfl (lv_at hl 0 rfl) ?_
    replace hf := bndc_some hf
    obtain ⟨x9, g10, hc, hf⟩ := hf
    refine m_callVi [.int a0, .int x8, .int x7] C h cv_X11_155 (qX6_pace (by simp [okS, okT, ok6]) hc) rfl ⟨rfl, rfl⟩ ⟨Nat.le_of_ble_eq_true rfl, Nat.le_of_ble_eq_true rfl⟩ (rv_X6 (by simp [okS, okT, ok6]) C h) hl.1 rfl (Nat.le_of_ble_eq_true rfl) ⟨Nat.le_refl _, Nat.le_refl _⟩ dX11_goes_54 (fun H locs h => ?_)
    clear hc
    obtain ⟨e1, e2⟩ := xr_inj hf
    subst e1 e2
    exact m_iret C h dX11_goes_57
  · replace hf := if_f hq hf
    clear hq
    refine lv_iconst (v := (0 : Int32)) hx hb dX11_goes_16 (by decide) ?_
    obtain ⟨e1, e2⟩ := xr_inj hf
    subst e1 e2
    exact m_iret C h dX11_goes_17

set_option maxHeartbeats 4000000 in
set_option maxRecDepth 100000 in
theorem qX11_turn {l : Launch} {D : va_G} {cs : Nat → ClassId} {ad al : Nat → Nat} {P : PL} {r : Int32} {g' : CS} {g : CS}  {a0 : Int32} {a1 : Int32} (hf : fX11_turn P g a0 a1 = some (r, g')) : GCon l D cs yX11_turn cX11_turn 4 (some .int) (rM 5) 0 0 [.ref (ad 0), .int a0, .int a1] (SW cs ad al P g) (some (.int r)) (SW cs ad al P g') := by
  refine GCon.of (by decide) (Nat.le_of_ble_eq_true rfl) ?_
  intro p e s m args below meth c A ls H locs C h hl
  have hx := C.1
  have hb := C.2.1
  have C : MCx p s m args meth c A RX11 cX11_turn 4 (some .int) D cs := C
  have hl : lv_has ls 4 [(0, .ref (ad 0)), (1, .int a0), (2, .int a1)] := hl
  unfold fX11_turn at hf
  refine lv_aload_n hx hb dX11_turn_0 rfl (lv_at hl 0 rfl) ?_
  refine xg_X11 5 C h (by decide) tb_2_3 rfl rfl dX11_turn_1 ?_
  refine lv_iload_n hx hb dX11_turn_4 rfl (lv_at hl 1 rfl) ?_
  refine lv_iload_n hx hb dX11_turn_5 rfl (lv_at hl 2 rfl) ?_
  replace hf := bndc_some hf
  obtain ⟨x1, g2, hc, hf⟩ := hf
  refine m_callVi [.int a0, .int a1] C h cv_X11_159 (qX6_turnBy (by simp [okS, okT, ok6]) hc) rfl ⟨rfl, rfl⟩ ⟨Nat.le_of_ble_eq_true rfl, Nat.le_of_ble_eq_true rfl⟩ (rv_X6 (by simp [okS, okT, ok6]) C h) hl.1 rfl (Nat.le_of_ble_eq_true rfl) ⟨Nat.le_refl _, Nat.le_refl _⟩ dX11_turn_6 (fun H locs h => ?_)
  clear hc
  refine lv_istore_n (lv' := [(3, .int x1), (0, .ref (ad 0)), (1, .int a0), (2, .int a1)]) hx hb dX11_turn_9 rfl hl (by decide) rfl (fun ls hl => ?_)
  refine lv_iload_n hx hb dX11_turn_10 rfl (lv_at hl 0 rfl) ?_
  refine lv_if_ne (tgt := 27) hx hb dX11_turn_11 (by decide) (fun hq => ?_) (fun hq => ?_)
  · replace hf := if_tn hq hf
    clear hq
    refine lv_iload_n hx hb dX11_turn_27 rfl (lv_at hl 0 rfl) ?_
    refine lv_ineg hx hb dX11_turn_28 ?_
    obtain ⟨e1, e2⟩ := pr_inj hf
    subst e1 e2
    exact m_iret C h dX11_turn_29
  · replace hf := if_t hq hf
    clear hq
    refine lv_iload_n hx hb dX11_turn_14 rfl (lv_at hl 3 rfl) ?_
    refine lv_aload_n hx hb dX11_turn_15 rfl (lv_at hl 1 rfl) ?_
    refine xg_X11 5 C h (by decide) tb_2_3 rfl rfl dX11_turn_16 ?_
    refine lv_iload_n hx hb dX11_turn_19 rfl (lv_at hl 2 rfl) ?_
    replace hf := bndc_some hf
    obtain ⟨x3, g4, hc, hf⟩ := hf
    refine m_callVi [.int a0] C h cv_X11_144 (qX6_price (by simp [okS, okT, ok6]) hc) rfl ⟨rfl, rfl⟩ ⟨Nat.le_of_ble_eq_true rfl, Nat.le_of_ble_eq_true rfl⟩ (rv_X6 (by simp [okS, okT, ok6]) C h) hl.1 rfl (Nat.le_of_ble_eq_true rfl) ⟨Nat.le_refl _, Nat.le_refl _⟩ dX11_turn_20 (fun H locs h => ?_)
    clear hc
    refine lv_imul hx hb dX11_turn_23 ?_
    refine lv_goto (tgt := 29) hx hb dX11_turn_24 (by decide) ?_
    obtain ⟨e1, e2⟩ := pr_inj hf
    subst e1 e2
    exact m_iret C h dX11_turn_29

set_option maxHeartbeats 4000000 in
set_option maxRecDepth 100000 in
theorem wX11_weigh_26 (C : MCx p s m args meth c A RX11 cX11_weigh 5 (some .int) D cs)  {r : Int32} {g' : CS}  : ∀ (g : CS) (y1 : Int32) (y2 : Int32) (t0 : Int32), fX11_weigh_26 P g y1 y2 t0 = some (r, g') → ∀ (H : Heap) (locs : List Loc) (ls : Array Slot), MH D (SW cs ad al P g) A s H locs → lv_has ls 5 [(0, .ref (ad 0)), (1, .int y1), (2, .int y2)] → W p l e (rM 3) s m args below meth c H locs 0 0 (MQ below (GPost D (some (.int r)) (SW cs ad al P g') A) args s 0 0 A) (F0 m 26 ls [.int t0]) := by
  have hx := C.1
  have hb := C.2.1
  intro g y1 y2 t0 hf H locs ls h hl
  unfold fX11_weigh_26 at hf
  refine lv_istore_n (lv' := [(3, .int t0), (0, .ref (ad 0)), (1, .int y1), (2, .int y2)]) hx hb dX11_weigh_26 rfl hl (by decide) rfl (fun ls hl => ?_)
  refine lv_aload_n hx hb dX11_weigh_27 rfl (lv_at hl 1 rfl) ?_
  refine xg_X11 5 C h (by decide) tb_2_3 rfl rfl dX11_weigh_28 ?_
  refine lv_iload_n hx hb dX11_weigh_31 rfl (lv_at hl 2 rfl) ?_
  refine lv_iload_n hx hb dX11_weigh_32 rfl (lv_at hl 3 rfl) ?_
  replace hf := bndc_some hf
  obtain ⟨x1, g2, hc, hf⟩ := hf
  refine m_callVi [.int y1, .int y2] C h cv_X11_165 (qX6_giveWeight (by simp [okS, okT, ok6]) hc) rfl ⟨rfl, rfl⟩ ⟨Nat.le_of_ble_eq_true rfl, Nat.le_of_ble_eq_true rfl⟩ (rv_X6 (by simp [okS, okT, ok6]) C h) hl.1 rfl (Nat.le_of_ble_eq_true rfl) ⟨Nat.le_refl _, Nat.le_refl _⟩ dX11_weigh_33 (fun H locs h => ?_)
  clear hc
  refine lv_istore (lv' := [(4, .int x1), (3, .int t0), (0, .ref (ad 0)), (1, .int y1), (2, .int y2)]) hx hb dX11_weigh_36 hl (by decide) rfl (fun ls hl => ?_)
  refine lv_iload hx hb dX11_weigh_38 (lv_at hl 0 rfl) ?_
  refine lv_if_ne (tgt := 47) hx hb dX11_weigh_40 (by decide) (fun hq => ?_) (fun hq => ?_)
  · replace hf := if_tn hq hf
    clear hq
    refine lv_iload hx hb dX11_weigh_47 (lv_at hl 0 rfl) ?_
    refine lv_ineg hx hb dX11_weigh_49 ?_
    obtain ⟨e1, e2⟩ := pr_inj hf
    subst e1 e2
    exact m_iret C h dX11_weigh_50
  · replace hf := if_t hq hf
    clear hq
    refine lv_iload_n hx hb dX11_weigh_43 rfl (lv_at hl 1 rfl) ?_
    refine lv_goto (tgt := 50) hx hb dX11_weigh_44 (by decide) ?_
    obtain ⟨e1, e2⟩ := pr_inj hf
    subst e1 e2
    exact m_iret C h dX11_weigh_50

set_option maxHeartbeats 4000000 in
set_option maxRecDepth 100000 in
theorem qX11_weigh {l : Launch} {D : va_G} {cs : Nat → ClassId} {ad al : Nat → Nat} {P : PL} {r : Int32} {g' : CS} {g : CS}  {a0 : Int32} {a1 : Int32} (hf : fX11_weigh P g a0 a1 = some (r, g')) : GCon l D cs yX11_weigh cX11_weigh 5 (some .int) (rM 3) 0 0 [.ref (ad 0), .int a0, .int a1] (SW cs ad al P g) (some (.int r)) (SW cs ad al P g') := by
  refine GCon.of (by decide) (Nat.le_of_ble_eq_true rfl) ?_
  intro p e s m args below meth c A ls H locs C h hl
  have hx := C.1
  have hb := C.2.1
  have C : MCx p s m args meth c A RX11 cX11_weigh 5 (some .int) D cs := C
  have hl : lv_has ls 5 [(0, .ref (ad 0)), (1, .int a0), (2, .int a1)] := hl
  unfold fX11_weigh at hf
  refine lv_aload_n hx hb dX11_weigh_0 rfl (lv_at hl 0 rfl) ?_
  refine xg_X11 5 C h (by decide) tb_2_3 rfl rfl dX11_weigh_1 ?_
  refine lv_iload_n hx hb dX11_weigh_4 rfl (lv_at hl 1 rfl) ?_
  replace hf := bndc_some hf
  obtain ⟨x3, g4, hc, hf⟩ := hf
  refine m_callVi [.int a0] C h cv_X11_162 (qX6_has (by simp [okS, okT, ok6]) hc) rfl ⟨rfl, rfl⟩ ⟨Nat.le_of_ble_eq_true rfl, Nat.le_of_ble_eq_true rfl⟩ (rv_X6 (by simp [okS, okT, ok6]) C h) hl.1 rfl (Nat.le_of_ble_eq_true rfl) ⟨Nat.le_refl _, Nat.le_refl _⟩ dX11_weigh_5 (fun H locs h => ?_)
  clear hc
  refine lv_if_eq (tgt := 25) hx hb dX11_weigh_8 (by decide) (fun hq => ?_) (fun hq => ?_)
  · replace hf := if_t hq hf
    clear hq
    refine lv_iconst (v := (0 : Int32)) hx hb dX11_weigh_25 (by decide) ?_
    exact wX11_weigh_26 (P := P) C g4 a0 a1 (0 : Int32) hf H locs ls h (lv_sub hl [0, 1, 2] rfl)
  · replace hf := if_f hq hf
    clear hq
    refine lv_aload_n hx hb dX11_weigh_11 rfl (lv_at hl 0 rfl) ?_
    refine xg_X11 5 C h (by decide) tb_2_3 rfl rfl dX11_weigh_12 ?_
    refine xg_X6 4 (by simp [okS, okT, ok6]) C h (by decide) tb_25_19 rfl rfl dX11_weigh_15 ?_
    refine lv_iload_n hx hb dX11_weigh_18 rfl (lv_at hl 1 rfl) ?_
    replace hf := bndv_some hf
    obtain ⟨x5, hc, hf⟩ := hf
    refine m_callSi [.int (g4.1 30 4), .int a0] C h cs_X11_119 (qX1_at hc) rfl ⟨rfl, rfl⟩ ⟨Nat.le_of_ble_eq_true rfl, Nat.le_of_ble_eq_true rfl⟩ hl.1 rfl (Nat.le_of_ble_eq_true rfl) ⟨Nat.le_refl _, Nat.le_refl _⟩ dX11_weigh_19 (fun H locs h => ?_)
    clear hc
    refine lv_goto (tgt := 26) hx hb dX11_weigh_22 (by decide) ?_
    exact wX11_weigh_26 (P := P) C g4 a0 a1 x5 hf H locs ls h (lv_sub hl [0, 1, 2] rfl)

set_option maxHeartbeats 4000000 in
set_option maxRecDepth 100000 in
theorem qX11_stick {l : Launch} {D : va_G} {cs : Nat → ClassId} {ad al : Nat → Nat} {P : PL} {r : Int32} {g' : CS} {g : CS}  {a0 : Int32} (hf : fX11_stick P g a0 = some (r, g')) : GCon l D cs yX11_stick cX11_stick 3 (some .int) (rM 3) 0 0 [.ref (ad 0), .int a0] (SW cs ad al P g) (some (.int r)) (SW cs ad al P g') := by
  refine GCon.of (by decide) (Nat.le_of_ble_eq_true rfl) ?_
  intro p e s m args below meth c A ls H locs C h hl
  have hx := C.1
  have hb := C.2.1
  have C : MCx p s m args meth c A RX11 cX11_stick 3 (some .int) D cs := C
  have hl : lv_has ls 3 [(0, .ref (ad 0)), (1, .int a0)] := hl
  unfold fX11_stick at hf
  refine lv_aload_n hx hb dX11_stick_0 rfl (lv_at hl 0 rfl) ?_
  refine xg_X11 5 C h (by decide) tb_2_3 rfl rfl dX11_stick_1 ?_
  refine lv_iload_n hx hb dX11_stick_4 rfl (lv_at hl 1 rfl) ?_
  replace hf := bndc_some hf
  obtain ⟨x1, g2, hc, hf⟩ := hf
  refine m_callVi [.int a0] C h cv_X11_168 (qX6_toggleStuck (by simp [okS, okT, ok6]) hc) rfl ⟨rfl, rfl⟩ ⟨Nat.le_of_ble_eq_true rfl, Nat.le_of_ble_eq_true rfl⟩ (rv_X6 (by simp [okS, okT, ok6]) C h) hl.1 rfl (Nat.le_of_ble_eq_true rfl) ⟨Nat.le_refl _, Nat.le_refl _⟩ dX11_stick_5 (fun H locs h => ?_)
  clear hc
  refine lv_istore_n (lv' := [(2, .int x1), (0, .ref (ad 0)), (1, .int a0)]) hx hb dX11_stick_8 rfl hl (by decide) rfl (fun ls hl => ?_)
  refine lv_iload_n hx hb dX11_stick_9 rfl (lv_at hl 0 rfl) ?_
  refine lv_if_eq (tgt := 16) hx hb dX11_stick_10 (by decide) (fun hq => ?_) (fun hq => ?_)
  · replace hf := if_t hq hf
    clear hq
    refine lv_aload_n hx hb dX11_stick_16 rfl (lv_at hl 1 rfl) ?_
    refine xg_X11 5 C h (by decide) tb_2_3 rfl rfl dX11_stick_17 ?_
    refine lv_iload_n hx hb dX11_stick_20 rfl (lv_at hl 2 rfl) ?_
    replace hf := bndc_some hf
    obtain ⟨x3, g4, hc, hf⟩ := hf
    refine m_callVi [.int a0] C h cv_X11_140 (qX6_isStuck (by simp [okS, okT, ok6]) hc) rfl ⟨rfl, rfl⟩ ⟨Nat.le_of_ble_eq_true rfl, Nat.le_of_ble_eq_true rfl⟩ (rv_X6 (by simp [okS, okT, ok6]) C h) hl.1 rfl (Nat.le_of_ble_eq_true rfl) ⟨Nat.le_refl _, Nat.le_refl _⟩ dX11_stick_21 (fun H locs h => ?_)
    clear hc
    refine lv_if_eq (tgt := 31) hx hb dX11_stick_24 (by decide) (fun hq => ?_) (fun hq => ?_)
    · replace hf := if_t hq hf
      clear hq
      refine lv_iconst (v := (0 : Int32)) hx hb dX11_stick_31 (by decide) ?_
      obtain ⟨e1, e2⟩ := pr_inj hf
      subst e1 e2
      exact m_iret C h dX11_stick_32
    · replace hf := if_f hq hf
      clear hq
      refine lv_iconst (v := (1 : Int32)) hx hb dX11_stick_27 (by decide) ?_
      refine lv_goto (tgt := 32) hx hb dX11_stick_28 (by decide) ?_
      obtain ⟨e1, e2⟩ := pr_inj hf
      subst e1 e2
      exact m_iret C h dX11_stick_32
  · replace hf := if_f hq hf
    clear hq
    refine lv_iload_n hx hb dX11_stick_13 rfl (lv_at hl 0 rfl) ?_
    refine lv_ineg hx hb dX11_stick_14 ?_
    obtain ⟨e1, e2⟩ := pr_inj hf
    subst e1 e2
    exact m_iret C h dX11_stick_15

set_option maxHeartbeats 4000000 in
set_option maxRecDepth 100000 in
theorem wX11_minutes_86 (C : MCx p s m args meth c A RX11 cX11_minutes 6 (some .int) D cs)  {r : Int32} {g' : CS}  {k48 : CS → Int32 → Int32 → Int32 → Int32 → Option ((Nat ⊕ Int32) × CS)} (hk48 : ∀ (g : CS) (y1 : Int32) (y2 : Int32) (y3 : Int32) (y4 : Int32), k48 g y1 y2 y3 y4 = some (Sum.inr r, g') → ∀ (H : Heap) (locs : List Loc) (ls : Array Slot), MH D (SW cs ad al P g) A s H locs → lv_has ls 6 [(0, .ref (ad 0)), (1, .int y1), (2, .int y2), (3, .int y3), (4, .int y4)] → W p l e (rM 4) s m args below meth c H locs 0 0 (MQ below (GPost D (some (.int r)) (SW cs ad al P g') A) args s 0 0 A) (F0 m 48 ls [])) : ∀ (g : CS) (y1 : Int32) (y2 : Int32) (y4 : Int32) (y5 : Int32), fX11_minutes_86 P k48 g y1 y2 y4 y5 = some (Sum.inr r, g') → ∀ (H : Heap) (locs : List Loc) (ls : Array Slot), MH D (SW cs ad al P g) A s H locs → lv_has ls 6 [(0, .ref (ad 0)), (1, .int y1), (2, .int y2), (4, .int y4), (5, .int y5)] → W p l e (rM 4) s m args below meth c H locs 0 0 (MQ below (GPost D (some (.int r)) (SW cs ad al P g') A) args s 0 0 A) (F0 m 86 ls []) := by
  have hx := C.1
  have hb := C.2.1
  intro g y1 y2 y4 y5 hf H locs ls h hl
  unfold fX11_minutes_86 at hf
  refine lv_iload hx hb dX11_minutes_86 (lv_at hl 4 rfl) ?_
  refine lv_istore_n (lv' := [(3, .int y5), (0, .ref (ad 0)), (1, .int y1), (2, .int y2), (4, .int y4), (5, .int y5)]) hx hb dX11_minutes_88 rfl hl (by decide) rfl (fun ls hl => ?_)
  obtain ⟨x1, ex1⟩ : ∃ z : Int32, z = y4 + (1 : Int32) := ⟨_, rfl⟩
  replace hf := bnd_at ex1 hf
  refine lv_iinc (v := x1) (lv' := [(4, .int x1), (3, .int y5), (0, .ref (ad 0)), (1, .int y1), (2, .int y2), (5, .int y5)]) hx hb dX11_minutes_89 hl (k := 4) rfl (by rw [ex1]; rfl) (by decide) rfl (fun ls hl => ?_)
  clear ex1
  refine lv_goto (tgt := 48) hx hb dX11_minutes_92 (by decide) ?_
  exact hk48 g y1 y2 y5 x1 hf H locs ls h (lv_sub hl [2, 3, 4, 1, 0] rfl)

set_option maxHeartbeats 4000000 in
set_option maxRecDepth 100000 in
theorem wX11_minutes_48 (C : MCx p s m args meth c A RX11 cX11_minutes 6 (some .int) D cs)  {r : Int32} {g' : CS}  : ∀ (n : Nat) (g : CS) (y1 : Int32) (y2 : Int32) (y3 : Int32) (y4 : Int32), fX11_minutes_48 P n g y1 y2 y3 y4 = some (Sum.inr r, g') → ∀ (H : Heap) (locs : List Loc) (ls : Array Slot), MH D (SW cs ad al P g) A s H locs → lv_has ls 6 [(0, .ref (ad 0)), (1, .int y1), (2, .int y2), (3, .int y3), (4, .int y4)] → W p l e (rM 4) s m args below meth c H locs 0 0 (MQ below (GPost D (some (.int r)) (SW cs ad al P g') A) args s 0 0 A) (F0 m 48 ls []) := by
  have hx := C.1
  have hb := C.2.1
  intro n
  induction n with
  | zero =>
    intro g y1 y2 y3 y4 hf
    exact absurd hf (by simp [fX11_minutes_48])
  | succ n ih =>
    intro g y1 y2 y3 y4 hf H locs ls h hl
    rw [fX11_minutes_48] at hf
    refine lv_iload hx hb dX11_minutes_48 (lv_at hl 4 rfl) ?_
    refine lv_iload_n hx hb dX11_minutes_50 rfl (lv_at hl 1 rfl) ?_
    refine lv_icmp_ge (tgt := 95) hx hb dX11_minutes_51 (by decide) (fun hq => ?_) (fun hq => ?_)
    · replace hf := if_t hq hf
      clear hq
      refine lv_iload_n hx hb dX11_minutes_95 rfl (lv_at hl 2 rfl) ?_
      obtain ⟨e1, e2⟩ := xr_inj hf
      subst e1 e2
      exact m_iret C h dX11_minutes_96
    · replace hf := if_f hq hf
      clear hq
      refine lv_aload_n hx hb dX11_minutes_54 rfl (lv_at hl 0 rfl) ?_
      refine xg_X11 5 C h (by decide) tb_2_3 rfl rfl dX11_minutes_55 ?_
      replace hf := bndv_some hf
      obtain ⟨g2, hc, hf⟩ := hf
      refine m_callVv [] C h cv_X11_176 (qX6_passMinute (by simp [okS, okT, ok6]) hc) rfl ⟨rfl, rfl⟩ ⟨Nat.le_of_ble_eq_true rfl, Nat.le_of_ble_eq_true rfl⟩ (rv_X6 (by simp [okS, okT, ok6]) C h) hl.1 rfl (Nat.le_of_ble_eq_true rfl) ⟨Nat.le_refl _, Nat.le_refl _⟩ dX11_minutes_58 (fun H locs h => ?_)
      clear hc
      refine lv_aload_n hx hb dX11_minutes_61 rfl (lv_at hl 0 rfl) ?_
      refine xg_X11 5 C h (by decide) tb_2_3 rfl rfl dX11_minutes_62 ?_
      refine lv_aload_n hx hb dX11_minutes_65 rfl (lv_at hl 0 rfl) ?_
      refine xg_X11 5 C h (by decide) tb_2_3 rfl rfl dX11_minutes_66 ?_
      refine xg_X6 3 (by simp [okS, okT, ok6]) C h (by decide) tb_25_18 rfl rfl dX11_minutes_69 ?_
      replace hf := bndc_some hf
      obtain ⟨x3, g4, hc, hf⟩ := hf
      refine m_callVi [.int (g2.1 30 3)] C h cv_X11_149 (qX6_chairOf (by simp [okS, okT, ok6]) hc) rfl ⟨rfl, rfl⟩ ⟨Nat.le_of_ble_eq_true rfl, Nat.le_of_ble_eq_true rfl⟩ (rv_X6 (by simp [okS, okT, ok6]) C h) hl.1 rfl (Nat.le_of_ble_eq_true rfl) ⟨Nat.le_refl _, Nat.le_refl _⟩ dX11_minutes_72 (fun H locs h => ?_)
      clear hc
      refine lv_istore (lv' := [(5, .int x3), (0, .ref (ad 0)), (1, .int y1), (2, .int y2), (3, .int y3), (4, .int y4)]) hx hb dX11_minutes_75 hl (by decide) rfl (fun ls hl => ?_)
      refine lv_iload hx hb dX11_minutes_77 (lv_at hl 0 rfl) ?_
      refine lv_iload_n hx hb dX11_minutes_79 rfl (lv_at hl 4 rfl) ?_
      refine lv_icmp_eq (tgt := 86) hx hb dX11_minutes_80 (by decide) (fun hq => ?_) (fun hq => ?_)
      · replace hf := if_t hq hf
        clear hq
        exact wX11_minutes_86 (P := P) C ih g4 y1 y2 y4 x3 hf H locs ls h (lv_sub hl [1, 2, 3, 5, 0] rfl)
      · replace hf := if_f hq hf
        clear hq
        obtain ⟨x5, ex5⟩ : ∃ z : Int32, z = y2 + (1 : Int32) := ⟨_, rfl⟩
        replace hf := bnd_at ex5 hf
        refine lv_iinc (v := x5) (lv' := [(2, .int x5), (5, .int x3), (0, .ref (ad 0)), (1, .int y1), (3, .int y3), (4, .int y4)]) hx hb dX11_minutes_83 hl (k := 3) rfl (by rw [ex5]; rfl) (by decide) rfl (fun ls hl => ?_)
        clear ex5
        exact wX11_minutes_86 (P := P) C ih g4 y1 x5 y4 x3 hf H locs ls h (lv_sub hl [2, 3, 0, 5, 1] rfl)

set_option maxHeartbeats 4000000 in
set_option maxRecDepth 100000 in
theorem qX11_minutes {l : Launch} {D : va_G} {cs : Nat → ClassId} {ad al : Nat → Nat} {P : PL} {r : Int32} {g' : CS} {g : CS}  {a0 : Int32} (hf : fX11_minutes P g a0 = some (Sum.inr r, g')) : GCon l D cs yX11_minutes cX11_minutes 6 (some .int) (rM 4) 0 0 [.ref (ad 0), .int a0] (SW cs ad al P g) (some (.int r)) (SW cs ad al P g') := by
  refine GCon.of (by decide) (Nat.le_of_ble_eq_true rfl) ?_
  intro p e s m args below meth c A ls H locs C h hl
  have hx := C.1
  have hb := C.2.1
  have C : MCx p s m args meth c A RX11 cX11_minutes 6 (some .int) D cs := C
  have hl : lv_has ls 6 [(0, .ref (ad 0)), (1, .int a0)] := hl
  unfold fX11_minutes at hf
  refine lv_iload_n hx hb dX11_minutes_0 rfl (lv_at hl 1 rfl) ?_
  refine lv_iconst (v := (1 : Int32)) hx hb dX11_minutes_1 (by decide) ?_
  refine lv_icmp_lt (tgt := 11) hx hb dX11_minutes_2 (by decide) (fun hq => ?_) (fun hq => ?_)
  · replace hf := if_t hq hf
    clear hq
    exact (xl_r hf).elim
  · replace hf := if_f hq hf
    clear hq
    refine lv_iload_n hx hb dX11_minutes_5 rfl (lv_at hl 1 rfl) ?_
    refine lv_bipush (v := (99 : Int32)) hx hb dX11_minutes_6 (by decide) ?_
    refine lv_icmp_le (tgt := 21) hx hb dX11_minutes_8 (by decide) (fun hq => ?_) (fun hq => ?_)
    · replace hf := if_t hq hf
      clear hq
      refine lv_aload_n hx hb dX11_minutes_21 rfl (lv_at hl 0 rfl) ?_
      refine xg_X11 5 C h (by decide) tb_2_3 rfl rfl dX11_minutes_22 ?_
      replace hf := bndv_some hf
      obtain ⟨g6, hc, hf⟩ := hf
      refine m_callVv [] C h cv_X11_173 (qX6_remember (by simp [okS, okT, ok6]) hc) rfl ⟨rfl, rfl⟩ ⟨Nat.le_of_ble_eq_true rfl, Nat.le_of_ble_eq_true rfl⟩ (rv_X6 (by simp [okS, okT, ok6]) C h) hl.1 rfl (Nat.le_of_ble_eq_true rfl) ⟨Nat.le_refl _, Nat.le_refl _⟩ dX11_minutes_25 (fun H locs h => ?_)
      clear hc
      refine lv_iconst (v := (0 : Int32)) hx hb dX11_minutes_28 (by decide) ?_
      refine lv_istore_n (lv' := [(2, .int (0 : Int32)), (0, .ref (ad 0)), (1, .int a0)]) hx hb dX11_minutes_29 rfl hl (by decide) rfl (fun ls hl => ?_)
      refine lv_aload_n hx hb dX11_minutes_30 rfl (lv_at hl 1 rfl) ?_
      refine xg_X11 5 C h (by decide) tb_2_3 rfl rfl dX11_minutes_31 ?_
      refine lv_aload_n hx hb dX11_minutes_34 rfl (lv_at hl 1 rfl) ?_
      refine xg_X11 5 C h (by decide) tb_2_3 rfl rfl dX11_minutes_35 ?_
      refine xg_X6 3 (by simp [okS, okT, ok6]) C h (by decide) tb_25_18 rfl rfl dX11_minutes_38 ?_
      replace hf := bndc_some hf
      obtain ⟨x7, g8, hc, hf⟩ := hf
      refine m_callVi [.int (g6.1 30 3)] C h cv_X11_149 (qX6_chairOf (by simp [okS, okT, ok6]) hc) rfl ⟨rfl, rfl⟩ ⟨Nat.le_of_ble_eq_true rfl, Nat.le_of_ble_eq_true rfl⟩ (rv_X6 (by simp [okS, okT, ok6]) C h) hl.1 rfl (Nat.le_of_ble_eq_true rfl) ⟨Nat.le_refl _, Nat.le_refl _⟩ dX11_minutes_41 (fun H locs h => ?_)
      clear hc
      refine lv_istore_n (lv' := [(3, .int x7), (2, .int (0 : Int32)), (0, .ref (ad 0)), (1, .int a0)]) hx hb dX11_minutes_44 rfl hl (by decide) rfl (fun ls hl => ?_)
      refine lv_iconst (v := (0 : Int32)) hx hb dX11_minutes_45 (by decide) ?_
      refine lv_istore (lv' := [(4, .int (0 : Int32)), (3, .int x7), (2, .int (0 : Int32)), (0, .ref (ad 0)), (1, .int a0)]) hx hb dX11_minutes_46 hl (by decide) rfl (fun ls hl => ?_)
      exact wX11_minutes_48 (P := P) C fuel g8 a0 (0 : Int32) x7 (0 : Int32) hf H locs ls h (lv_sub hl [3, 4, 2, 1, 0] rfl)
    · replace hf := if_f hq hf
      clear hq
      exact (xl_r hf).elim

set_option maxHeartbeats 4000000 in
set_option maxRecDepth 100000 in
theorem wX11_undo_34 (C : MCx p s m args meth c A RX11 cX11_undo 3 (some .int) D cs)  {r : Int32} {g' : CS}  : ∀ (n : Nat) (g : CS) (y1 : Int32) (y2 : Int32), fX11_undo_34 P n g y1 y2 = some (Sum.inr r, g') → ∀ (H : Heap) (locs : List Loc) (ls : Array Slot), MH D (SW cs ad al P g) A s H locs → lv_has ls 3 [(0, .ref (ad 0)), (1, .int y1), (2, .int y2)] → W p l e (rM 1) s m args below meth c H locs 0 0 (MQ below (GPost D (some (.int r)) (SW cs ad al P g') A) args s 0 0 A) (F0 m 34 ls []) := by
  have hx := C.1
  have hb := C.2.1
  intro n
  induction n with
  | zero =>
    intro g y1 y2 hf
    exact absurd hf (by simp [fX11_undo_34])
  | succ n ih =>
    intro g y1 y2 hf H locs ls h hl
    rw [fX11_undo_34] at hf
    refine lv_iload_n hx hb dX11_undo_34 rfl (lv_at hl 2 rfl) ?_
    refine lv_iload_n hx hb dX11_undo_35 rfl (lv_at hl 1 rfl) ?_
    refine lv_icmp_ge (tgt := 52) hx hb dX11_undo_36 (by decide) (fun hq => ?_) (fun hq => ?_)
    · replace hf := if_t hq hf
      clear hq
      refine lv_aload_n hx hb dX11_undo_52 rfl (lv_at hl 0 rfl) ?_
      refine xg_X11 5 C h (by decide) tb_2_3 rfl rfl dX11_undo_53 ?_
      refine xg_X6 6 (by simp [okS, okT, ok6]) C h (by decide) tb_38_4 rfl rfl dX11_undo_56 ?_
      obtain ⟨e1, e2⟩ := xr_inj hf
      subst e1 e2
      exact m_iret C h dX11_undo_59
    · replace hf := if_f hq hf
      clear hq
      refine lv_aload_n hx hb dX11_undo_39 rfl (lv_at hl 0 rfl) ?_
      refine xg_X11 5 C h (by decide) tb_2_3 rfl rfl dX11_undo_40 ?_
      replace hf := bndv_some hf
      obtain ⟨g1, hc, hf⟩ := hf
      refine m_callVv [] C h cv_X11_184 (qX6_takeBack (by simp [okS, okT, ok6]) hc) rfl ⟨rfl, rfl⟩ ⟨Nat.le_of_ble_eq_true rfl, Nat.le_of_ble_eq_true rfl⟩ (rv_X6 (by simp [okS, okT, ok6]) C h) hl.1 rfl (Nat.le_of_ble_eq_true rfl) ⟨Nat.le_refl _, Nat.le_refl _⟩ dX11_undo_43 (fun H locs h => ?_)
      clear hc
      obtain ⟨x2, ex2⟩ : ∃ z : Int32, z = y2 + (1 : Int32) := ⟨_, rfl⟩
      replace hf := bnd_at ex2 hf
      refine lv_iinc (v := x2) (lv' := [(2, .int x2), (0, .ref (ad 0)), (1, .int y1)]) hx hb dX11_undo_46 hl (k := 2) rfl (by rw [ex2]; rfl) (by decide) rfl (fun ls hl => ?_)
      clear ex2
      refine lv_goto (tgt := 34) hx hb dX11_undo_49 (by decide) ?_
      exact ih g1 y1 x2 hf H locs ls h (lv_sub hl [1, 2, 0] rfl)

set_option maxHeartbeats 4000000 in
set_option maxRecDepth 100000 in
theorem qX11_undo {l : Launch} {D : va_G} {cs : Nat → ClassId} {ad al : Nat → Nat} {P : PL} {r : Int32} {g' : CS} {g : CS}  {a0 : Int32} (hf : fX11_undo P g a0 = some (Sum.inr r, g')) : GCon l D cs yX11_undo cX11_undo 3 (some .int) (rM 1) 0 0 [.ref (ad 0), .int a0] (SW cs ad al P g) (some (.int r)) (SW cs ad al P g') := by
  refine GCon.of (by decide) (Nat.le_of_ble_eq_true rfl) ?_
  intro p e s m args below meth c A ls H locs C h hl
  have hx := C.1
  have hb := C.2.1
  have C : MCx p s m args meth c A RX11 cX11_undo 3 (some .int) D cs := C
  have hl : lv_has ls 3 [(0, .ref (ad 0)), (1, .int a0)] := hl
  unfold fX11_undo at hf
  refine lv_iload_n hx hb dX11_undo_0 rfl (lv_at hl 1 rfl) ?_
  refine lv_iconst (v := (1 : Int32)) hx hb dX11_undo_1 (by decide) ?_
  refine lv_icmp_lt (tgt := 22) hx hb dX11_undo_2 (by decide) (fun hq => ?_) (fun hq => ?_)
  · replace hf := if_t hq hf
    clear hq
    exact (xl_r hf).elim
  · replace hf := if_f hq hf
    clear hq
    refine lv_iload_n hx hb dX11_undo_5 rfl (lv_at hl 1 rfl) ?_
    refine lv_bipush (v := (10 : Int32)) hx hb dX11_undo_6 (by decide) ?_
    refine lv_icmp_gt (tgt := 22) hx hb dX11_undo_8 (by decide) (fun hq => ?_) (fun hq => ?_)
    · replace hf := if_t hq hf
      clear hq
      exact (xl_r hf).elim
    · replace hf := if_f hq hf
      clear hq
      refine lv_iload_n hx hb dX11_undo_11 rfl (lv_at hl 1 rfl) ?_
      refine lv_aload_n hx hb dX11_undo_12 rfl (lv_at hl 0 rfl) ?_
      refine xg_X11 5 C h (by decide) tb_2_3 rfl rfl dX11_undo_13 ?_
      refine xg_X6 6 (by simp [okS, okT, ok6]) C h (by decide) tb_38_4 rfl rfl dX11_undo_16 ?_
      refine lv_icmp_le (tgt := 32) hx hb dX11_undo_19 (by decide) (fun hq => ?_) (fun hq => ?_)
      · replace hf := if_t hq hf
        clear hq
        refine lv_iconst (v := (0 : Int32)) hx hb dX11_undo_32 (by decide) ?_
        refine lv_istore_n (lv' := [(2, .int (0 : Int32)), (0, .ref (ad 0)), (1, .int a0)]) hx hb dX11_undo_33 rfl hl (by decide) rfl (fun ls hl => ?_)
        exact wX11_undo_34 (P := P) C fuel g a0 (0 : Int32) hf H locs ls h (lv_sub hl [1, 2, 0] rfl)
      · replace hf := if_f hq hf
        clear hq
        exact (xl_r hf).elim

set_option maxHeartbeats 4000000 in
set_option maxRecDepth 100000 in
theorem qX11_needTray {l : Launch} {D : va_G} {cs : Nat → ClassId} {ad al : Nat → Nat} {P : PL} {r : Nat} {g' : CS} {g : CS}  {a0 : Int32} (hf : fX11_needTray P g a0 = some (Sum.inr r, g')) : GCon l D cs yX11_needTray cX11_needTray 3 (some (.object "SwivelBoard$Tray")) (rM 0) 0 0 [.ref (ad 0), .int a0] (SW cs ad al P g) (some (.ref (ad r))) (SW cs ad al P g') := by
  refine GCon.of (by decide) (Nat.le_of_ble_eq_true rfl) ?_
  intro p e s m args below meth c A ls H locs C h hl
  have hx := C.1
  have hb := C.2.1
  have C : MCx p s m args meth c A RX11 cX11_needTray 3 (some (.object "SwivelBoard$Tray")) D cs := C
  have hl : lv_has ls 3 [(0, .ref (ad 0)), (1, .int a0)] := hl
  unfold fX11_needTray at hf
  refine lv_iload_n hx hb dX11_needTray_0 rfl (lv_at hl 1 rfl) ?_
  refine lv_if_lt (tgt := 9) hx hb dX11_needTray_1 (by decide) (fun hq => ?_) (fun hq => ?_)
  · replace hf := if_t hq hf
    clear hq
    exact (xl_r hf).elim
  · replace hf := if_f hq hf
    clear hq
    refine lv_iload_n hx hb dX11_needTray_4 rfl (lv_at hl 1 rfl) ?_
    refine lv_iconst (v := (4 : Int32)) hx hb dX11_needTray_5 (by decide) ?_
    refine lv_icmp_lt (tgt := 20) hx hb dX11_needTray_6 (by decide) (fun hq => ?_) (fun hq => ?_)
    · replace hf := if_t hq hf
      clear hq
      refine lv_aload_n hx hb dX11_needTray_20 rfl (lv_at hl 0 rfl) ?_
      refine xg_X11 8 C h (by decide) tb_2_7 rfl rfl dX11_needTray_21 ?_
      refine lv_iload_n hx hb dX11_needTray_24 rfl (lv_at hl 1 rfl) ?_
      replace hf := chk_some hf
      obtain ⟨hq, hf⟩ := hf
      refine yr_3 C h hq dX11_needTray_25 ?_
      clear hq
      obtain ⟨o1, eo1⟩ : ∃ z : Nat, z = 50 + ix a0 := ⟨_, rfl⟩
      replace hf := bnd_at eo1 hf
      rw [← eo1]
      clear eo1
      replace hf := chk_some hf
      obtain ⟨hq, hf⟩ := hf
      have hn_o1 := okTb_t hq
      clear hq
      refine lv_astore_n (lv' := [(2, .ref (ad o1)), (0, .ref (ad 0)), (1, .int a0)]) hx hb dX11_needTray_26 rfl hl (by decide) rfl (fun ls hl => ?_)
      refine lv_aload_n hx hb dX11_needTray_27 rfl (lv_at hl 0 rfl) ?_
      refine xg_X9 0 hn_o1 C h (by decide) tb_38_23 rfl rfl dX11_needTray_28 ?_
      refine lv_iconst (v := (-1 : Int32)) hx hb dX11_needTray_31 (by decide) ?_
      refine lv_icmp_ne (tgt := 46) hx hb dX11_needTray_32 (by decide) (fun hq => ?_) (fun hq => ?_)
      · replace hf := if_tn hq hf
        clear hq
        refine lv_aload_n hx hb dX11_needTray_46 rfl (lv_at hl 0 rfl) ?_
        obtain ⟨e1, e2⟩ := xr_inj hf
        subst e1 e2
        exact m_aret C h (Or.inl ⟨_, rfl⟩) dX11_needTray_47
      · replace hf := if_t hq hf
        clear hq
        exact (xl_r hf).elim
    · replace hf := if_f hq hf
      clear hq
      exact (xl_r hf).elim

set_option maxHeartbeats 4000000 in
set_option maxRecDepth 100000 in
theorem wX11_judge_93 (C : MCx p s m args meth c A RX11 cX11_judge 7 (some .int) D cs)  {r : Int32} {g' : CS}  : ∀ (g : CS) (y2 : Int32) (y4 : Int32) (y5 : Int32), fX11_judge_93 P g y2 y4 y5 = some (Sum.inr r, g') → ∀ (H : Heap) (locs : List Loc) (ls : Array Slot), MH D (SW cs ad al P g) A s H locs → lv_has ls 7 [(0, .ref (ad 0)), (2, .int y2), (4, .int y4), (5, .int y5)] → W p l e (rM 6) s m args below meth c H locs 0 0 (MQ below (GPost D (some (.int r)) (SW cs ad al P g') A) args s 0 0 A) (F0 m 93 ls []) := by
  have hx := C.1
  have hb := C.2.1
  intro g y2 y4 y5 hf H locs ls h hl
  unfold fX11_judge_93 at hf
  refine lv_iload_n hx hb dX11_judge_93 rfl (lv_at hl 1 rfl) ?_
  rcases Decidable.em (y2 = (0 : Int32)) with hq | q0
  · replace hf := if_t hq hf
    subst hq
    refine lv_tableIn (off := 26) (tgt := 120) hx hb dX11_judge_94 (by decide) (by decide) (by decide) (by decide) ?_
    refine lv_iload hx hb dX11_judge_120 (lv_at hl 3 rfl) ?_
    obtain ⟨e1, e2⟩ := xr_inj hf
    subst e1 e2
    exact m_iret C h dX11_judge_122
  replace hf := if_f q0 hf
  rcases Decidable.em (y2 = (1 : Int32)) with hq | q1
  · replace hf := if_t hq hf
    subst hq
    refine lv_tableIn (off := 29) (tgt := 123) hx hb dX11_judge_94 (by decide) (by decide) (by decide) (by decide) ?_
    refine lv_iload hx hb dX11_judge_123 (lv_at hl 2 rfl) ?_
    obtain ⟨e1, e2⟩ := xr_inj hf
    subst e1 e2
    exact m_iret C h dX11_judge_125
  replace hf := if_f q1 hf
  rcases Decidable.em (y2 = (2 : Int32)) with hq | q2
  · replace hf := if_t hq hf
    subst hq
    refine lv_tableIn (off := 32) (tgt := 126) hx hb dX11_judge_94 (by decide) (by decide) (by decide) (by decide) ?_
    refine lv_aload_n hx hb dX11_judge_126 rfl (lv_at hl 0 rfl) ?_
    refine xg_X11 6 C h (by decide) tb_2_4 rfl rfl dX11_judge_127 ?_
    refine lv_aload_n hx hb dX11_judge_130 rfl (lv_at hl 0 rfl) ?_
    refine xg_X11 6 C h (by decide) tb_2_4 rfl rfl dX11_judge_131 ?_
    refine xg_X6 3 (by simp [okS, okT, ok6]) C h (by decide) tb_25_18 rfl rfl dX11_judge_134 ?_
    replace hf := bndc_some hf
    obtain ⟨x3, g4, hc, hf⟩ := hf
    refine m_callVi [.int (g.1 31 3)] C h cv_X11_149 (qX6_chairOf (by simp [okS, okT, ok6]) hc) rfl ⟨rfl, rfl⟩ ⟨Nat.le_of_ble_eq_true rfl, Nat.le_of_ble_eq_true rfl⟩ (rv_X6 (by simp [okS, okT, ok6]) C h) hl.1 rfl (Nat.le_of_ble_eq_true rfl) ⟨Nat.le_refl _, Nat.le_refl _⟩ dX11_judge_137 (fun H locs h => ?_)
    clear hc
    obtain ⟨e1, e2⟩ := xr_inj hf
    subst e1 e2
    exact m_iret C h dX11_judge_140
  replace hf := if_f q2 hf
  refine lv_tableOut (tgt := 141) hx hb dX11_judge_94 (by
      have z0 := i32_ne q0
      have z1 := i32_ne q1
      have z2 := i32_ne q2
      simp only [i32v_0, i32v_1, i32v_2] at z0 z1 z2
      omega) (by decide) ?_
  refine lv_aload_n hx hb dX11_judge_141 rfl (lv_at hl 0 rfl) ?_
  refine xg_X11 6 C h (by decide) tb_2_4 rfl rfl dX11_judge_142 ?_
  refine xg_X6 5 (by simp [okS, okT, ok6]) C h (by decide) tb_39_0 rfl rfl dX11_judge_145 ?_
  obtain ⟨e1, e2⟩ := xr_inj hf
  subst e1 e2
  exact m_iret C h dX11_judge_148

set_option maxHeartbeats 4000000 in
set_option maxRecDepth 100000 in
theorem wX11_judge_45 (C : MCx p s m args meth c A RX11 cX11_judge 7 (some .int) D cs)  {r : Int32} {g' : CS}  : ∀ (n : Nat) (g : CS) (y2 : Int32) (y3 : Nat) (y4 : Int32) (y5 : Int32) (y6 : Int32), okT y3 → fX11_judge_45 P n g y2 y3 y4 y5 y6 = some (Sum.inr r, g') → ∀ (H : Heap) (locs : List Loc) (ls : Array Slot), MH D (SW cs ad al P g) A s H locs → lv_has ls 7 [(0, .ref (ad 0)), (2, .int y2), (3, .ref (ad y3)), (4, .int y4), (5, .int y5), (6, .int y6)] → W p l e (rM 6) s m args below meth c H locs 0 0 (MQ below (GPost D (some (.int r)) (SW cs ad al P g') A) args s 0 0 A) (F0 m 45 ls []) := by
  have hx := C.1
  have hb := C.2.1
  intro n
  induction n with
  | zero =>
    intro g y2 y3 y4 y5 y6 hn_y3 hf
    exact absurd hf (by simp [fX11_judge_45])
  | succ n ih =>
    intro g y2 y3 y4 y5 y6 hn_y3 hf H locs ls h hl
    rw [fX11_judge_45] at hf
    refine lv_iload hx hb dX11_judge_45 (lv_at hl 5 rfl) ?_
    refine lv_aload_n hx hb dX11_judge_47 rfl (lv_at hl 2 rfl) ?_
    refine xg_X9 0 hn_y3 C h (by decide) tb_38_23 rfl rfl dX11_judge_48 ?_
    refine lv_icmp_ge (tgt := 93) hx hb dX11_judge_51 (by decide) (fun hq => ?_) (fun hq => ?_)
    · replace hf := if_t hq hf
      clear hq
      exact wX11_judge_93 (P := P) C g y2 y4 y5 hf H locs ls h (lv_sub hl [0, 1, 3, 4] rfl)
    · replace hf := if_f hq hf
      clear hq
      refine lv_iload hx hb dX11_judge_54 (lv_at hl 3 rfl) ?_
      refine lv_if_ne (tgt := 93) hx hb dX11_judge_56 (by decide) (fun hq => ?_) (fun hq => ?_)
      · replace hf := if_tn hq hf
        clear hq
        exact wX11_judge_93 (P := P) C g y2 y4 y5 hf H locs ls h (lv_sub hl [0, 1, 3, 4] rfl)
      · replace hf := if_t hq hf
        clear hq
        refine lv_aload_n hx hb dX11_judge_59 rfl (lv_at hl 0 rfl) ?_
        refine xg_X11 6 C h (by decide) tb_2_4 rfl rfl dX11_judge_60 ?_
        refine lv_aload_n hx hb dX11_judge_63 rfl (lv_at hl 2 rfl) ?_
        refine lv_iload hx hb dX11_judge_64 (lv_at hl 5 rfl) ?_
        replace hf := bndc_some hf
        obtain ⟨x5, g6, hc, hf⟩ := hf
        refine m_callVl [.int y6] C h cv_X11_199 (qX9_get hn_y3 hc) rfl ⟨rfl, rfl⟩ ⟨Nat.le_of_ble_eq_true rfl, Nat.le_of_ble_eq_true rfl⟩ (rv_X9 hn_y3 C h) hl.1 rfl (Nat.le_of_ble_eq_true rfl) ⟨Nat.le_refl _, Nat.le_refl _⟩ dX11_judge_66 (fun H locs h => ?_)
        clear hc
        replace hf := bndc_some hf
        obtain ⟨x7, g8, hc, hf⟩ := hf
        refine m_callVi [.long x5] C h cv_X11_202 (qX6_enact (by simp [okS, okT, ok6]) hc) rfl ⟨rfl, rfl⟩ ⟨Nat.le_of_ble_eq_true rfl, Nat.le_of_ble_eq_true rfl⟩ (rv_X6 (by simp [okS, okT, ok6]) C h) hl.1 rfl (Nat.le_of_ble_eq_true rfl) ⟨Nat.le_refl _, Nat.le_refl _⟩ dX11_judge_69 (fun H locs h => ?_)
        clear hc
        refine lv_istore (lv' := [(4, .int x7), (0, .ref (ad 0)), (2, .int y2), (3, .ref (ad y3)), (5, .int y5), (6, .int y6)]) hx hb dX11_judge_72 hl (by decide) rfl (fun ls hl => ?_)
        refine lv_iload hx hb dX11_judge_74 (lv_at hl 0 rfl) ?_
        refine lv_if_ne (tgt := 83) hx hb dX11_judge_76 (by decide) (fun hq => ?_) (fun hq => ?_)
        · replace hf := if_tn hq hf
          clear hq
          refine lv_iload hx hb dX11_judge_83 (lv_at hl 5 rfl) ?_
          refine lv_istore (lv' := [(5, .int y6), (4, .int x7), (0, .ref (ad 0)), (2, .int y2), (3, .ref (ad y3)), (6, .int y6)]) hx hb dX11_judge_85 hl (by decide) rfl (fun ls hl => ?_)
          obtain ⟨x9, ex9⟩ : ∃ z : Int32, z = y6 + (1 : Int32) := ⟨_, rfl⟩
          replace hf := bnd_at ex9 hf
          refine lv_iinc (v := x9) (lv' := [(6, .int x9), (5, .int y6), (4, .int x7), (0, .ref (ad 0)), (2, .int y2), (3, .ref (ad y3))]) hx hb dX11_judge_87 hl (k := 5) rfl (by rw [ex9]; rfl) (by decide) rfl (fun ls hl => ?_)
          clear ex9
          refine lv_goto (tgt := 45) hx hb dX11_judge_90 (by decide) ?_
          exact ih g8 y2 y3 x7 y6 x9 hn_y3 hf H locs ls h (lv_sub hl [3, 4, 5, 2, 1, 0] rfl)
        · replace hf := if_t hq hf
          clear hq
          refine lv_iconst (v := (-1 : Int32)) hx hb dX11_judge_79 (by decide) ?_
          refine lv_goto (tgt := 85) hx hb dX11_judge_80 (by decide) ?_
          refine lv_istore (lv' := [(5, .int (-1 : Int32)), (4, .int x7), (0, .ref (ad 0)), (2, .int y2), (3, .ref (ad y3)), (6, .int y6)]) hx hb dX11_judge_85 hl (by decide) rfl (fun ls hl => ?_)
          obtain ⟨x10, ex10⟩ : ∃ z : Int32, z = y6 + (1 : Int32) := ⟨_, rfl⟩
          replace hf := bnd_at ex10 hf
          refine lv_iinc (v := x10) (lv' := [(6, .int x10), (5, .int (-1 : Int32)), (4, .int x7), (0, .ref (ad 0)), (2, .int y2), (3, .ref (ad y3))]) hx hb dX11_judge_87 hl (k := 5) rfl (by rw [ex10]; rfl) (by decide) rfl (fun ls hl => ?_)
          clear ex10
          refine lv_goto (tgt := 45) hx hb dX11_judge_90 (by decide) ?_
          exact ih g8 y2 y3 x7 (-1 : Int32) x10 hn_y3 hf H locs ls h (lv_sub hl [3, 4, 5, 2, 1, 0] rfl)

set_option maxHeartbeats 4000000 in
set_option maxRecDepth 100000 in
theorem qX11_judge {l : Launch} {D : va_G} {cs : Nat → ClassId} {ad al : Nat → Nat} {P : PL} {r : Int32} {g' : CS} {g : CS}  {a0 : Int32} {a1 : Int32} (hf : fX11_judge P g a0 a1 = some (Sum.inr r, g')) : GCon l D cs yX11_judge cX11_judge 7 (some .int) (rM 6) 0 0 [.ref (ad 0), .int a0, .int a1] (SW cs ad al P g) (some (.int r)) (SW cs ad al P g') := by
  refine GCon.of (by decide) (Nat.le_of_ble_eq_true rfl) ?_
  intro p e s m args below meth c A ls H locs C h hl
  have hx := C.1
  have hb := C.2.1
  have C : MCx p s m args meth c A RX11 cX11_judge 7 (some .int) D cs := C
  have hl : lv_has ls 7 [(0, .ref (ad 0)), (1, .int a0), (2, .int a1)] := hl
  unfold fX11_judge at hf
  refine lv_aload_n hx hb dX11_judge_0 rfl (lv_at hl 0 rfl) ?_
  refine lv_iload_n hx hb dX11_judge_1 rfl (lv_at hl 1 rfl) ?_
  replace hf := bndx_r hf
  obtain ⟨o11, g12, hc, hf⟩ := hf
  refine m_callVr [.int a0] C h cv_X11_187 (qX11_needTray hc) rfl ⟨rfl, rfl⟩ ⟨Nat.le_of_ble_eq_true rfl, Nat.le_of_ble_eq_true rfl⟩ (rv_X11 C h) hl.1 rfl (Nat.le_of_ble_eq_true rfl) ⟨Nat.le_refl _, Nat.le_refl _⟩ dX11_judge_2 (fun H locs h => ?_)
  clear hc
  replace hf := chk_some hf
  obtain ⟨hq, hf⟩ := hf
  have hn_o11 := okTb_t hq
  clear hq
  refine lv_astore_n (lv' := [(3, .ref (ad o11)), (0, .ref (ad 0)), (1, .int a0), (2, .int a1)]) hx hb dX11_judge_5 rfl hl (by decide) rfl (fun ls hl => ?_)
  refine lv_iload_n hx hb dX11_judge_6 rfl (lv_at hl 3 rfl) ?_
  refine lv_if_lt (tgt := 15) hx hb dX11_judge_7 (by decide) (fun hq => ?_) (fun hq => ?_)
  · replace hf := if_t hq hf
    clear hq
    exact (xl_r hf).elim
  · replace hf := if_f hq hf
    clear hq
    refine lv_iload_n hx hb dX11_judge_10 rfl (lv_at hl 3 rfl) ?_
    refine lv_iconst (v := (3 : Int32)) hx hb dX11_judge_11 (by decide) ?_
    refine lv_icmp_le (tgt := 25) hx hb dX11_judge_12 (by decide) (fun hq => ?_) (fun hq => ?_)
    · replace hf := if_t hq hf
      clear hq
      refine lv_aload_n hx hb dX11_judge_25 rfl (lv_at hl 1 rfl) ?_
      refine xg_X11 6 C h (by decide) tb_2_4 rfl rfl dX11_judge_26 ?_
      refine lv_aload_n hx hb dX11_judge_29 rfl (lv_at hl 1 rfl) ?_
      refine xg_X11 5 C h (by decide) tb_2_3 rfl rfl dX11_judge_30 ?_
      replace hf := bndv_some hf
      obtain ⟨g13, hc, hf⟩ := hf
      refine m_callVv [.ref (ad 30)] C h cv_X11_193 (qX6_become (by simp [okS, okT, ok6]) (by simp [okS, okT, ok6]) hc) rfl ⟨rfl, rfl⟩ ⟨Nat.le_of_ble_eq_true rfl, Nat.le_of_ble_eq_true rfl⟩ (rv_X6 (by simp [okS, okT, ok6]) C h) hl.1 rfl (Nat.le_of_ble_eq_true rfl) ⟨Nat.le_refl _, Nat.le_refl _⟩ dX11_judge_33 (fun H locs h => ?_)
      clear hc
      refine lv_iconst (v := (0 : Int32)) hx hb dX11_judge_36 (by decide) ?_
      refine lv_istore (lv' := [(4, .int (0 : Int32)), (3, .ref (ad o11)), (0, .ref (ad 0)), (1, .int a0), (2, .int a1)]) hx hb dX11_judge_37 hl (by decide) rfl (fun ls hl => ?_)
      refine lv_iconst (v := (-1 : Int32)) hx hb dX11_judge_39 (by decide) ?_
      refine lv_istore (lv' := [(5, .int (-1 : Int32)), (4, .int (0 : Int32)), (3, .ref (ad o11)), (0, .ref (ad 0)), (1, .int a0), (2, .int a1)]) hx hb dX11_judge_40 hl (by decide) rfl (fun ls hl => ?_)
      refine lv_iconst (v := (0 : Int32)) hx hb dX11_judge_42 (by decide) ?_
      refine lv_istore (lv' := [(6, .int (0 : Int32)), (5, .int (-1 : Int32)), (4, .int (0 : Int32)), (3, .ref (ad o11)), (0, .ref (ad 0)), (1, .int a0), (2, .int a1)]) hx hb dX11_judge_43 hl (by decide) rfl (fun ls hl => ?_)
      exact wX11_judge_45 (P := P) C fuel g13 a1 o11 (0 : Int32) (-1 : Int32) (0 : Int32) hn_o11 hf H locs ls h (lv_sub hl [4, 6, 3, 2, 1, 0] rfl)
    · replace hf := if_f hq hf
      clear hq
      exact (xl_r hf).elim
end
