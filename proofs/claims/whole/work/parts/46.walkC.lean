section
variable {p : Program} {l : Launch} {e : Env} {s : State} {m : MethodId} {args : Array Value} {below : List Frame} {meth : Method} {c : Code} {D : va_G} {cs : Nat → ClassId} {ad al adK adV : Nat → Nat} {P : PL} {A : Nat → Prop}
set_option maxHeartbeats 4000000 in
set_option maxRecDepth 100000 in
theorem qX11_needChances {l : Launch} {D : va_G} {cs : Nat → ClassId} {ad al : Nat → Nat} {P : PL} {r : Unit} {g' : CS} {g : CS}  {a0 : Int32} (hf : fX11_needChances P g a0 = some (Sum.inr r, g')) : GCon l D cs yX11_needChances cX11_needChances 2 none (rM 0) 0 0 [.ref (ad 0), .int a0] (SW cs ad al P g) none (SW cs ad al P g') := by
  refine GCon.of (by decide) (Nat.le_of_ble_eq_true rfl) ?_
  intro p e s m args below meth c A ls H locs C h hl
  have hx := C.1
  have hb := C.2.1
  have C : MCx p s m args meth c A RX11 cX11_needChances 2 none D cs := C
  have hl : lv_has ls 2 [(0, .ref (ad 0)), (1, .int a0)] := hl
  unfold fX11_needChances at hf
  refine lv_iload_n hx hb dX11_needChances_0 rfl (lv_at hl 1 rfl) ?_
  refine lv_if_lt (tgt := 10) hx hb dX11_needChances_1 (by decide) (fun hq => ?_) (fun hq => ?_)
  · replace hf := if_t hq hf
    clear hq
    exact (xl_r hf).elim
  · replace hf := if_f hq hf
    clear hq
    refine lv_iload_n hx hb dX11_needChances_4 rfl (lv_at hl 1 rfl) ?_
    refine lv_bipush (v := (6 : Int32)) hx hb dX11_needChances_5 (by decide) ?_
    refine lv_icmp_le (tgt := 21) hx hb dX11_needChances_7 (by decide) (fun hq => ?_) (fun hq => ?_)
    · replace hf := if_t hq hf
      clear hq
      obtain ⟨e1, e2⟩ := xr_inj hf
      subst e1 e2
      exact m_vret C h dX11_needChances_21
    · replace hf := if_f hq hf
      clear hq
      exact (xl_r hf).elim

set_option maxHeartbeats 4000000 in
set_option maxRecDepth 100000 in
theorem wX11_chance_30 (C : MCx p s m args meth c A RX11 cX11_chance 7 (some .int) D cs)  {r : Int32} {g' : CS}  : ∀ (g : CS) (y1 : Int32) (y2 : Int32) (y3 : Int32), fX11_chance_30 P g y1 y2 y3 = some (Sum.inr r, g') → ∀ (H : Heap) (locs : List Loc) (ls : Array Slot), MH D (SW cs ad al P g) A s H locs → lv_has ls 7 [(0, .ref (ad 0)), (1, .int y1), (2, .int y2), (3, .int y3)] → W p l e (rM 14) s m args below meth c H locs 0 0 (MQ below (GPost D (some (.int r)) (SW cs ad al P g') A) args s 0 0 A) (F0 m 30 ls []) := by
  have hx := C.1
  have hb := C.2.1
  intro g y1 y2 y3 hf H locs ls h hl
  unfold fX11_chance_30 at hf
  refine lv_aload_n hx hb dX11_chance_30 rfl (lv_at hl 0 rfl) ?_
  refine xg_X11 11 C h (by decide) tb_2_20 rfl rfl dX11_chance_31 ?_
  refine lv_iload_n hx hb dX11_chance_34 rfl (lv_at hl 2 rfl) ?_
  replace hf := bndv_some hf
  obtain ⟨g1, hc, hf⟩ := hf
  refine m_callVv [.int y2] C h cv_X11_344 (qX5_scatter hc) rfl ⟨rfl, rfl⟩ ⟨Nat.le_of_ble_eq_true rfl, Nat.le_of_ble_eq_true rfl⟩ (rv_X5 C h) hl.1 rfl (Nat.le_of_ble_eq_true rfl) ⟨Nat.le_refl _, Nat.le_refl _⟩ dX11_chance_35 (fun H locs h => ?_)
  clear hc
  refine lv_aload_n hx hb dX11_chance_38 rfl (lv_at hl 0 rfl) ?_
  refine xg_X11 11 C h (by decide) tb_2_20 rfl rfl dX11_chance_39 ?_
  refine xg_X5 6 C h (by decide) tb_65_4 rfl rfl dX11_chance_42 ?_
  refine lv_iload_n hx hb dX11_chance_45 rfl (lv_at hl 1 rfl) ?_
  replace hf := chk_some hf
  obtain ⟨hq, hf⟩ := hf
  refine yl_26 C h hq dX11_chance_46 ?_
  clear hq
  refine lv_topi (fun x2 ex2 => ?_)
  replace hf := bnd_at ex2 hf
  clear ex2
  refine lv_istore (lv' := [(4, .int x2), (0, .ref (ad 0)), (1, .int y1), (2, .int y2), (3, .int y3)]) hx hb dX11_chance_47 hl (by decide) rfl (fun ls hl => ?_)
  refine lv_aload_n hx hb dX11_chance_49 rfl (lv_at hl 1 rfl) ?_
  refine xg_X11 11 C h (by decide) tb_2_20 rfl rfl dX11_chance_50 ?_
  refine xg_X5 7 C h (by decide) tb_65_5 rfl rfl dX11_chance_53 ?_
  refine lv_topi (fun x3 ex3 => ?_)
  replace hf := bnd_at ex3 hf
  clear ex3
  refine lv_istore (lv' := [(5, .int x3), (4, .int x2), (0, .ref (ad 0)), (1, .int y1), (2, .int y2), (3, .int y3)]) hx hb dX11_chance_56 hl (by decide) rfl (fun ls hl => ?_)
  refine lv_iload hx hb dX11_chance_58 (lv_at hl 1 rfl) ?_
  refine lv_iload hx hb dX11_chance_60 (lv_at hl 0 rfl) ?_
  replace hf := bndv_some hf
  obtain ⟨x4, hc, hf⟩ := hf
  refine m_callSi [.int x2, .int x3] C h cs_X11_353 (qX11_commonMeasure hc) rfl ⟨rfl, rfl⟩ ⟨Nat.le_of_ble_eq_true rfl, Nat.le_of_ble_eq_true rfl⟩ hl.1 rfl (Nat.le_of_ble_eq_true rfl) ⟨Nat.le_refl _, Nat.le_refl _⟩ dX11_chance_62 (fun H locs h => ?_)
  clear hc
  refine lv_istore (lv' := [(6, .int x4), (5, .int x3), (4, .int x2), (0, .ref (ad 0)), (1, .int y1), (2, .int y2), (3, .int y3)]) hx hb dX11_chance_65 hl (by decide) rfl (fun ls hl => ?_)
  refine lv_iload hx hb dX11_chance_67 (lv_at hl 0 rfl) ?_
  refine lv_iconst (v := (1 : Int32)) hx hb dX11_chance_69 (by decide) ?_
  refine lv_icmp_ge (tgt := 75) hx hb dX11_chance_70 (by decide) (fun hq => ?_) (fun hq => ?_)
  · replace hf := if_t hq hf
    clear hq
    refine lv_iload_n hx hb dX11_chance_75 rfl (lv_at hl 6 rfl) ?_
    refine lv_if_ne (tgt := 84) hx hb dX11_chance_76 (by decide) (fun hq => ?_) (fun hq => ?_)
    · replace hf := if_tn hq hf
      clear hq
      refine lv_iload hx hb dX11_chance_84 (lv_at hl 1 rfl) ?_
      refine lv_iload hx hb dX11_chance_86 (lv_at hl 0 rfl) ?_
      replace hf := chk_some hf
      obtain ⟨hq, hf⟩ := hf
      refine lv_idiv hx hb dX11_chance_88 (nz_ne hq) ?_
      clear hq
      obtain ⟨e1, e2⟩ := xr_inj hf
      subst e1 e2
      exact m_iret C h dX11_chance_89
    · replace hf := if_t hq hf
      clear hq
      refine lv_iload hx hb dX11_chance_79 (lv_at hl 2 rfl) ?_
      refine lv_goto (tgt := 86) hx hb dX11_chance_81 (by decide) ?_
      refine lv_iload hx hb dX11_chance_86 (lv_at hl 0 rfl) ?_
      replace hf := chk_some hf
      obtain ⟨hq, hf⟩ := hf
      refine lv_idiv hx hb dX11_chance_88 (nz_ne hq) ?_
      clear hq
      obtain ⟨e1, e2⟩ := xr_inj hf
      subst e1 e2
      exact m_iret C h dX11_chance_89
  · replace hf := if_f hq hf
    clear hq
    refine lv_iconst (v := (0 : Int32)) hx hb dX11_chance_73 (by decide) ?_
    obtain ⟨e1, e2⟩ := xr_inj hf
    subst e1 e2
    exact m_iret C h dX11_chance_74

set_option maxHeartbeats 4000000 in
set_option maxRecDepth 100000 in
theorem qX11_chance {l : Launch} {D : va_G} {cs : Nat → ClassId} {ad al : Nat → Nat} {P : PL} {r : Int32} {g' : CS} {g : CS}  {a0 : Int32} {a1 : Int32} {a2 : Int32} (hf : fX11_chance P g a0 a1 a2 = some (Sum.inr r, g')) : GCon l D cs yX11_chance cX11_chance 7 (some .int) (rM 14) 0 0 [.ref (ad 0), .int a0, .int a1, .int a2] (SW cs ad al P g) (some (.int r)) (SW cs ad al P g') := by
  refine GCon.of (by decide) (Nat.le_of_ble_eq_true rfl) ?_
  intro p e s m args below meth c A ls H locs C h hl
  have hx := C.1
  have hb := C.2.1
  have C : MCx p s m args meth c A RX11 cX11_chance 7 (some .int) D cs := C
  have hl : lv_has ls 7 [(0, .ref (ad 0)), (1, .int a0), (2, .int a1), (3, .int a2)] := hl
  unfold fX11_chance at hf
  refine lv_aload_n hx hb dX11_chance_0 rfl (lv_at hl 0 rfl) ?_
  refine lv_iload_n hx hb dX11_chance_1 rfl (lv_at hl 1 rfl) ?_
  replace hf := bndx_r hf
  obtain ⟨x5, g6, hc, hf⟩ := hf
  refine m_callVv [.int a0] C h cv_X11_113 (qX11_needMember hc) rfl ⟨rfl, rfl⟩ ⟨Nat.le_of_ble_eq_true rfl, Nat.le_of_ble_eq_true rfl⟩ (rv_X11 C h) hl.1 rfl (Nat.le_of_ble_eq_true rfl) ⟨Nat.le_refl _, Nat.le_refl _⟩ dX11_chance_2 (fun H locs h => ?_)
  clear hc
  refine lv_aload_n hx hb dX11_chance_5 rfl (lv_at hl 0 rfl) ?_
  refine lv_iload_n hx hb dX11_chance_6 rfl (lv_at hl 2 rfl) ?_
  replace hf := bndx_r hf
  obtain ⟨x7, g8, hc, hf⟩ := hf
  refine m_callVv [.int a1] C h cv_X11_339 (qX11_needChances hc) rfl ⟨rfl, rfl⟩ ⟨Nat.le_of_ble_eq_true rfl, Nat.le_of_ble_eq_true rfl⟩ (rv_X11 C h) hl.1 rfl (Nat.le_of_ble_eq_true rfl) ⟨Nat.le_refl _, Nat.le_refl _⟩ dX11_chance_7 (fun H locs h => ?_)
  clear hc
  refine lv_iload_n hx hb dX11_chance_10 rfl (lv_at hl 3 rfl) ?_
  refine lv_if_eq (tgt := 30) hx hb dX11_chance_11 (by decide) (fun hq => ?_) (fun hq => ?_)
  · replace hf := if_t hq hf
    clear hq
    exact wX11_chance_30 (P := P) C g8 a0 a1 a2 hf H locs ls h (lv_sub hl [0, 1, 2, 3] rfl)
  · replace hf := if_f hq hf
    clear hq
    refine lv_iload_n hx hb dX11_chance_14 rfl (lv_at hl 3 rfl) ?_
    refine lv_iconst (v := (1 : Int32)) hx hb dX11_chance_15 (by decide) ?_
    refine lv_icmp_eq (tgt := 30) hx hb dX11_chance_16 (by decide) (fun hq => ?_) (fun hq => ?_)
    · replace hf := if_t hq hf
      clear hq
      exact wX11_chance_30 (P := P) C g8 a0 a1 a2 hf H locs ls h (lv_sub hl [0, 1, 2, 3] rfl)
    · replace hf := if_f hq hf
      clear hq
      exact (xl_r hf).elim

set_option maxHeartbeats 4000000 in
set_option maxRecDepth 100000 in
theorem wX11_likeliest_20 (C : MCx p s m args meth c A RX11 cX11_likeliest 5 (some .int) D cs)  {r : Int32} {g' : CS}  : ∀ (n : Nat) (g : CS) (y2 : Int32) (y3 : Int32) (y4 : Int32), fX11_likeliest_20 P n g y2 y3 y4 = some (Sum.inr r, g') → ∀ (H : Heap) (locs : List Loc) (ls : Array Slot), MH D (SW cs ad al P g) A s H locs → lv_has ls 5 [(0, .ref (ad 0)), (2, .int y2), (3, .int y3), (4, .int y4)] → W p l e (rM 14) s m args below meth c H locs 0 0 (MQ below (GPost D (some (.int r)) (SW cs ad al P g') A) args s 0 0 A) (F0 m 20 ls []) := by
  have hx := C.1
  have hb := C.2.1
  intro n
  induction n with
  | zero =>
    intro g y2 y3 y4 hf
    exact absurd hf (by simp [fX11_likeliest_20])
  | succ n ih =>
    intro g y2 y3 y4 hf H locs ls h hl
    rw [fX11_likeliest_20] at hf
    refine lv_iload hx hb dX11_likeliest_20 (lv_at hl 3 rfl) ?_
    refine lv_aload_n hx hb dX11_likeliest_22 rfl (lv_at hl 0 rfl) ?_
    refine xg_X11 5 C h (by decide) tb_2_3 rfl rfl dX11_likeliest_23 ?_
    refine xg_X6 1 (by simp [okS, okT, ok6]) C h (by decide) tb_43_11 rfl rfl dX11_likeliest_26 ?_
    refine lv_icmp_ge (tgt := 66) hx hb dX11_likeliest_29 (by decide) (fun hq => ?_) (fun hq => ?_)
    · replace hf := if_t hq hf
      clear hq
      refine lv_iload_n hx hb dX11_likeliest_66 rfl (lv_at hl 1 rfl) ?_
      obtain ⟨e1, e2⟩ := xr_inj hf
      subst e1 e2
      exact m_iret C h dX11_likeliest_67
    · replace hf := if_f hq hf
      clear hq
      refine lv_aload_n hx hb dX11_likeliest_32 rfl (lv_at hl 0 rfl) ?_
      refine xg_X11 11 C h (by decide) tb_2_20 rfl rfl dX11_likeliest_33 ?_
      refine xg_X5 6 C h (by decide) tb_65_4 rfl rfl dX11_likeliest_36 ?_
      refine lv_iload hx hb dX11_likeliest_39 (lv_at hl 3 rfl) ?_
      replace hf := chk_some hf
      obtain ⟨hq, hf⟩ := hf
      refine yl_26 C h hq dX11_likeliest_41 ?_
      clear hq
      refine lv_iload_n hx hb dX11_likeliest_42 rfl (lv_at hl 2 rfl) ?_
      refine lv_icmp_le (tgt := 60) hx hb dX11_likeliest_43 (by decide) (fun hq => ?_) (fun hq => ?_)
      · replace hf := if_t hq hf
        clear hq
        obtain ⟨x1, ex1⟩ : ∃ z : Int32, z = y4 + (1 : Int32) := ⟨_, rfl⟩
        replace hf := bnd_at ex1 hf
        refine lv_iinc (v := x1) (lv' := [(4, .int x1), (0, .ref (ad 0)), (2, .int y2), (3, .int y3)]) hx hb dX11_likeliest_60 hl (k := 3) rfl (by rw [ex1]; rfl) (by decide) rfl (fun ls hl => ?_)
        clear ex1
        refine lv_goto (tgt := 20) hx hb dX11_likeliest_63 (by decide) ?_
        exact ih g y2 y3 x1 hf H locs ls h (lv_sub hl [1, 2, 3, 0] rfl)
      · replace hf := if_f hq hf
        clear hq
        refine lv_aload_n hx hb dX11_likeliest_46 rfl (lv_at hl 0 rfl) ?_
        refine xg_X11 11 C h (by decide) tb_2_20 rfl rfl dX11_likeliest_47 ?_
        refine xg_X5 6 C h (by decide) tb_65_4 rfl rfl dX11_likeliest_50 ?_
        refine lv_iload hx hb dX11_likeliest_53 (lv_at hl 3 rfl) ?_
        replace hf := chk_some hf
        obtain ⟨hq, hf⟩ := hf
        refine yl_26 C h hq dX11_likeliest_55 ?_
        clear hq
        refine lv_topi (fun x2 ex2 => ?_)
        replace hf := bnd_at ex2 hf
        clear ex2
        refine lv_istore_n (lv' := [(3, .int x2), (0, .ref (ad 0)), (2, .int y2), (4, .int y4)]) hx hb dX11_likeliest_56 rfl hl (by decide) rfl (fun ls hl => ?_)
        refine lv_iload hx hb dX11_likeliest_57 (lv_at hl 3 rfl) ?_
        refine lv_istore_n (lv' := [(2, .int y4), (3, .int x2), (0, .ref (ad 0)), (4, .int y4)]) hx hb dX11_likeliest_59 rfl hl (by decide) rfl (fun ls hl => ?_)
        obtain ⟨x3, ex3⟩ : ∃ z : Int32, z = y4 + (1 : Int32) := ⟨_, rfl⟩
        replace hf := bnd_at ex3 hf
        refine lv_iinc (v := x3) (lv' := [(4, .int x3), (2, .int y4), (3, .int x2), (0, .ref (ad 0))]) hx hb dX11_likeliest_60 hl (k := 3) rfl (by rw [ex3]; rfl) (by decide) rfl (fun ls hl => ?_)
        clear ex3
        refine lv_goto (tgt := 20) hx hb dX11_likeliest_63 (by decide) ?_
        exact ih g y4 x2 x3 hf H locs ls h (lv_sub hl [3, 1, 2, 0] rfl)

set_option maxHeartbeats 4000000 in
set_option maxRecDepth 100000 in
theorem qX11_likeliest {l : Launch} {D : va_G} {cs : Nat → ClassId} {ad al : Nat → Nat} {P : PL} {r : Int32} {g' : CS} {g : CS}  {a0 : Int32} (hf : fX11_likeliest P g a0 = some (Sum.inr r, g')) : GCon l D cs yX11_likeliest cX11_likeliest 5 (some .int) (rM 14) 0 0 [.ref (ad 0), .int a0] (SW cs ad al P g) (some (.int r)) (SW cs ad al P g') := by
  refine GCon.of (by decide) (Nat.le_of_ble_eq_true rfl) ?_
  intro p e s m args below meth c A ls H locs C h hl
  have hx := C.1
  have hb := C.2.1
  have C : MCx p s m args meth c A RX11 cX11_likeliest 5 (some .int) D cs := C
  have hl : lv_has ls 5 [(0, .ref (ad 0)), (1, .int a0)] := hl
  unfold fX11_likeliest at hf
  refine lv_aload_n hx hb dX11_likeliest_0 rfl (lv_at hl 0 rfl) ?_
  refine lv_iload_n hx hb dX11_likeliest_1 rfl (lv_at hl 1 rfl) ?_
  replace hf := bndx_r hf
  obtain ⟨x4, g5, hc, hf⟩ := hf
  refine m_callVv [.int a0] C h cv_X11_339 (qX11_needChances hc) rfl ⟨rfl, rfl⟩ ⟨Nat.le_of_ble_eq_true rfl, Nat.le_of_ble_eq_true rfl⟩ (rv_X11 C h) hl.1 rfl (Nat.le_of_ble_eq_true rfl) ⟨Nat.le_refl _, Nat.le_refl _⟩ dX11_likeliest_2 (fun H locs h => ?_)
  clear hc
  refine lv_aload_n hx hb dX11_likeliest_5 rfl (lv_at hl 0 rfl) ?_
  refine xg_X11 11 C h (by decide) tb_2_20 rfl rfl dX11_likeliest_6 ?_
  refine lv_iload_n hx hb dX11_likeliest_9 rfl (lv_at hl 1 rfl) ?_
  replace hf := bndv_some hf
  obtain ⟨g6, hc, hf⟩ := hf
  refine m_callVv [.int a0] C h cv_X11_344 (qX5_scatter hc) rfl ⟨rfl, rfl⟩ ⟨Nat.le_of_ble_eq_true rfl, Nat.le_of_ble_eq_true rfl⟩ (rv_X5 C h) hl.1 rfl (Nat.le_of_ble_eq_true rfl) ⟨Nat.le_refl _, Nat.le_refl _⟩ dX11_likeliest_10 (fun H locs h => ?_)
  clear hc
  refine lv_iconst (v := (-1 : Int32)) hx hb dX11_likeliest_13 (by decide) ?_
  refine lv_istore_n (lv' := [(2, .int (-1 : Int32)), (0, .ref (ad 0)), (1, .int a0)]) hx hb dX11_likeliest_14 rfl hl (by decide) rfl (fun ls hl => ?_)
  refine lv_iconst (v := (0 : Int32)) hx hb dX11_likeliest_15 (by decide) ?_
  refine lv_istore_n (lv' := [(3, .int (0 : Int32)), (2, .int (-1 : Int32)), (0, .ref (ad 0)), (1, .int a0)]) hx hb dX11_likeliest_16 rfl hl (by decide) rfl (fun ls hl => ?_)
  refine lv_iconst (v := (0 : Int32)) hx hb dX11_likeliest_17 (by decide) ?_
  refine lv_istore (lv' := [(4, .int (0 : Int32)), (3, .int (0 : Int32)), (2, .int (-1 : Int32)), (0, .ref (ad 0)), (1, .int a0)]) hx hb dX11_likeliest_18 hl (by decide) rfl (fun ls hl => ?_)
  exact wX11_likeliest_20 (P := P) C fuel g6 (-1 : Int32) (0 : Int32) (0 : Int32) hf H locs ls h (lv_sub hl [3, 2, 1, 0] rfl)

set_option maxHeartbeats 4000000 in
set_option maxRecDepth 100000 in
theorem qX11_tray {l : Launch} {D : va_G} {cs : Nat → ClassId} {ad al : Nat → Nat} {P : PL} {r : Unit} {g' : CS} {g : CS}  {a0 : Int32} {a1 : Int32} {a2 : Int32} (hf : fX11_tray P g a0 a1 a2 = some (Sum.inr r, g')) : GCon l D cs yX11_tray cX11_tray 4 none (rM 2) 0 0 [.ref (ad 0), .int a0, .int a1, .int a2] (SW cs ad al P g) none (SW cs ad al P g') := by
  refine GCon.of (by decide) (Nat.le_of_ble_eq_true rfl) ?_
  intro p e s m args below meth c A ls H locs C h hl
  have hx := C.1
  have hb := C.2.1
  have C : MCx p s m args meth c A RX11 cX11_tray 4 none D cs := C
  have hl : lv_has ls 4 [(0, .ref (ad 0)), (1, .int a0), (2, .int a1), (3, .int a2)] := hl
  unfold fX11_tray at hf
  refine lv_iload_n hx hb dX11_tray_0 rfl (lv_at hl 1 rfl) ?_
  refine lv_if_lt (tgt := 9) hx hb dX11_tray_1 (by decide) (fun hq => ?_) (fun hq => ?_)
  · replace hf := if_t hq hf
    clear hq
    exact (xl_r hf).elim
  · replace hf := if_f hq hf
    clear hq
    refine lv_iload_n hx hb dX11_tray_4 rfl (lv_at hl 1 rfl) ?_
    refine lv_iconst (v := (4 : Int32)) hx hb dX11_tray_5 (by decide) ?_
    refine lv_icmp_lt (tgt := 20) hx hb dX11_tray_6 (by decide) (fun hq => ?_) (fun hq => ?_)
    · replace hf := if_t hq hf
      clear hq
      refine lv_iload_n hx hb dX11_tray_20 rfl (lv_at hl 2 rfl) ?_
      refine lv_if_lt (tgt := 39) hx hb dX11_tray_21 (by decide) (fun hq => ?_) (fun hq => ?_)
      · replace hf := if_t hq hf
        clear hq
        exact (xl_r hf).elim
      · replace hf := if_f hq hf
        clear hq
        refine lv_iload_n hx hb dX11_tray_24 rfl (lv_at hl 2 rfl) ?_
        refine lv_iconst (v := (3 : Int32)) hx hb dX11_tray_25 (by decide) ?_
        refine lv_icmp_gt (tgt := 39) hx hb dX11_tray_26 (by decide) (fun hq => ?_) (fun hq => ?_)
        · replace hf := if_t hq hf
          clear hq
          exact (xl_r hf).elim
        · replace hf := if_f hq hf
          clear hq
          refine lv_iload_n hx hb dX11_tray_29 rfl (lv_at hl 3 rfl) ?_
          refine lv_if_lt (tgt := 39) hx hb dX11_tray_30 (by decide) (fun hq => ?_) (fun hq => ?_)
          · replace hf := if_t hq hf
            clear hq
            exact (xl_r hf).elim
          · replace hf := if_f hq hf
            clear hq
            refine lv_iload_n hx hb dX11_tray_33 rfl (lv_at hl 3 rfl) ?_
            refine lv_bipush (v := (30 : Int32)) hx hb dX11_tray_34 (by decide) ?_
            refine lv_icmp_le (tgt := 50) hx hb dX11_tray_36 (by decide) (fun hq => ?_) (fun hq => ?_)
            · replace hf := if_t hq hf
              clear hq
              refine lv_aload_n hx hb dX11_tray_50 rfl (lv_at hl 0 rfl) ?_
              refine xg_X11 8 C h (by decide) tb_2_7 rfl rfl dX11_tray_51 ?_
              refine lv_iload_n hx hb dX11_tray_54 rfl (lv_at hl 1 rfl) ?_
              replace hf := chk_some hf
              obtain ⟨hq, hf⟩ := hf
              refine yr_3 C h hq dX11_tray_55 ?_
              clear hq
              obtain ⟨o1, eo1⟩ : ∃ z : Nat, z = 50 + ix a0 := ⟨_, rfl⟩
              replace hf := bnd_at eo1 hf
              rw [← eo1]
              clear eo1
              replace hf := chk_some hf
              obtain ⟨hq, hf⟩ := hf
              have hn_o1 := okTb_t hq
              clear hq
              refine lv_iload_n hx hb dX11_tray_56 rfl (lv_at hl 2 rfl) ?_
              refine lv_iload_n hx hb dX11_tray_57 rfl (lv_at hl 3 rfl) ?_
              replace hf := bndv_some hf
              obtain ⟨g2, hc, hf⟩ := hf
              refine m_callVv [.int a1, .int a2] C h cv_X11_363 (qX9_clearTo hn_o1 hc) rfl ⟨rfl, rfl⟩ ⟨Nat.le_of_ble_eq_true rfl, Nat.le_of_ble_eq_true rfl⟩ (rv_X9 hn_o1 C h) hl.1 rfl (Nat.le_of_ble_eq_true rfl) ⟨Nat.le_refl _, Nat.le_refl _⟩ dX11_tray_58 (fun H locs h => ?_)
              clear hc
              obtain ⟨e1, e2⟩ := xr_inj hf
              subst e1 e2
              exact m_vret C h dX11_tray_61
            · replace hf := if_f hq hf
              clear hq
              exact (xl_r hf).elim
    · replace hf := if_f hq hf
      clear hq
      exact (xl_r hf).elim

set_option maxHeartbeats 4000000 in
set_option maxRecDepth 100000 in
theorem qX11_write {l : Launch} {D : va_G} {cs : Nat → ClassId} {ad al : Nat → Nat} {P : PL} {r : Int64} {g' : CS} {g : CS}  {a0 : Int32} {a1 : Int32} {a2 : Int64} (hf : fX11_write P g a0 a1 a2 = some (Sum.inr r, g')) : GCon l D cs yX11_write cX11_write 6 (some .long) (rM 2) 0 0 [.ref (ad 0), .int a0, .int a1, .long a2] (SW cs ad al P g) (some (.long r)) (SW cs ad al P g') := by
  refine GCon.of (by decide) (Nat.le_of_ble_eq_true rfl) ?_
  intro p e s m args below meth c A ls H locs C h hl
  have hx := C.1
  have hb := C.2.1
  have C : MCx p s m args meth c A RX11 cX11_write 6 (some .long) D cs := C
  have hl : lv_has ls 6 [(0, .ref (ad 0)), (1, .int a0), (2, .int a1), (3, .long a2)] := hl
  unfold fX11_write at hf
  refine lv_aload_n hx hb dX11_write_0 rfl (lv_at hl 0 rfl) ?_
  refine lv_iload_n hx hb dX11_write_1 rfl (lv_at hl 1 rfl) ?_
  replace hf := bndx_r hf
  obtain ⟨o1, g2, hc, hf⟩ := hf
  refine m_callVr [.int a0] C h cv_X11_187 (qX11_needTray hc) rfl ⟨rfl, rfl⟩ ⟨Nat.le_of_ble_eq_true rfl, Nat.le_of_ble_eq_true rfl⟩ (rv_X11 C h) hl.1 rfl (Nat.le_of_ble_eq_true rfl) ⟨Nat.le_refl _, Nat.le_refl _⟩ dX11_write_2 (fun H locs h => ?_)
  clear hc
  replace hf := chk_some hf
  obtain ⟨hq, hf⟩ := hf
  have hn_o1 := okTb_t hq
  clear hq
  refine lv_astore (lv' := [(5, .ref (ad o1)), (0, .ref (ad 0)), (1, .int a0), (2, .int a1), (3, .long a2)]) hx hb dX11_write_5 hl (by decide) rfl (fun ls hl => ?_)
  refine lv_iload_n hx hb dX11_write_7 rfl (lv_at hl 3 rfl) ?_
  refine lv_if_lt (tgt := 20) hx hb dX11_write_8 (by decide) (fun hq => ?_) (fun hq => ?_)
  · replace hf := if_t hq hf
    clear hq
    exact (xl_r hf).elim
  · replace hf := if_f hq hf
    clear hq
    refine lv_iload_n hx hb dX11_write_11 rfl (lv_at hl 3 rfl) ?_
    refine lv_aload hx hb dX11_write_12 (lv_at hl 0 rfl) ?_
    refine xg_X9 0 hn_o1 C h (by decide) tb_38_23 rfl rfl dX11_write_14 ?_
    refine lv_icmp_lt (tgt := 31) hx hb dX11_write_17 (by decide) (fun hq => ?_) (fun hq => ?_)
    · replace hf := if_t hq hf
      clear hq
      refine lv_aload hx hb dX11_write_31 (lv_at hl 0 rfl) ?_
      refine lv_iload_n hx hb dX11_write_33 rfl (lv_at hl 3 rfl) ?_
      refine lv_lload_n hx hb dX11_write_34 rfl (lv_at hl 4 rfl) ?_
      replace hf := bndc_some hf
      obtain ⟨x3, g4, hc, hf⟩ := hf
      refine m_callVl [.int a1, .long a2] C h cv_X11_371 (qX9_put hn_o1 hc) rfl ⟨rfl, rfl⟩ ⟨Nat.le_of_ble_eq_true rfl, Nat.le_of_ble_eq_true rfl⟩ (rv_X9 hn_o1 C h) hl.1 rfl (Nat.le_of_ble_eq_true rfl) ⟨Nat.le_refl _, Nat.le_refl _⟩ dX11_write_35 (fun H locs h => ?_)
      clear hc
      obtain ⟨e1, e2⟩ := xr_inj hf
      subst e1 e2
      exact m_lret C h dX11_write_38
    · replace hf := if_f hq hf
      clear hq
      exact (xl_r hf).elim

set_option maxHeartbeats 4000000 in
set_option maxRecDepth 100000 in
theorem wX11_copy_43 (C : MCx p s m args meth c A RX11 cX11_copy 7 (some .int) D cs)  {r : Int32} {g' : CS}  : ∀ (n : Nat) (g : CS) (y3 : Nat) (y4 : Int32) (y5 : Int32) (y6 : Int32), okT y3 → fX11_copy_43 P n g y3 y4 y5 y6 = some (Sum.inr r, g') → ∀ (H : Heap) (locs : List Loc) (ls : Array Slot), MH D (SW cs ad al P g) A s H locs → lv_has ls 7 [(3, .ref (ad y3)), (4, .int y4), (5, .int y5), (6, .int y6)] → W p l e (rM 7) s m args below meth c H locs 0 0 (MQ below (GPost D (some (.int r)) (SW cs ad al P g') A) args s 0 0 A) (F0 m 43 ls []) := by
  have hx := C.1
  have hb := C.2.1
  intro n
  induction n with
  | zero =>
    intro g y3 y4 y5 y6 hn_y3 hf
    exact absurd hf (by simp [fX11_copy_43])
  | succ n ih =>
    intro g y3 y4 y5 y6 hn_y3 hf H locs ls h hl
    rw [fX11_copy_43] at hf
    refine lv_iload hx hb dX11_copy_43 (lv_at hl 3 rfl) ?_
    refine lv_iload hx hb dX11_copy_45 (lv_at hl 2 rfl) ?_
    refine lv_icmp_ge (tgt := 71) hx hb dX11_copy_47 (by decide) (fun hq => ?_) (fun hq => ?_)
    · replace hf := if_t hq hf
      clear hq
      refine lv_iload hx hb dX11_copy_71 (lv_at hl 2 rfl) ?_
      obtain ⟨e1, e2⟩ := xr_inj hf
      subst e1 e2
      exact m_iret C h dX11_copy_73
    · replace hf := if_f hq hf
      clear hq
      refine lv_aload_n hx hb dX11_copy_50 rfl (lv_at hl 0 rfl) ?_
      refine lv_iload hx hb dX11_copy_51 (lv_at hl 3 rfl) ?_
      refine lv_iload hx hb dX11_copy_53 (lv_at hl 1 rfl) ?_
      refine lv_iload hx hb dX11_copy_55 (lv_at hl 3 rfl) ?_
      replace hf := bndv_some hf
      obtain ⟨x1, hc, hf⟩ := hf
      refine m_callSi [.int y4, .int y6] C h cs_X11_119 (qX1_at hc) rfl ⟨rfl, rfl⟩ ⟨Nat.le_of_ble_eq_true rfl, Nat.le_of_ble_eq_true rfl⟩ hl.1 rfl (Nat.le_of_ble_eq_true rfl) ⟨Nat.le_refl _, Nat.le_refl _⟩ dX11_copy_57 (fun H locs h => ?_)
      clear hc
      refine lv_i2l hx hb dX11_copy_60 rfl ?_
      replace hf := bndc_some hf
      obtain ⟨x2, g3, hc, hf⟩ := hf
      refine m_callVl [.int y6, .long x1.toInt64] C h cv_X11_371 (qX9_put hn_y3 hc) rfl ⟨rfl, rfl⟩ ⟨Nat.le_of_ble_eq_true rfl, Nat.le_of_ble_eq_true rfl⟩ (rv_X9 hn_y3 C h) hl.1 rfl (Nat.le_of_ble_eq_true rfl) ⟨Nat.le_refl _, Nat.le_refl _⟩ dX11_copy_61 (fun H locs h => ?_)
      clear hc
      refine lv_pop2_2 hx hb dX11_copy_64 rfl ?_
      obtain ⟨x4, ex4⟩ : ∃ z : Int32, z = y6 + (1 : Int32) := ⟨_, rfl⟩
      replace hf := bnd_at ex4 hf
      refine lv_iinc (v := x4) (lv' := [(6, .int x4), (3, .ref (ad y3)), (4, .int y4), (5, .int y5)]) hx hb dX11_copy_65 hl (k := 3) rfl (by rw [ex4]; rfl) (by decide) rfl (fun ls hl => ?_)
      clear ex4
      refine lv_goto (tgt := 43) hx hb dX11_copy_68 (by decide) ?_
      exact ih g3 y3 y4 y5 x4 hn_y3 hf H locs ls h (lv_sub hl [1, 2, 3, 0] rfl)

set_option maxHeartbeats 4000000 in
set_option maxRecDepth 100000 in
theorem qX11_copy {l : Launch} {D : va_G} {cs : Nat → ClassId} {ad al : Nat → Nat} {P : PL} {r : Int32} {g' : CS} {g : CS}  {a0 : Int32} {a1 : Int32} (hf : fX11_copy P g a0 a1 = some (Sum.inr r, g')) : GCon l D cs yX11_copy cX11_copy 7 (some .int) (rM 7) 0 0 [.ref (ad 0), .int a0, .int a1] (SW cs ad al P g) (some (.int r)) (SW cs ad al P g') := by
  refine GCon.of (by decide) (Nat.le_of_ble_eq_true rfl) ?_
  intro p e s m args below meth c A ls H locs C h hl
  have hx := C.1
  have hb := C.2.1
  have C : MCx p s m args meth c A RX11 cX11_copy 7 (some .int) D cs := C
  have hl : lv_has ls 7 [(0, .ref (ad 0)), (1, .int a0), (2, .int a1)] := hl
  unfold fX11_copy at hf
  refine lv_aload_n hx hb dX11_copy_0 rfl (lv_at hl 0 rfl) ?_
  refine lv_iload_n hx hb dX11_copy_1 rfl (lv_at hl 1 rfl) ?_
  replace hf := bndx_r hf
  obtain ⟨o5, g6, hc, hf⟩ := hf
  refine m_callVr [.int a0] C h cv_X11_187 (qX11_needTray hc) rfl ⟨rfl, rfl⟩ ⟨Nat.le_of_ble_eq_true rfl, Nat.le_of_ble_eq_true rfl⟩ (rv_X11 C h) hl.1 rfl (Nat.le_of_ble_eq_true rfl) ⟨Nat.le_refl _, Nat.le_refl _⟩ dX11_copy_2 (fun H locs h => ?_)
  clear hc
  replace hf := chk_some hf
  obtain ⟨hq, hf⟩ := hf
  have hn_o5 := okTb_t hq
  clear hq
  refine lv_astore_n (lv' := [(3, .ref (ad o5)), (0, .ref (ad 0)), (1, .int a0), (2, .int a1)]) hx hb dX11_copy_5 rfl hl (by decide) rfl (fun ls hl => ?_)
  refine lv_aload_n hx hb dX11_copy_6 rfl (lv_at hl 1 rfl) ?_
  refine lv_iload_n hx hb dX11_copy_7 rfl (lv_at hl 3 rfl) ?_
  refine lv_ldcw hx hb C.2.2.2.1 (C.2.2.2.2.1 _ tb_59_23) dX11_copy_8 ?_
  replace hf := bndx_r hf
  obtain ⟨x7, g8, hc, hf⟩ := hf
  refine m_callVv [.int a1, .int (99999 : Int32)] C h cv_X11_319 (qX11_needMinutes hc) rfl ⟨rfl, rfl⟩ ⟨Nat.le_of_ble_eq_true rfl, Nat.le_of_ble_eq_true rfl⟩ (rv_X11 C h) hl.1 rfl (Nat.le_of_ble_eq_true rfl) ⟨Nat.le_refl _, Nat.le_refl _⟩ dX11_copy_11 (fun H locs h => ?_)
  clear hc
  refine lv_aload_n hx hb dX11_copy_14 rfl (lv_at hl 1 rfl) ?_
  refine xg_X11 12 C h (by decide) tb_3_0 rfl rfl dX11_copy_15 ?_
  refine lv_iload_n hx hb dX11_copy_18 rfl (lv_at hl 3 rfl) ?_
  replace hf := bndc_some hf
  obtain ⟨x9, g10, hc, hf⟩ := hf
  refine m_callVi [.int a1] C h cv_X11_322 (qX0_lookIn hc) rfl ⟨rfl, rfl⟩ ⟨Nat.le_of_ble_eq_true rfl, Nat.le_of_ble_eq_true rfl⟩ (rv_X0 C h) hl.1 rfl (Nat.le_of_ble_eq_true rfl) ⟨Nat.le_refl _, Nat.le_refl _⟩ dX11_copy_19 (fun H locs h => ?_)
  clear hc
  refine lv_istore (lv' := [(4, .int x9), (3, .ref (ad o5)), (0, .ref (ad 0)), (1, .int a0), (2, .int a1)]) hx hb dX11_copy_22 hl (by decide) rfl (fun ls hl => ?_)
  refine lv_aload_n hx hb dX11_copy_24 rfl (lv_at hl 1 rfl) ?_
  refine xg_X9 0 hn_o5 C h (by decide) tb_38_23 rfl rfl dX11_copy_25 ?_
  refine lv_aload_n hx hb dX11_copy_28 rfl (lv_at hl 2 rfl) ?_
  refine xg_X11 5 C h (by decide) tb_2_3 rfl rfl dX11_copy_29 ?_
  refine xg_X6 1 (by simp [okS, okT, ok6]) C h (by decide) tb_43_11 rfl rfl dX11_copy_32 ?_
  refine x_min tb_69_9 C hl.1 (Nat.le_of_ble_eq_true rfl) (Nat.le_of_ble_eq_true rfl) (Nat.le_refl _) (Nat.le_refl _) dX11_copy_35 ?_
  refine lv_topi (fun x11 ex11 => ?_)
  replace hf := bnd_at ex11 hf
  clear ex11
  refine lv_istore (lv' := [(5, .int x11), (4, .int x9), (3, .ref (ad o5)), (0, .ref (ad 0)), (1, .int a0), (2, .int a1)]) hx hb dX11_copy_38 hl (by decide) rfl (fun ls hl => ?_)
  refine lv_iconst (v := (0 : Int32)) hx hb dX11_copy_40 (by decide) ?_
  refine lv_istore (lv' := [(6, .int (0 : Int32)), (5, .int x11), (4, .int x9), (3, .ref (ad o5)), (0, .ref (ad 0)), (1, .int a0), (2, .int a1)]) hx hb dX11_copy_41 hl (by decide) rfl (fun ls hl => ?_)
  exact wX11_copy_43 (P := P) C fuel g10 o5 x9 x11 (0 : Int32) hn_o5 hf H locs ls h (lv_sub hl [3, 2, 1, 0] rfl)

set_option maxHeartbeats 4000000 in
set_option maxRecDepth 100000 in
theorem qX11_needImage {l : Launch} {D : va_G} {cs : Nat → ClassId} {ad al : Nat → Nat} {P : PL} {r : Unit} {g' : CS} {g : CS}  {a0 : Int32} (hf : fX11_needImage P g a0 = some (Sum.inr r, g')) : GCon l D cs yX11_needImage cX11_needImage 2 none (rM 0) 0 0 [.ref (ad 0), .int a0] (SW cs ad al P g) none (SW cs ad al P g') := by
  refine GCon.of (by decide) (Nat.le_of_ble_eq_true rfl) ?_
  intro p e s m args below meth c A ls H locs C h hl
  have hx := C.1
  have hb := C.2.1
  have C : MCx p s m args meth c A RX11 cX11_needImage 2 none D cs := C
  have hl : lv_has ls 2 [(0, .ref (ad 0)), (1, .int a0)] := hl
  unfold fX11_needImage at hf
  refine lv_iload_n hx hb dX11_needImage_0 rfl (lv_at hl 1 rfl) ?_
  refine lv_if_lt (tgt := 9) hx hb dX11_needImage_1 (by decide) (fun hq => ?_) (fun hq => ?_)
  · replace hf := if_t hq hf
    clear hq
    exact (xl_r hf).elim
  · replace hf := if_f hq hf
    clear hq
    refine lv_iload_n hx hb dX11_needImage_4 rfl (lv_at hl 1 rfl) ?_
    refine lv_iconst (v := (3 : Int32)) hx hb dX11_needImage_5 (by decide) ?_
    refine lv_icmp_lt (tgt := 20) hx hb dX11_needImage_6 (by decide) (fun hq => ?_) (fun hq => ?_)
    · replace hf := if_t hq hf
      clear hq
      obtain ⟨e1, e2⟩ := xr_inj hf
      subst e1 e2
      exact m_vret C h dX11_needImage_20
    · replace hf := if_f hq hf
      clear hq
      exact (xl_r hf).elim

set_option maxHeartbeats 4000000 in
set_option maxRecDepth 100000 in
theorem qX11_image {l : Launch} {D : va_G} {cs : Nat → ClassId} {ad al : Nat → Nat} {P : PL} {r : Unit} {g' : CS} {g : CS}  {a0 : Int32} (hf : fX11_image P g a0 = some (Sum.inr r, g')) : GCon l D cs yX11_image cX11_image 2 none (rM 2) 0 0 [.ref (ad 0), .int a0] (SW cs ad al P g) none (SW cs ad al P g') := by
  refine GCon.of (by decide) (Nat.le_of_ble_eq_true rfl) ?_
  intro p e s m args below meth c A ls H locs C h hl
  have hx := C.1
  have hb := C.2.1
  have C : MCx p s m args meth c A RX11 cX11_image 2 none D cs := C
  have hl : lv_has ls 2 [(0, .ref (ad 0)), (1, .int a0)] := hl
  unfold fX11_image at hf
  refine lv_aload_n hx hb dX11_image_0 rfl (lv_at hl 0 rfl) ?_
  refine lv_iload_n hx hb dX11_image_1 rfl (lv_at hl 1 rfl) ?_
  replace hf := bndx_r hf
  obtain ⟨x1, g2, hc, hf⟩ := hf
  refine m_callVv [.int a0] C h cv_X11_380 (qX11_needImage hc) rfl ⟨rfl, rfl⟩ ⟨Nat.le_of_ble_eq_true rfl, Nat.le_of_ble_eq_true rfl⟩ (rv_X11 C h) hl.1 rfl (Nat.le_of_ble_eq_true rfl) ⟨Nat.le_refl _, Nat.le_refl _⟩ dX11_image_2 (fun H locs h => ?_)
  clear hc
  refine lv_aload_n hx hb dX11_image_5 rfl (lv_at hl 0 rfl) ?_
  refine xg_X11 7 C h (by decide) tb_2_5 rfl rfl dX11_image_6 ?_
  refine lv_iload_n hx hb dX11_image_9 rfl (lv_at hl 1 rfl) ?_
  replace hf := chk_some hf
  obtain ⟨hq, hf⟩ := hf
  refine yr_2 C h hq dX11_image_10 ?_
  clear hq
  obtain ⟨o3, eo3⟩ : ∃ z : Nat, z = 32 + ix a0 := ⟨_, rfl⟩
  replace hf := bnd_at eo3 hf
  rw [← eo3]
  clear eo3
  replace hf := chk_some hf
  obtain ⟨hq, hf⟩ := hf
  have hn_o3 := okSb_t hq
  clear hq
  refine lv_aload_n hx hb dX11_image_11 rfl (lv_at hl 0 rfl) ?_
  refine xg_X11 5 C h (by decide) tb_2_3 rfl rfl dX11_image_12 ?_
  replace hf := bndv_some hf
  obtain ⟨g4, hc, hf⟩ := hf
  refine m_callVv [.ref (ad 30)] C h cv_X11_193 (qX6_become hn_o3 (by simp [okS, okT, ok6]) hc) rfl ⟨rfl, rfl⟩ ⟨Nat.le_of_ble_eq_true rfl, Nat.le_of_ble_eq_true rfl⟩ (rv_X6 hn_o3 C h) hl.1 rfl (Nat.le_of_ble_eq_true rfl) ⟨Nat.le_refl _, Nat.le_refl _⟩ dX11_image_15 (fun H locs h => ?_)
  clear hc
  refine lv_aload_n hx hb dX11_image_18 rfl (lv_at hl 0 rfl) ?_
  refine lv_dup hx hb dX11_image_19 rfl ?_
  refine xg_X11 4 C h (by decide) tb_69_21 rfl rfl dX11_image_20 ?_
  refine lv_iconst (v := (1 : Int32)) hx hb dX11_image_23 (by decide) ?_
  refine lv_iload_n hx hb dX11_image_24 rfl (lv_at hl 1 rfl) ?_
  refine x_ishl hx hb dX11_image_25 ?_
  refine lv_ior hx hb dX11_image_26 ?_
  replace hf := bnd_ex hf
  obtain ⟨g5, eg5, hf⟩ := hf
  refine xp_X11_4 C h tb_69_21 dX11_image_27 (fun H locs h => ?_)
  rw [← eg5] at h
  clear eg5
  obtain ⟨e1, e2⟩ := xr_inj hf
  subst e1 e2
  exact m_vret C h dX11_image_30

set_option maxHeartbeats 4000000 in
set_option maxRecDepth 100000 in
theorem qX11_restore {l : Launch} {D : va_G} {cs : Nat → ClassId} {ad al : Nat → Nat} {P : PL} {r : Unit} {g' : CS} {g : CS}  {a0 : Int32} (hf : fX11_restore P g a0 = some (Sum.inr r, g')) : GCon l D cs yX11_restore cX11_restore 2 none (rM 2) 0 0 [.ref (ad 0), .int a0] (SW cs ad al P g) none (SW cs ad al P g') := by
  refine GCon.of (by decide) (Nat.le_of_ble_eq_true rfl) ?_
  intro p e s m args below meth c A ls H locs C h hl
  have hx := C.1
  have hb := C.2.1
  have C : MCx p s m args meth c A RX11 cX11_restore 2 none D cs := C
  have hl : lv_has ls 2 [(0, .ref (ad 0)), (1, .int a0)] := hl
  unfold fX11_restore at hf
  refine lv_aload_n hx hb dX11_restore_0 rfl (lv_at hl 0 rfl) ?_
  refine lv_iload_n hx hb dX11_restore_1 rfl (lv_at hl 1 rfl) ?_
  replace hf := bndx_r hf
  obtain ⟨x1, g2, hc, hf⟩ := hf
  refine m_callVv [.int a0] C h cv_X11_380 (qX11_needImage hc) rfl ⟨rfl, rfl⟩ ⟨Nat.le_of_ble_eq_true rfl, Nat.le_of_ble_eq_true rfl⟩ (rv_X11 C h) hl.1 rfl (Nat.le_of_ble_eq_true rfl) ⟨Nat.le_refl _, Nat.le_refl _⟩ dX11_restore_2 (fun H locs h => ?_)
  clear hc
  refine lv_aload_n hx hb dX11_restore_5 rfl (lv_at hl 0 rfl) ?_
  refine xg_X11 4 C h (by decide) tb_69_21 rfl rfl dX11_restore_6 ?_
  refine lv_iload_n hx hb dX11_restore_9 rfl (lv_at hl 1 rfl) ?_
  refine x_ishr hx hb dX11_restore_10 ?_
  refine lv_iconst (v := (1 : Int32)) hx hb dX11_restore_11 (by decide) ?_
  refine lv_iand hx hb dX11_restore_12 ?_
  refine lv_if_ne (tgt := 27) hx hb dX11_restore_13 (by decide) (fun hq => ?_) (fun hq => ?_)
  · replace hf := if_tn hq hf
    clear hq
    refine lv_aload_n hx hb dX11_restore_27 rfl (lv_at hl 0 rfl) ?_
    refine xg_X11 5 C h (by decide) tb_2_3 rfl rfl dX11_restore_28 ?_
    refine lv_aload_n hx hb dX11_restore_31 rfl (lv_at hl 0 rfl) ?_
    refine xg_X11 7 C h (by decide) tb_2_5 rfl rfl dX11_restore_32 ?_
    refine lv_iload_n hx hb dX11_restore_35 rfl (lv_at hl 1 rfl) ?_
    replace hf := chk_some hf
    obtain ⟨hq, hf⟩ := hf
    refine yr_2 C h hq dX11_restore_36 ?_
    clear hq
    obtain ⟨o3, eo3⟩ : ∃ z : Nat, z = 32 + ix a0 := ⟨_, rfl⟩
    replace hf := bnd_at eo3 hf
    rw [← eo3]
    clear eo3
    replace hf := chk_some hf
    obtain ⟨hq, hf⟩ := hf
    have hn_o3 := okSb_t hq
    clear hq
    replace hf := bndv_some hf
    obtain ⟨g4, hc, hf⟩ := hf
    refine m_callVv [.ref (ad o3)] C h cv_X11_193 (qX6_become (by simp [okS, okT, ok6]) hn_o3 hc) rfl ⟨rfl, rfl⟩ ⟨Nat.le_of_ble_eq_true rfl, Nat.le_of_ble_eq_true rfl⟩ (rv_X6 (by simp [okS, okT, ok6]) C h) hl.1 rfl (Nat.le_of_ble_eq_true rfl) ⟨Nat.le_refl _, Nat.le_refl _⟩ dX11_restore_37 (fun H locs h => ?_)
    clear hc
    obtain ⟨e1, e2⟩ := xr_inj hf
    subst e1 e2
    exact m_vret C h dX11_restore_40
  · replace hf := if_t hq hf
    clear hq
    exact (xl_r hf).elim

set_option maxHeartbeats 4000000 in
set_option maxRecDepth 100000 in
theorem qX11_count {l : Launch} {D : va_G} {cs : Nat → ClassId} {ad al : Nat → Nat} {P : PL} {r : Int32} {g' : CS} {g : CS}  {a0 : Int32} (hf : fX11_count P g a0 = some (r, g')) : GCon l D cs yX11_count cX11_count 2 (some .int) (rM 2) 0 0 [.ref (ad 0), .int a0] (SW cs ad al P g) (some (.int r)) (SW cs ad al P g') := by
  refine GCon.of (by decide) (Nat.le_of_ble_eq_true rfl) ?_
  intro p e s m args below meth c A ls H locs C h hl
  have hx := C.1
  have hb := C.2.1
  have C : MCx p s m args meth c A RX11 cX11_count 2 (some .int) D cs := C
  have hl : lv_has ls 2 [(0, .ref (ad 0)), (1, .int a0)] := hl
  unfold fX11_count at hf
  refine lv_iload_n hx hb dX11_count_0 rfl (lv_at hl 1 rfl) ?_
  rcases Decidable.em (a0 = (0 : Int32)) with hq | q0
  · replace hf := if_t hq hf
    subst hq
    refine lv_tableIn (off := 47) (tgt := 48) hx hb dX11_count_1 (by decide) (by decide) (by decide) (by decide) ?_
    refine lv_aload_n hx hb dX11_count_48 rfl (lv_at hl 0 rfl) ?_
    refine xg_X11 5 C h (by decide) tb_2_3 rfl rfl dX11_count_49 ?_
    refine xg_X6 2 (by simp [okS, okT, ok6]) C h (by decide) tb_9_9 rfl rfl dX11_count_52 ?_
    obtain ⟨e1, e2⟩ := pr_inj hf
    subst e1 e2
    exact m_iret C h dX11_count_55
  replace hf := if_f q0 hf
  rcases Decidable.em (a0 = (1 : Int32)) with hq | q1
  · replace hf := if_t hq hf
    subst hq
    refine lv_tableIn (off := 55) (tgt := 56) hx hb dX11_count_1 (by decide) (by decide) (by decide) (by decide) ?_
    refine lv_aload_n hx hb dX11_count_56 rfl (lv_at hl 0 rfl) ?_
    refine xg_X11 5 C h (by decide) tb_2_3 rfl rfl dX11_count_57 ?_
    refine xg_X6 1 (by simp [okS, okT, ok6]) C h (by decide) tb_43_11 rfl rfl dX11_count_60 ?_
    obtain ⟨e1, e2⟩ := pr_inj hf
    subst e1 e2
    exact m_iret C h dX11_count_63
  replace hf := if_f q1 hf
  rcases Decidable.em (a0 = (2 : Int32)) with hq | q2
  · replace hf := if_t hq hf
    subst hq
    refine lv_tableIn (off := 63) (tgt := 64) hx hb dX11_count_1 (by decide) (by decide) (by decide) (by decide) ?_
    refine lv_aload_n hx hb dX11_count_64 rfl (lv_at hl 0 rfl) ?_
    refine xg_X11 5 C h (by decide) tb_2_3 rfl rfl dX11_count_65 ?_
    refine xg_X6 5 (by simp [okS, okT, ok6]) C h (by decide) tb_39_0 rfl rfl dX11_count_68 ?_
    obtain ⟨e1, e2⟩ := pr_inj hf
    subst e1 e2
    exact m_iret C h dX11_count_71
  replace hf := if_f q2 hf
  rcases Decidable.em (a0 = (3 : Int32)) with hq | q3
  · replace hf := if_t hq hf
    subst hq
    refine lv_tableIn (off := 71) (tgt := 72) hx hb dX11_count_1 (by decide) (by decide) (by decide) (by decide) ?_
    refine lv_aload_n hx hb dX11_count_72 rfl (lv_at hl 0 rfl) ?_
    refine xg_X11 5 C h (by decide) tb_2_3 rfl rfl dX11_count_73 ?_
    replace hf := bndc_some hf
    obtain ⟨x3, g4, hc, hf⟩ := hf
    refine m_callVi [] C h cv_X11_391 (qX6_lookingOut (by simp [okS, okT, ok6]) hc) rfl ⟨rfl, rfl⟩ ⟨Nat.le_of_ble_eq_true rfl, Nat.le_of_ble_eq_true rfl⟩ (rv_X6 (by simp [okS, okT, ok6]) C h) hl.1 rfl (Nat.le_of_ble_eq_true rfl) ⟨Nat.le_refl _, Nat.le_refl _⟩ dX11_count_76 (fun H locs h => ?_)
    clear hc
    obtain ⟨e1, e2⟩ := pr_inj hf
    subst e1 e2
    exact m_iret C h dX11_count_79
  replace hf := if_f q3 hf
  rcases Decidable.em (a0 = (4 : Int32)) with hq | q4
  · replace hf := if_t hq hf
    subst hq
    refine lv_tableIn (off := 79) (tgt := 80) hx hb dX11_count_1 (by decide) (by decide) (by decide) (by decide) ?_
    refine lv_aload_n hx hb dX11_count_80 rfl (lv_at hl 0 rfl) ?_
    refine xg_X11 5 C h (by decide) tb_2_3 rfl rfl dX11_count_81 ?_
    refine xg_X6 3 (by simp [okS, okT, ok6]) C h (by decide) tb_25_18 rfl rfl dX11_count_84 ?_
    refine lv_aload_n hx hb dX11_count_87 rfl (lv_at hl 0 rfl) ?_
    refine xg_X11 5 C h (by decide) tb_2_3 rfl rfl dX11_count_88 ?_
    refine xg_X6 1 (by simp [okS, okT, ok6]) C h (by decide) tb_43_11 rfl rfl dX11_count_91 ?_
    replace hf := bndv_some hf
    obtain ⟨x6, hc, hf⟩ := hf
    refine m_callSi [.int (g.1 30 3), .int (g.1 30 1)] C h cs_X11_394 (qX1_kneesIn hc) rfl ⟨rfl, rfl⟩ ⟨Nat.le_of_ble_eq_true rfl, Nat.le_of_ble_eq_true rfl⟩ hl.1 rfl (Nat.le_of_ble_eq_true rfl) ⟨Nat.le_refl _, Nat.le_refl _⟩ dX11_count_94 (fun H locs h => ?_)
    clear hc
    obtain ⟨e1, e2⟩ := pr_inj hf
    subst e1 e2
    exact m_iret C h dX11_count_97
  replace hf := if_f q4 hf
  rcases Decidable.em (a0 = (5 : Int32)) with hq | q5
  · replace hf := if_t hq hf
    subst hq
    refine lv_tableIn (off := 97) (tgt := 98) hx hb dX11_count_1 (by decide) (by decide) (by decide) (by decide) ?_
    refine lv_aload_n hx hb dX11_count_98 rfl (lv_at hl 0 rfl) ?_
    refine xg_X11 5 C h (by decide) tb_2_3 rfl rfl dX11_count_99 ?_
    replace hf := bndc_some hf
    obtain ⟨x9, g10, hc, hf⟩ := hf
    refine m_callVi [] C h cv_X11_397 (qX6_weightsTogether (by simp [okS, okT, ok6]) hc) rfl ⟨rfl, rfl⟩ ⟨Nat.le_of_ble_eq_true rfl, Nat.le_of_ble_eq_true rfl⟩ (rv_X6 (by simp [okS, okT, ok6]) C h) hl.1 rfl (Nat.le_of_ble_eq_true rfl) ⟨Nat.le_refl _, Nat.le_refl _⟩ dX11_count_102 (fun H locs h => ?_)
    clear hc
    obtain ⟨e1, e2⟩ := pr_inj hf
    subst e1 e2
    exact m_iret C h dX11_count_105
  replace hf := if_f q5 hf
  rcases Decidable.em (a0 = (6 : Int32)) with hq | q6
  · replace hf := if_t hq hf
    subst hq
    refine lv_tableIn (off := 105) (tgt := 106) hx hb dX11_count_1 (by decide) (by decide) (by decide) (by decide) ?_
    refine lv_aload_n hx hb dX11_count_106 rfl (lv_at hl 0 rfl) ?_
    refine xg_X11 5 C h (by decide) tb_2_3 rfl rfl dX11_count_107 ?_
    refine xg_X6 6 (by simp [okS, okT, ok6]) C h (by decide) tb_38_4 rfl rfl dX11_count_110 ?_
    obtain ⟨e1, e2⟩ := pr_inj hf
    subst e1 e2
    exact m_iret C h dX11_count_113
  replace hf := if_f q6 hf
  rcases Decidable.em (a0 = (7 : Int32)) with hq | q7
  · replace hf := if_t hq hf
    subst hq
    refine lv_tableIn (off := 113) (tgt := 114) hx hb dX11_count_1 (by decide) (by decide) (by decide) (by decide) ?_
    refine lv_aload_n hx hb dX11_count_114 rfl (lv_at hl 0 rfl) ?_
    refine xg_X11 1 C h (by decide) tb_8_8 rfl rfl dX11_count_115 ?_
    obtain ⟨e1, e2⟩ := pr_inj hf
    subst e1 e2
    exact m_iret C h dX11_count_118
  replace hf := if_f q7 hf
  refine lv_tableOut (tgt := 119) hx hb dX11_count_1 (by
      have z0 := i32_ne q0
      have z1 := i32_ne q1
      have z2 := i32_ne q2
      have z3 := i32_ne q3
      have z4 := i32_ne q4
      have z5 := i32_ne q5
      have z6 := i32_ne q6
      have z7 := i32_ne q7
      simp only [i32v_0, i32v_1, i32v_2, i32v_3, i32v_4, i32v_5, i32v_6, i32v_7] at z0 z1 z2 z3 z4 z5 z6 z7
      omega) (by decide) ?_
  refine lv_iconst (v := (-1 : Int32)) hx hb dX11_count_119 (by decide) ?_
  obtain ⟨e1, e2⟩ := pr_inj hf
  subst e1 e2
  exact m_iret C h dX11_count_120
end
