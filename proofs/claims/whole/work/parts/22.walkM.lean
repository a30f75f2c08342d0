section
variable {p : Program} {l : Launch} {e : Env} {s : State} {m : MethodId} {args : Array Value} {below : List Frame} {meth : Method} {c : Code} {D : va_G} {cs : Nat → ClassId} {ad adK adV : Nat → Nat} {A : Nat → Prop}
set_option maxHeartbeats 4000000 in
set_option maxRecDepth 100000 in
theorem wX12_minutes_65 (C : MCx p s m args meth c A RX12 cX12_minutes 6 (some .int) D cs)  {r : Int32} {g' : MS}  {k37 : MS → Int32 → Int32 → Int32 → Int32 → Option (Int32 × MS)} (hk37 : ∀ (g : MS) (y1 : Int32) (y2 : Int32) (y3 : Int32) (y4 : Int32), k37 g y1 y2 y3 y4 = some (r, g') → ∀ (H : Heap) (locs : List Loc) (ls : Array Slot), MH D (MW cs ad g) A s H locs → lv_has ls 6 [(0, .ref (ad 48)), (1, .int y1), (2, .int y2), (3, .int y3), (4, .int y4)] → W p l e (rM 7) s m args below meth c H locs 0 0 (MQ below (GPost D (some (.int r)) (MW cs ad g') A) args s 0 0 A) (F0 m 37 ls [])) : ∀ (g : MS) (y1 : Int32) (y4 : Int32) (y5 : Int32) (t0 : Int32) (t1 : Int32), fX12_minutes_65 k37 g y1 y4 y5 t0 t1 = some (r, g') → ∀ (H : Heap) (locs : List Loc) (ls : Array Slot), MH D (MW cs ad g) A s H locs → lv_has ls 6 [(0, .ref (ad 48)), (1, .int y1), (4, .int y4), (5, .int y5)] → W p l e (rM 7) s m args below meth c H locs 0 0 (MQ below (GPost D (some (.int r)) (MW cs ad g') A) args s 0 0 A) (F0 m 65 ls [.int t1, .int t0]) := by
  have hx := C.1
  have hb := C.2.1
  intro g y1 y4 y5 t0 t1 hf H locs ls h hl
  unfold fX12_minutes_65 at hf
  refine lv_iadd hx hb dX12_minutes_65 ?_
  refine lv_topi (fun x1 ex1 => ?_)
  replace hf := bnd_at ex1 hf
  clear ex1
  refine lv_istore_n (lv' := [(2, .int x1), (0, .ref (ad 48)), (1, .int y1), (4, .int y4), (5, .int y5)]) hx hb dX12_minutes_66 rfl hl (by decide) rfl (fun ls hl => ?_)
  refine lv_iload hx hb dX12_minutes_67 (lv_at hl 4 rfl) ?_
  refine lv_istore_n (lv' := [(3, .int y5), (2, .int x1), (0, .ref (ad 48)), (1, .int y1), (4, .int y4), (5, .int y5)]) hx hb dX12_minutes_69 rfl hl (by decide) rfl (fun ls hl => ?_)
  obtain ⟨x2, ex2⟩ : ∃ z : Int32, z = y4 + (1 : Int32) := ⟨_, rfl⟩
  replace hf := bnd_at ex2 hf
  refine lv_iinc (v := x2) (lv' := [(4, .int x2), (3, .int y5), (2, .int x1), (0, .ref (ad 48)), (1, .int y1), (5, .int y5)]) hx hb dX12_minutes_70 hl (k := 4) rfl (by rw [ex2]; rfl) (by decide) rfl (fun ls hl => ?_)
  clear ex2
  refine lv_goto (tgt := 37) hx hb dX12_minutes_73 (by decide) ?_
  exact hk37 g y1 x1 y5 x2 hf H locs ls h (lv_sub hl [3, 4, 2, 1, 0] rfl)

set_option maxHeartbeats 4000000 in
set_option maxRecDepth 100000 in
theorem wX12_minutes_37 (C : MCx p s m args meth c A RX12 cX12_minutes 6 (some .int) D cs)  {r : Int32} {g' : MS}  : ∀ (n : Nat) (g : MS) (y1 : Int32) (y2 : Int32) (y3 : Int32) (y4 : Int32), fX12_minutes_37 n g y1 y2 y3 y4 = some (r, g') → ∀ (H : Heap) (locs : List Loc) (ls : Array Slot), MH D (MW cs ad g) A s H locs → lv_has ls 6 [(0, .ref (ad 48)), (1, .int y1), (2, .int y2), (3, .int y3), (4, .int y4)] → W p l e (rM 7) s m args below meth c H locs 0 0 (MQ below (GPost D (some (.int r)) (MW cs ad g') A) args s 0 0 A) (F0 m 37 ls []) := by
  have hx := C.1
  have hb := C.2.1
  intro n
  induction n with
  | zero =>
    intro g y1 y2 y3 y4 hf
    exact absurd hf (by simp [fX12_minutes_37])
  | succ n ih =>
    intro g y1 y2 y3 y4 hf H locs ls h hl
    rw [fX12_minutes_37] at hf
    refine lv_iload hx hb dX12_minutes_37 (lv_at hl 4 rfl) ?_
    refine lv_iload_n hx hb dX12_minutes_39 rfl (lv_at hl 1 rfl) ?_
    refine lv_icmp_ge (tgt := 76) hx hb dX12_minutes_40 (by decide) (fun hq => ?_) (fun hq => ?_)
    · replace hf := if_t hq hf
      clear hq
      refine lv_iload_n hx hb dX12_minutes_76 rfl (lv_at hl 2 rfl) ?_
      obtain ⟨e1, e2⟩ := pr_inj hf
      subst e1 e2
      exact m_iret C h dX12_minutes_77
    · replace hf := if_f hq hf
      clear hq
      refine lv_aload_n hx hb dX12_minutes_43 rfl (lv_at hl 0 rfl) ?_
      replace hf := bndv_some hf
      obtain ⟨g3, hc, hf⟩ := hf
      refine m_callVv [] C h cv_X12_351 (qX12_minuteNow hc) rfl ⟨rfl, rfl⟩ ⟨Nat.le_of_ble_eq_true rfl, Nat.le_of_ble_eq_true rfl⟩ (m_recv C h) hl.1 rfl (Nat.le_of_ble_eq_true rfl) ⟨Nat.le_refl _, Nat.le_refl _⟩ dX12_minutes_44 (fun H locs h => ?_)
      clear hc
      refine lv_aload_n hx hb dX12_minutes_47 rfl (lv_at hl 0 rfl) ?_
      replace hf := bndc_some hf
      obtain ⟨x4, g5, hc, hf⟩ := hf
      refine m_callVi [] C h cv_X12_328 (qX12_chairNow hc) rfl ⟨rfl, rfl⟩ ⟨Nat.le_of_ble_eq_true rfl, Nat.le_of_ble_eq_true rfl⟩ (m_recv C h) hl.1 rfl (Nat.le_of_ble_eq_true rfl) ⟨Nat.le_refl _, Nat.le_refl _⟩ dX12_minutes_48 (fun H locs h => ?_)
      clear hc
      refine lv_istore (lv' := [(5, .int x4), (0, .ref (ad 48)), (1, .int y1), (2, .int y2), (3, .int y3), (4, .int y4)]) hx hb dX12_minutes_51 hl (by decide) rfl (fun ls hl => ?_)
      refine lv_iload_n hx hb dX12_minutes_53 rfl (lv_at hl 3 rfl) ?_
      refine lv_iload hx hb dX12_minutes_54 (lv_at hl 0 rfl) ?_
      refine lv_iload_n hx hb dX12_minutes_56 rfl (lv_at hl 4 rfl) ?_
      refine lv_icmp_ne (tgt := 64) hx hb dX12_minutes_57 (by decide) (fun hq => ?_) (fun hq => ?_)
      · replace hf := if_tn hq hf
        clear hq
        refine lv_iconst (v := (1 : Int32)) hx hb dX12_minutes_64 (by decide) ?_
        exact wX12_minutes_65 C ih g5 y1 y4 x4 y2 (1 : Int32) hf H locs ls h (lv_sub hl [1, 2, 5, 0] rfl)
      · replace hf := if_t hq hf
        clear hq
        refine lv_iconst (v := (0 : Int32)) hx hb dX12_minutes_60 (by decide) ?_
        refine lv_goto (tgt := 65) hx hb dX12_minutes_61 (by decide) ?_
        exact wX12_minutes_65 C ih g5 y1 y4 x4 y2 (0 : Int32) hf H locs ls h (lv_sub hl [1, 2, 5, 0] rfl)

set_option maxHeartbeats 4000000 in
set_option maxRecDepth 100000 in
theorem qX12_minutes {l : Launch} {D : va_G} {cs : Nat → ClassId} {ad : Nat → Nat} {r : Int32} {g' : MS} {g : MS}  {a0 : Int32} (hf : fX12_minutes g a0 = some (r, g')) : GCon l D cs yX12_minutes cX12_minutes 6 (some .int) (rM 7) 0 0 [.ref (ad 48), .int a0] (MW cs ad g) (some (.int r)) (MW cs ad g') := by
  refine GCon.of (by decide) (Nat.le_of_ble_eq_true rfl) ?_
  intro p e s m args below meth c A ls H locs C h hl
  have hx := C.1
  have hb := C.2.1
  have C : MCx p s m args meth c A RX12 cX12_minutes 6 (some .int) D cs := C
  have hl : lv_has ls 6 [(0, .ref (ad 48)), (1, .int a0)] := hl
  unfold fX12_minutes at hf
  refine lv_aload_n hx hb dX12_minutes_0 rfl (lv_at hl 0 rfl) ?_
  refine lv_iconst (v := (0 : Int32)) hx hb dX12_minutes_1 (by decide) ?_
  replace hf := bnd_ex hf
  obtain ⟨g6, eg6, hf⟩ := hf
  refine mp_4 C h dX12_minutes_2 (fun H locs h => ?_)
  rw [← eg6] at h
  clear eg6
  refine lv_iload_n hx hb dX12_minutes_5 rfl (lv_at hl 1 rfl) ?_
  refine lv_i2l hx hb dX12_minutes_6 rfl ?_
  refine lv_lconst (v := (1 : Int64)) hx hb dX12_minutes_7 rfl ?_
  refine lv_ldc2 hx hb C.2.2.2.1 (C.2.2.2.2.1 _ tb_37_12) dX12_minutes_8 ?_
  replace hf := bndv_some hf
  obtain ⟨x7, hc, hf⟩ := hf
  refine m_callSi [.long a0.toInt64, .long (1 : Int64), .long (99 : Int64)] C h cs_X12_147 (qX12_within hc) rfl ⟨rfl, rfl⟩ ⟨Nat.le_of_ble_eq_true rfl, Nat.le_of_ble_eq_true rfl⟩ hl.1 rfl (Nat.le_of_ble_eq_true rfl) ⟨Nat.le_refl _, Nat.le_refl _⟩ dX12_minutes_11 (fun H locs h => ?_)
  clear hc
  refine lv_if_ne (tgt := 23) hx hb dX12_minutes_14 (by decide) (fun hq => ?_) (fun hq => ?_)
  · replace hf := if_tn hq hf
    clear hq
    refine lv_aload_n hx hb dX12_minutes_23 rfl (lv_at hl 0 rfl) ?_
    replace hf := bndv_some hf
    obtain ⟨g8, hc, hf⟩ := hf
    refine m_callVv [] C h cv_X12_341 (qX12_keeps hc) rfl ⟨rfl, rfl⟩ ⟨Nat.le_of_ble_eq_true rfl, Nat.le_of_ble_eq_true rfl⟩ (m_recv C h) hl.1 rfl (Nat.le_of_ble_eq_true rfl) ⟨Nat.le_refl _, Nat.le_refl _⟩ dX12_minutes_24 (fun H locs h => ?_)
    clear hc
    refine lv_iconst (v := (0 : Int32)) hx hb dX12_minutes_27 (by decide) ?_
    refine lv_istore_n (lv' := [(2, .int (0 : Int32)), (0, .ref (ad 48)), (1, .int a0)]) hx hb dX12_minutes_28 rfl hl (by decide) rfl (fun ls hl => ?_)
    refine lv_aload_n hx hb dX12_minutes_29 rfl (lv_at hl 1 rfl) ?_
    replace hf := bndc_some hf
    obtain ⟨x9, g10, hc, hf⟩ := hf
    refine m_callVi [] C h cv_X12_328 (qX12_chairNow hc) rfl ⟨rfl, rfl⟩ ⟨Nat.le_of_ble_eq_true rfl, Nat.le_of_ble_eq_true rfl⟩ (m_recv C h) hl.1 rfl (Nat.le_of_ble_eq_true rfl) ⟨Nat.le_refl _, Nat.le_refl _⟩ dX12_minutes_30 (fun H locs h => ?_)
    clear hc
    refine lv_istore_n (lv' := [(3, .int x9), (2, .int (0 : Int32)), (0, .ref (ad 48)), (1, .int a0)]) hx hb dX12_minutes_33 rfl hl (by decide) rfl (fun ls hl => ?_)
    refine lv_iconst (v := (0 : Int32)) hx hb dX12_minutes_34 (by decide) ?_
    refine lv_istore (lv' := [(4, .int (0 : Int32)), (3, .int x9), (2, .int (0 : Int32)), (0, .ref (ad 48)), (1, .int a0)]) hx hb dX12_minutes_35 hl (by decide) rfl (fun ls hl => ?_)
    exact wX12_minutes_37 C fuel g10 a0 (0 : Int32) x9 (0 : Int32) hf H locs ls h (lv_sub hl [3, 4, 2, 1, 0] rfl)
  · replace hf := if_t hq hf
    clear hq
    refine lv_aload_n hx hb dX12_minutes_17 rfl (lv_at hl 0 rfl) ?_
    refine lv_iconst (v := (1 : Int32)) hx hb dX12_minutes_18 (by decide) ?_
    replace hf := bndc_some hf
    obtain ⟨x11, g12, hc, hf⟩ := hf
    refine m_callVi [.int (1 : Int32)] C h cv_X12_239 (qX12_fails hc) rfl ⟨rfl, rfl⟩ ⟨Nat.le_of_ble_eq_true rfl, Nat.le_of_ble_eq_true rfl⟩ (m_recv C h) hl.1 rfl (Nat.le_of_ble_eq_true rfl) ⟨Nat.le_refl _, Nat.le_refl _⟩ dX12_minutes_19 (fun H locs h => ?_)
    clear hc
    obtain ⟨e1, e2⟩ := pr_inj hf
    subst e1 e2
    exact m_iret C h dX12_minutes_22

set_option maxHeartbeats 4000000 in
set_option maxRecDepth 100000 in
theorem wX12_undo_45 (C : MCx p s m args meth c A RX12 cX12_undo 3 (some .int) D cs)  {r : Int32} {g' : MS}  : ∀ (n : Nat) (g : MS) (y2 : Int32), fX12_undo_45 n g y2 = some (r, g') → ∀ (H : Heap) (locs : List Loc) (ls : Array Slot), MH D (MW cs ad g) A s H locs → lv_has ls 3 [(0, .ref (ad 48)), (2, .int y2)] → W p l e (rM 1) s m args below meth c H locs 0 0 (MQ below (GPost D (some (.int r)) (MW cs ad g') A) args s 0 0 A) (F0 m 45 ls []) := by
  have hx := C.1
  have hb := C.2.1
  intro n
  induction n with
  | zero =>
    intro g y2 hf
    exact absurd hf (by simp [fX12_undo_45])
  | succ n ih =>
    intro g y2 hf H locs ls h hl
    rw [fX12_undo_45] at hf
    refine lv_iload_n hx hb dX12_undo_45 rfl (lv_at hl 1 rfl) ?_
    refine lv_bipush (v := (13 : Int32)) hx hb dX12_undo_46 (by decide) ?_
    refine lv_icmp_ge (tgt := 85) hx hb dX12_undo_48 (by decide) (fun hq => ?_) (fun hq => ?_)
    · replace hf := if_t hq hf
      clear hq
      refine lv_aload_n hx hb dX12_undo_85 rfl (lv_at hl 0 rfl) ?_
      refine mg_0 C h dX12_undo_86 ?_
      refine lv_iconst (v := (5 : Int32)) hx hb dX12_undo_89 (by decide) ?_
      replace hf := chk_some hf
      obtain ⟨hq, hf⟩ := hf
      refine ml_0 C h hq dX12_undo_90 ?_
      clear hq
      obtain ⟨e1, e2⟩ := pr_inj hf
      subst e1 e2
      exact m_iret C h dX12_undo_91
    · replace hf := if_f hq hf
      clear hq
      refine lv_aload_n hx hb dX12_undo_51 rfl (lv_at hl 0 rfl) ?_
      refine mg_0 C h dX12_undo_52 ?_
      refine lv_bipush (v := (6 : Int32)) hx hb dX12_undo_55 (by decide) ?_
      refine lv_iload_n hx hb dX12_undo_57 rfl (lv_at hl 1 rfl) ?_
      refine lv_iadd hx hb dX12_undo_58 ?_
      refine lv_aload_n hx hb dX12_undo_59 rfl (lv_at hl 0 rfl) ?_
      refine mg_0 C h dX12_undo_60 ?_
      refine lv_bipush (v := (19 : Int32)) hx hb dX12_undo_63 (by decide) ?_
      refine lv_bipush (v := (13 : Int32)) hx hb dX12_undo_65 (by decide) ?_
      refine lv_aload_n hx hb dX12_undo_67 rfl (lv_at hl 0 rfl) ?_
      refine mg_0 C h dX12_undo_68 ?_
      refine lv_iconst (v := (5 : Int32)) hx hb dX12_undo_71 (by decide) ?_
      replace hf := chk_some hf
      obtain ⟨hq, hf⟩ := hf
      refine ml_0 C h hq dX12_undo_72 ?_
      clear hq
      refine lv_imul hx hb dX12_undo_73 ?_
      refine lv_iadd hx hb dX12_undo_74 ?_
      refine lv_iload_n hx hb dX12_undo_75 rfl (lv_at hl 1 rfl) ?_
      refine lv_iadd hx hb dX12_undo_76 ?_
      replace hf := chk_some hf
      obtain ⟨hq, hf⟩ := hf
      refine ml_0 C h hq dX12_undo_77 ?_
      clear hq
      replace hf := chk_some hf
      obtain ⟨hq, hf⟩ := hf
      replace hf := bnd_ex hf
      obtain ⟨g1, eg1, hf⟩ := hf
      refine ms_0 C h hq dX12_undo_78 (fun H locs h => ?_)
      rw [← eg1] at h
      clear hq eg1
      obtain ⟨x2, ex2⟩ : ∃ z : Int32, z = y2 + (1 : Int32) := ⟨_, rfl⟩
      replace hf := bnd_at ex2 hf
      refine lv_iinc (v := x2) (lv' := [(2, .int x2), (0, .ref (ad 48))]) hx hb dX12_undo_79 hl (k := 1) rfl (by rw [ex2]; rfl) (by decide) rfl (fun ls hl => ?_)
      clear ex2
      refine lv_goto (tgt := 45) hx hb dX12_undo_82 (by decide) ?_
      exact ih g1 x2 hf H locs ls h (lv_sub hl [1, 0] rfl)

set_option maxHeartbeats 4000000 in
set_option maxRecDepth 100000 in
theorem wX12_undo_27 (C : MCx p s m args meth c A RX12 cX12_undo 3 (some .int) D cs)  {r : Int32} {g' : MS}  : ∀ (g : MS), fX12_undo_27 g = some (r, g') → ∀ (H : Heap) (locs : List Loc) (ls : Array Slot), MH D (MW cs ad g) A s H locs → lv_has ls 3 [(0, .ref (ad 48))] → W p l e (rM 1) s m args below meth c H locs 0 0 (MQ below (GPost D (some (.int r)) (MW cs ad g') A) args s 0 0 A) (F0 m 27 ls []) := by
  have hx := C.1
  have hb := C.2.1
  intro g hf H locs ls h hl
  unfold fX12_undo_27 at hf
  refine lv_aload_n hx hb dX12_undo_27 rfl (lv_at hl 0 rfl) ?_
  refine lv_iconst (v := (1 : Int32)) hx hb dX12_undo_28 (by decide) ?_
  replace hf := bndc_some hf
  obtain ⟨x3, g4, hc, hf⟩ := hf
  refine m_callVi [.int (1 : Int32)] C h cv_X12_239 (qX12_fails hc) rfl ⟨rfl, rfl⟩ ⟨Nat.le_of_ble_eq_true rfl, Nat.le_of_ble_eq_true rfl⟩ (m_recv C h) hl.1 rfl (Nat.le_of_ble_eq_true rfl) ⟨Nat.le_refl _, Nat.le_refl _⟩ dX12_undo_29 (fun H locs h => ?_)
  clear hc
  obtain ⟨e1, e2⟩ := pr_inj hf
  subst e1 e2
  exact m_iret C h dX12_undo_32

set_option maxHeartbeats 4000000 in
set_option maxRecDepth 100000 in
theorem qX12_undo {l : Launch} {D : va_G} {cs : Nat → ClassId} {ad : Nat → Nat} {r : Int32} {g' : MS} {g : MS}  {a0 : Int32} (hf : fX12_undo g a0 = some (r, g')) : GCon l D cs yX12_undo cX12_undo 3 (some .int) (rM 1) 0 0 [.ref (ad 48), .int a0] (MW cs ad g) (some (.int r)) (MW cs ad g') := by
  refine GCon.of (by decide) (Nat.le_of_ble_eq_true rfl) ?_
  intro p e s m args below meth c A ls H locs C h hl
  have hx := C.1
  have hb := C.2.1
  have C : MCx p s m args meth c A RX12 cX12_undo 3 (some .int) D cs := C
  have hl : lv_has ls 3 [(0, .ref (ad 48)), (1, .int a0)] := hl
  unfold fX12_undo at hf
  refine lv_aload_n hx hb dX12_undo_0 rfl (lv_at hl 0 rfl) ?_
  refine lv_iconst (v := (0 : Int32)) hx hb dX12_undo_1 (by decide) ?_
  replace hf := bnd_ex hf
  obtain ⟨g5, eg5, hf⟩ := hf
  refine mp_4 C h dX12_undo_2 (fun H locs h => ?_)
  rw [← eg5] at h
  clear eg5
  refine lv_iload_n hx hb dX12_undo_5 rfl (lv_at hl 1 rfl) ?_
  refine lv_i2l hx hb dX12_undo_6 rfl ?_
  refine lv_lconst (v := (1 : Int64)) hx hb dX12_undo_7 rfl ?_
  refine lv_ldc2 hx hb C.2.2.2.1 (C.2.2.2.2.1 _ tb_38_14) dX12_undo_8 ?_
  replace hf := bndv_some hf
  obtain ⟨x6, hc, hf⟩ := hf
  refine m_callSi [.long a0.toInt64, .long (1 : Int64), .long (10 : Int64)] C h cs_X12_147 (qX12_within hc) rfl ⟨rfl, rfl⟩ ⟨Nat.le_of_ble_eq_true rfl, Nat.le_of_ble_eq_true rfl⟩ hl.1 rfl (Nat.le_of_ble_eq_true rfl) ⟨Nat.le_refl _, Nat.le_refl _⟩ dX12_undo_11 (fun H locs h => ?_)
  clear hc
  refine lv_if_eq (tgt := 27) hx hb dX12_undo_14 (by decide) (fun hq => ?_) (fun hq => ?_)
  · replace hf := if_t hq hf
    clear hq
    exact wX12_undo_27 C g5 hf H locs ls h (lv_sub hl [0] rfl)
  · replace hf := if_f hq hf
    clear hq
    refine lv_iload_n hx hb dX12_undo_17 rfl (lv_at hl 1 rfl) ?_
    refine lv_aload_n hx hb dX12_undo_18 rfl (lv_at hl 0 rfl) ?_
    refine mg_0 C h dX12_undo_19 ?_
    refine lv_iconst (v := (5 : Int32)) hx hb dX12_undo_22 (by decide) ?_
    replace hf := chk_some hf
    obtain ⟨hq, hf⟩ := hf
    refine ml_0 C h hq dX12_undo_23 ?_
    clear hq
    refine lv_icmp_le (tgt := 33) hx hb dX12_undo_24 (by decide) (fun hq => ?_) (fun hq => ?_)
    · replace hf := if_t hq hf
      clear hq
      refine lv_aload_n hx hb dX12_undo_33 rfl (lv_at hl 0 rfl) ?_
      refine mg_0 C h dX12_undo_34 ?_
      refine lv_iconst (v := (5 : Int32)) hx hb dX12_undo_37 (by decide) ?_
      refine lv_dup2_11 hx hb dX12_undo_38 rfl rfl ?_
      replace hf := chk_some hf
      obtain ⟨hq, hf⟩ := hf
      refine ml_0 C h hq dX12_undo_39 ?_
      clear hq
      refine lv_iload_n hx hb dX12_undo_40 rfl (lv_at hl 1 rfl) ?_
      refine lv_isub hx hb dX12_undo_41 ?_
      replace hf := chk_some hf
      obtain ⟨hq, hf⟩ := hf
      replace hf := bnd_ex hf
      obtain ⟨g7, eg7, hf⟩ := hf
      refine ms_0 C h hq dX12_undo_42 (fun H locs h => ?_)
      rw [← eg7] at h
      clear hq eg7
      refine lv_iconst (v := (0 : Int32)) hx hb dX12_undo_43 (by decide) ?_
      refine lv_istore_n (lv' := [(2, .int (0 : Int32)), (0, .ref (ad 48)), (1, .int a0)]) hx hb dX12_undo_44 rfl hl (by decide) rfl (fun ls hl => ?_)
      exact wX12_undo_45 C fuel g7 (0 : Int32) hf H locs ls h (lv_sub hl [1, 0] rfl)
    · replace hf := if_f hq hf
      clear hq
      exact wX12_undo_27 C g5 hf H locs ls h (lv_sub hl [0] rfl)

set_option maxHeartbeats 4000000 in
set_option maxRecDepth 100000 in
theorem qX12_isTray {l : Launch} {D : va_G} {cs : Nat → ClassId} {r : Int32}  {a0 : Int32} (hf : fX12_isTray a0 = some r) : GCon l D cs yX12_isTray cX12_isTray 1 (some .boolean) (rM 1) 0 0 [.int a0] [] (some (.int r)) [] := by
  refine GCon.of (by decide) (Nat.le_of_ble_eq_true rfl) ?_
  intro p e s m args below meth c A ls H locs C h hl
  have hx := C.1
  have hb := C.2.1
  have C : MCx p s m args meth c A RX12 cX12_isTray 1 (some .boolean) D cs := C
  have hl : lv_has ls 1 [(0, .int a0)] := hl
  unfold fX12_isTray at hf
  refine lv_iload_n hx hb dX12_isTray_0 rfl (lv_at hl 0 rfl) ?_
  refine lv_i2l hx hb dX12_isTray_1 rfl ?_
  refine lv_lconst (v := (0 : Int64)) hx hb dX12_isTray_2 rfl ?_
  refine lv_ldc2 hx hb C.2.2.2.1 (C.2.2.2.2.1 _ tb_40_5) dX12_isTray_3 ?_
  replace hf := bndv_some hf
  obtain ⟨x1, hc, hf⟩ := hf
  refine m_callSi [.long a0.toInt64, .long (0 : Int64), .long (3 : Int64)] C h cs_X12_147 (qX12_within hc) rfl ⟨rfl, rfl⟩ ⟨Nat.le_of_ble_eq_true rfl, Nat.le_of_ble_eq_true rfl⟩ hl.1 rfl (Nat.le_of_ble_eq_true rfl) ⟨Nat.le_refl _, Nat.le_refl _⟩ dX12_isTray_6 (fun H locs h => ?_)
  clear hc
  replace hf := chk_some hf
  obtain ⟨hq, hf⟩ := hf
  have e1 := Option.some.inj hf
  subst e1
  exact m_zret C h hq dX12_isTray_9

set_option maxHeartbeats 4000000 in
set_option maxRecDepth 100000 in
theorem qX12_trayFault {l : Launch} {D : va_G} {cs : Nat → ClassId} {ad : Nat → Nat} {r : Int32} {g' : MS} {g : MS}  {a0 : Int32} (hf : fX12_trayFault g a0 = some (r, g')) : GCon l D cs yX12_trayFault cX12_trayFault 2 (some .int) (rM 2) 0 0 [.ref (ad 48), .int a0] (MW cs ad g) (some (.int r)) (MW cs ad g') := by
  refine GCon.of (by decide) (Nat.le_of_ble_eq_true rfl) ?_
  intro p e s m args below meth c A ls H locs C h hl
  have hx := C.1
  have hb := C.2.1
  have C : MCx p s m args meth c A RX12 cX12_trayFault 2 (some .int) D cs := C
  have hl : lv_has ls 2 [(0, .ref (ad 48)), (1, .int a0)] := hl
  unfold fX12_trayFault at hf
  refine lv_iload_n hx hb dX12_trayFault_0 rfl (lv_at hl 1 rfl) ?_
  replace hf := bndv_some hf
  obtain ⟨x1, hc, hf⟩ := hf
  refine m_callSi [.int a0] C h cs_X12_356 (qX12_isTray hc) rfl ⟨rfl, rfl⟩ ⟨Nat.le_of_ble_eq_true rfl, Nat.le_of_ble_eq_true rfl⟩ hl.1 rfl (Nat.le_of_ble_eq_true rfl) ⟨Nat.le_refl _, Nat.le_refl _⟩ dX12_trayFault_1 (fun H locs h => ?_)
  clear hc
  refine lv_if_ne (tgt := 11) hx hb dX12_trayFault_4 (by decide) (fun hq => ?_) (fun hq => ?_)
  · replace hf := if_tn hq hf
    clear hq
    refine lv_aload_n hx hb dX12_trayFault_11 rfl (lv_at hl 0 rfl) ?_
    refine mg_45 C h dX12_trayFault_12 ?_
    refine lv_iload_n hx hb dX12_trayFault_15 rfl (lv_at hl 1 rfl) ?_
    replace hf := chk_some hf
    obtain ⟨hq, hf⟩ := hf
    refine ml_45 C h hq dX12_trayFault_16 ?_
    clear hq
    refine lv_iconst (v := (-1 : Int32)) hx hb dX12_trayFault_17 (by decide) ?_
    refine lv_icmp_ne (tgt := 25) hx hb dX12_trayFault_18 (by decide) (fun hq => ?_) (fun hq => ?_)
    · replace hf := if_tn hq hf
      clear hq
      refine lv_iconst (v := (0 : Int32)) hx hb dX12_trayFault_25 (by decide) ?_
      obtain ⟨e1, e2⟩ := pr_inj hf
      subst e1 e2
      exact m_iret C h dX12_trayFault_26
    · replace hf := if_t hq hf
      clear hq
      refine lv_iconst (v := (2 : Int32)) hx hb dX12_trayFault_21 (by decide) ?_
      refine lv_goto (tgt := 26) hx hb dX12_trayFault_22 (by decide) ?_
      obtain ⟨e1, e2⟩ := pr_inj hf
      subst e1 e2
      exact m_iret C h dX12_trayFault_26
  · replace hf := if_t hq hf
    clear hq
    refine lv_iconst (v := (1 : Int32)) hx hb dX12_trayFault_7 (by decide) ?_
    refine lv_goto (tgt := 26) hx hb dX12_trayFault_8 (by decide) ?_
    obtain ⟨e1, e2⟩ := pr_inj hf
    subst e1 e2
    exact m_iret C h dX12_trayFault_26

set_option maxHeartbeats 4000000 in
set_option maxRecDepth 100000 in
theorem qX12_whyTold {l : Launch} {D : va_G} {cs : Nat → ClassId} {ad : Nat → Nat} {r : Int32} {g' : MS} {g : MS}  {a0 : Int64} (hf : fX12_whyTold g a0 = some (r, g')) : GCon l D cs yX12_whyTold cX12_whyTold 3 (some .int) (rM 3) 0 0 [.ref (ad 48), .long a0] (MW cs ad g) (some (.int r)) (MW cs ad g') := by
  refine GCon.of (by decide) (Nat.le_of_ble_eq_true rfl) ?_
  intro p e s m args below meth c A ls H locs C h hl
  have hx := C.1
  have hb := C.2.1
  have C : MCx p s m args meth c A RX12 cX12_whyTold 3 (some .int) D cs := C
  have hl : lv_has ls 3 [(0, .ref (ad 48)), (1, .long a0)] := hl
  unfold fX12_whyTold at hf
  refine lv_lload_n hx hb dX12_whyTold_0 rfl (lv_at hl 1 rfl) ?_
  refine lv_ldc2 hx hb C.2.2.2.1 (C.2.2.2.2.1 _ tb_40_21) dX12_whyTold_1 ?_
  refine W.lcmp hx hb dX12_whyTold_4 ?_
  refine lv_if_ne (tgt := 10) hx hb dX12_whyTold_5 (by decide) (fun hq => ?_) (fun hq => ?_)
  · replace hf := if_tn hq hf
    clear hq
    refine lv_lload_n hx hb dX12_whyTold_10 rfl (lv_at hl 1 rfl) ?_
    refine lv_lconst (v := (0 : Int64)) hx hb dX12_whyTold_11 rfl ?_
    refine lv_ldc2 hx hb C.2.2.2.1 (C.2.2.2.2.1 _ tb_37_12) dX12_whyTold_12 ?_
    replace hf := bndv_some hf
    obtain ⟨x1, hc, hf⟩ := hf
    refine m_callSi [.long a0, .long (0 : Int64), .long (99 : Int64)] C h cs_X12_147 (qX12_within hc) rfl ⟨rfl, rfl⟩ ⟨Nat.le_of_ble_eq_true rfl, Nat.le_of_ble_eq_true rfl⟩ hl.1 rfl (Nat.le_of_ble_eq_true rfl) ⟨Nat.le_refl _, Nat.le_refl _⟩ dX12_whyTold_15 (fun H locs h => ?_)
    clear hc
    refine lv_if_eq (tgt := 36) hx hb dX12_whyTold_18 (by decide) (fun hq => ?_) (fun hq => ?_)
    · replace hf := if_t hq hf
      clear hq
      refine lv_lload_n hx hb dX12_whyTold_36 rfl (lv_at hl 1 rfl) ?_
      refine lv_ldc2 hx hb C.2.2.2.1 (C.2.2.2.2.1 _ tb_40_22) dX12_whyTold_37 ?_
      refine lv_ldc2 hx hb C.2.2.2.1 (C.2.2.2.2.1 _ tb_40_23) dX12_whyTold_40 ?_
      replace hf := bndv_some hf
      obtain ⟨x2, hc, hf⟩ := hf
      refine m_callSi [.long a0, .long (100 : Int64), .long (199 : Int64)] C h cs_X12_147 (qX12_within hc) rfl ⟨rfl, rfl⟩ ⟨Nat.le_of_ble_eq_true rfl, Nat.le_of_ble_eq_true rfl⟩ hl.1 rfl (Nat.le_of_ble_eq_true rfl) ⟨Nat.le_refl _, Nat.le_refl _⟩ dX12_whyTold_43 (fun H locs h => ?_)
      clear hc
      refine lv_if_eq (tgt := 81) hx hb dX12_whyTold_46 (by decide) (fun hq => ?_) (fun hq => ?_)
      · replace hf := if_t hq hf
        clear hq
        refine lv_lload_n hx hb dX12_whyTold_81 rfl (lv_at hl 1 rfl) ?_
        refine lv_ldc2 hx hb C.2.2.2.1 (C.2.2.2.2.1 _ tb_41_0) dX12_whyTold_82 ?_
        refine lv_ldc2 hx hb C.2.2.2.1 (C.2.2.2.2.1 _ tb_41_1) dX12_whyTold_85 ?_
        replace hf := bndv_some hf
        obtain ⟨x3, hc, hf⟩ := hf
        refine m_callSi [.long a0, .long (200 : Int64), .long (299 : Int64)] C h cs_X12_147 (qX12_within hc) rfl ⟨rfl, rfl⟩ ⟨Nat.le_of_ble_eq_true rfl, Nat.le_of_ble_eq_true rfl⟩ hl.1 rfl (Nat.le_of_ble_eq_true rfl) ⟨Nat.le_refl _, Nat.le_refl _⟩ dX12_whyTold_88 (fun H locs h => ?_)
        clear hc
        refine lv_if_eq (tgt := 110) hx hb dX12_whyTold_91 (by decide) (fun hq => ?_) (fun hq => ?_)
        · replace hf := if_t hq hf
          clear hq
          refine lv_iconst (v := (1 : Int32)) hx hb dX12_whyTold_110 (by decide) ?_
          obtain ⟨e1, e2⟩ := pr_inj hf
          subst e1 e2
          exact m_iret C h dX12_whyTold_111
        · replace hf := if_f hq hf
          clear hq
          refine lv_aload_n hx hb dX12_whyTold_94 rfl (lv_at hl 0 rfl) ?_
          refine lv_lload_n hx hb dX12_whyTold_95 rfl (lv_at hl 1 rfl) ?_
          refine lv_ldc2 hx hb C.2.2.2.1 (C.2.2.2.2.1 _ tb_41_0) dX12_whyTold_96 ?_
          refine lv_lsub hx hb dX12_whyTold_99 ?_
          replace hf := bndc_some hf
          obtain ⟨x4, g5, hc, hf⟩ := hf
          refine m_callVi [.long (a0 - (200 : Int64))] C h cv_X12_319 (qX12_isMember hc) rfl ⟨rfl, rfl⟩ ⟨Nat.le_of_ble_eq_true rfl, Nat.le_of_ble_eq_true rfl⟩ (m_recv C h) hl.1 rfl (Nat.le_of_ble_eq_true rfl) ⟨Nat.le_refl _, Nat.le_refl _⟩ dX12_whyTold_100 (fun H locs h => ?_)
          clear hc
          refine lv_if_eq (tgt := 110) hx hb dX12_whyTold_103 (by decide) (fun hq => ?_) (fun hq => ?_)
          · replace hf := if_t hq hf
            clear hq
            refine lv_iconst (v := (1 : Int32)) hx hb dX12_whyTold_110 (by decide) ?_
            obtain ⟨e1, e2⟩ := pr_inj hf
            subst e1 e2
            exact m_iret C h dX12_whyTold_111
          · replace hf := if_f hq hf
            clear hq
            refine lv_iconst (v := (0 : Int32)) hx hb dX12_whyTold_106 (by decide) ?_
            refine lv_goto (tgt := 111) hx hb dX12_whyTold_107 (by decide) ?_
            obtain ⟨e1, e2⟩ := pr_inj hf
            subst e1 e2
            exact m_iret C h dX12_whyTold_111
      · replace hf := if_f hq hf
        clear hq
        refine lv_aload_n hx hb dX12_whyTold_49 rfl (lv_at hl 0 rfl) ?_
        refine lv_lload_n hx hb dX12_whyTold_50 rfl (lv_at hl 1 rfl) ?_
        refine lv_ldc2 hx hb C.2.2.2.1 (C.2.2.2.2.1 _ tb_40_22) dX12_whyTold_51 ?_
        refine lv_lsub hx hb dX12_whyTold_54 ?_
        refine lv_ldc2 hx hb C.2.2.2.1 (C.2.2.2.2.1 _ tb_38_14) dX12_whyTold_55 ?_
        replace hf := chk_some hf
        obtain ⟨hq, hf⟩ := hf
        refine lv_ldiv hx hb dX12_whyTold_58 (nzL_ne hq) ?_
        clear hq
        replace hf := bndc_some hf
        obtain ⟨x6, g7, hc, hf⟩ := hf
        refine m_callVi [.long ((a0 - (100 : Int64)) / (10 : Int64))] C h cv_X12_319 (qX12_isMember hc) rfl ⟨rfl, rfl⟩ ⟨Nat.le_of_ble_eq_true rfl, Nat.le_of_ble_eq_true rfl⟩ (m_recv C h) hl.1 rfl (Nat.le_of_ble_eq_true rfl) ⟨Nat.le_refl _, Nat.le_refl _⟩ dX12_whyTold_59 (fun H locs h => ?_)
        clear hc
        refine lv_if_eq (tgt := 79) hx hb dX12_whyTold_62 (by decide) (fun hq => ?_) (fun hq => ?_)
        · replace hf := if_t hq hf
          clear hq
          refine lv_iconst (v := (1 : Int32)) hx hb dX12_whyTold_79 (by decide) ?_
          obtain ⟨e1, e2⟩ := pr_inj hf
          subst e1 e2
          exact m_iret C h dX12_whyTold_80
        · replace hf := if_f hq hf
          clear hq
          refine lv_lload_n hx hb dX12_whyTold_65 rfl (lv_at hl 1 rfl) ?_
          refine lv_ldc2 hx hb C.2.2.2.1 (C.2.2.2.2.1 _ tb_38_14) dX12_whyTold_66 ?_
          replace hf := chk_some hf
          obtain ⟨hq, hf⟩ := hf
          refine x_lrem hx hb dX12_whyTold_69 (nzL_ne hq) ?_
          clear hq
          refine lv_lconst (v := (0 : Int64)) hx hb dX12_whyTold_70 rfl ?_
          refine W.lcmp hx hb dX12_whyTold_71 ?_
          refine lv_if_le (tgt := 79) hx hb dX12_whyTold_72 (by decide) (fun hq => ?_) (fun hq => ?_)
          · replace hf := if_t hq hf
            clear hq
            refine lv_iconst (v := (1 : Int32)) hx hb dX12_whyTold_79 (by decide) ?_
            obtain ⟨e1, e2⟩ := pr_inj hf
            subst e1 e2
            exact m_iret C h dX12_whyTold_80
          · replace hf := if_f hq hf
            clear hq
            refine lv_iconst (v := (0 : Int32)) hx hb dX12_whyTold_75 (by decide) ?_
            refine lv_goto (tgt := 80) hx hb dX12_whyTold_76 (by decide) ?_
            obtain ⟨e1, e2⟩ := pr_inj hf
            subst e1 e2
            exact m_iret C h dX12_whyTold_80
    · replace hf := if_f hq hf
      clear hq
      refine lv_aload_n hx hb dX12_whyTold_21 rfl (lv_at hl 0 rfl) ?_
      refine lv_lload_n hx hb dX12_whyTold_22 rfl (lv_at hl 1 rfl) ?_
      refine lv_ldc2 hx hb C.2.2.2.1 (C.2.2.2.2.1 _ tb_38_14) dX12_whyTold_23 ?_
      replace hf := chk_some hf
      obtain ⟨hq, hf⟩ := hf
      refine lv_ldiv hx hb dX12_whyTold_26 (nzL_ne hq) ?_
      clear hq
      refine lv_lload_n hx hb dX12_whyTold_27 rfl (lv_at hl 1 rfl) ?_
      refine lv_ldc2 hx hb C.2.2.2.1 (C.2.2.2.2.1 _ tb_38_14) dX12_whyTold_28 ?_
      replace hf := chk_some hf
      obtain ⟨hq, hf⟩ := hf
      refine x_lrem hx hb dX12_whyTold_31 (nzL_ne hq) ?_
      clear hq
      replace hf := bndc_some hf
      obtain ⟨x8, g9, hc, hf⟩ := hf
      refine m_callVi [.long (a0 / (10 : Int64)), .long (jremL a0 (10 : Int64))] C h cv_X12_337 (qX12_whyTurn hc) rfl ⟨rfl, rfl⟩ ⟨Nat.le_of_ble_eq_true rfl, Nat.le_of_ble_eq_true rfl⟩ (m_recv C h) hl.1 rfl (Nat.le_of_ble_eq_true rfl) ⟨Nat.le_refl _, Nat.le_refl _⟩ dX12_whyTold_32 (fun H locs h => ?_)
      clear hc
      obtain ⟨e1, e2⟩ := pr_inj hf
      subst e1 e2
      exact m_iret C h dX12_whyTold_35
  · replace hf := if_t hq hf
    clear hq
    refine lv_iconst (v := (0 : Int32)) hx hb dX12_whyTold_8 (by decide) ?_
    obtain ⟨e1, e2⟩ := pr_inj hf
    subst e1 e2
    exact m_iret C h dX12_whyTold_9

set_option maxHeartbeats 4000000 in
set_option maxRecDepth 100000 in
theorem qX12_does {l : Launch} {D : va_G} {cs : Nat → ClassId} {ad : Nat → Nat} {g' : MS} {g : MS}  {a0 : Int32} (hf : fX12_does g a0 = some g') : GCon l D cs yX12_does cX12_does 2 none (rM 7) 0 0 [.ref (ad 48), .int a0] (MW cs ad g) none (MW cs ad g') := by
  refine GCon.of (by decide) (Nat.le_of_ble_eq_true rfl) ?_
  intro p e s m args below meth c A ls H locs C h hl
  have hx := C.1
  have hb := C.2.1
  have C : MCx p s m args meth c A RX12 cX12_does 2 none D cs := C
  have hl : lv_has ls 2 [(0, .ref (ad 48)), (1, .int a0)] := hl
  unfold fX12_does at hf
  refine lv_iload_n hx hb dX12_does_0 rfl (lv_at hl 1 rfl) ?_
  refine lv_iconst (v := (-1 : Int32)) hx hb dX12_does_1 (by decide) ?_
  refine lv_icmp_ne (tgt := 12) hx hb dX12_does_2 (by decide) (fun hq => ?_) (fun hq => ?_)
  · replace hf := if_tn hq hf
    clear hq
    refine lv_iload_n hx hb dX12_does_12 rfl (lv_at hl 1 rfl) ?_
    refine lv_bipush (v := (100 : Int32)) hx hb dX12_does_13 (by decide) ?_
    refine lv_icmp_ge (tgt := 33) hx hb dX12_does_15 (by decide) (fun hq => ?_) (fun hq => ?_)
    · replace hf := if_t hq hf
      clear hq
      refine lv_iload_n hx hb dX12_does_33 rfl (lv_at hl 1 rfl) ?_
      refine lv_sipush (v := (200 : Int32)) hx hb dX12_does_34 (by decide) ?_
      refine lv_icmp_ge (tgt := 62) hx hb dX12_does_37 (by decide) (fun hq => ?_) (fun hq => ?_)
      · replace hf := if_t hq hf
        clear hq
        refine lv_aload_n hx hb dX12_does_62 rfl (lv_at hl 0 rfl) ?_
        refine mg_0 C h dX12_does_63 ?_
        refine lv_bipush (v := (18 : Int32)) hx hb dX12_does_66 (by decide) ?_
        refine lv_dup2_11 hx hb dX12_does_68 rfl rfl ?_
        replace hf := chk_some hf
        obtain ⟨hq, hf⟩ := hf
        refine ml_0 C h hq dX12_does_69 ?_
        clear hq
        refine lv_iconst (v := (1 : Int32)) hx hb dX12_does_70 (by decide) ?_
        refine lv_iload_n hx hb dX12_does_71 rfl (lv_at hl 1 rfl) ?_
        refine lv_sipush (v := (200 : Int32)) hx hb dX12_does_72 (by decide) ?_
        refine lv_isub hx hb dX12_does_75 ?_
        refine x_ishl hx hb dX12_does_76 ?_
        refine lv_ixor hx hb dX12_does_77 ?_
        replace hf := chk_some hf
        obtain ⟨hq, hf⟩ := hf
        replace hf := bnd_ex hf
        obtain ⟨g1, eg1, hf⟩ := hf
        refine ms_0 C h hq dX12_does_78 (fun H locs h => ?_)
        rw [← eg1] at h
        clear hq eg1
        have e1 := Option.some.inj hf
        subst e1
        exact m_vret C h dX12_does_79
      · replace hf := if_f hq hf
        clear hq
        refine lv_aload_n hx hb dX12_does_40 rfl (lv_at hl 0 rfl) ?_
        refine mg_0 C h dX12_does_41 ?_
        refine lv_bipush (v := (12 : Int32)) hx hb dX12_does_44 (by decide) ?_
        refine lv_iload_n hx hb dX12_does_46 rfl (lv_at hl 1 rfl) ?_
        refine lv_bipush (v := (100 : Int32)) hx hb dX12_does_47 (by decide) ?_
        refine lv_isub hx hb dX12_does_49 ?_
        refine lv_bipush (v := (10 : Int32)) hx hb dX12_does_50 (by decide) ?_
        replace hf := chk_some hf
        obtain ⟨hq, hf⟩ := hf
        refine lv_idiv hx hb dX12_does_52 (nz_ne hq) ?_
        clear hq
        refine lv_iadd hx hb dX12_does_53 ?_
        refine lv_iload_n hx hb dX12_does_54 rfl (lv_at hl 1 rfl) ?_
        refine lv_bipush (v := (10 : Int32)) hx hb dX12_does_55 (by decide) ?_
        replace hf := chk_some hf
        obtain ⟨hq, hf⟩ := hf
        refine x_irem hx hb dX12_does_57 (nz_ne hq) ?_
        clear hq
        replace hf := chk_some hf
        obtain ⟨hq, hf⟩ := hf
        replace hf := bnd_ex hf
        obtain ⟨g2, eg2, hf⟩ := hf
        refine ms_0 C h hq dX12_does_58 (fun H locs h => ?_)
        rw [← eg2] at h
        clear hq eg2
        refine lv_goto (tgt := 79) hx hb dX12_does_59 (by decide) ?_
        have e1 := Option.some.inj hf
        subst e1
        exact m_vret C h dX12_does_79
    · replace hf := if_f hq hf
      clear hq
      refine lv_aload_n hx hb dX12_does_18 rfl (lv_at hl 0 rfl) ?_
      refine lv_iload_n hx hb dX12_does_19 rfl (lv_at hl 1 rfl) ?_
      refine lv_bipush (v := (10 : Int32)) hx hb dX12_does_20 (by decide) ?_
      replace hf := chk_some hf
      obtain ⟨hq, hf⟩ := hf
      refine lv_idiv hx hb dX12_does_22 (nz_ne hq) ?_
      clear hq
      refine lv_iload_n hx hb dX12_does_23 rfl (lv_at hl 1 rfl) ?_
      refine lv_bipush (v := (10 : Int32)) hx hb dX12_does_24 (by decide) ?_
      replace hf := chk_some hf
      obtain ⟨hq, hf⟩ := hf
      refine x_irem hx hb dX12_does_26 (nz_ne hq) ?_
      clear hq
      replace hf := bndv_some hf
      obtain ⟨g3, hc, hf⟩ := hf
      refine m_callVv [.int (a0 / (10 : Int32)), .int (jrem a0 (10 : Int32))] C h cv_X12_344 (qX12_turnsBy hc) rfl ⟨rfl, rfl⟩ ⟨Nat.le_of_ble_eq_true rfl, Nat.le_of_ble_eq_true rfl⟩ (m_recv C h) hl.1 rfl (Nat.le_of_ble_eq_true rfl) ⟨Nat.le_refl _, Nat.le_refl _⟩ dX12_does_27 (fun H locs h => ?_)
      clear hc
      refine lv_goto (tgt := 79) hx hb dX12_does_30 (by decide) ?_
      have e1 := Option.some.inj hf
      subst e1
      exact m_vret C h dX12_does_79
  · replace hf := if_t hq hf
    clear hq
    refine lv_aload_n hx hb dX12_does_5 rfl (lv_at hl 0 rfl) ?_
    replace hf := bndv_some hf
    obtain ⟨g4, hc, hf⟩ := hf
    refine m_callVv [] C h cv_X12_351 (qX12_minuteNow hc) rfl ⟨rfl, rfl⟩ ⟨Nat.le_of_ble_eq_true rfl, Nat.le_of_ble_eq_true rfl⟩ (m_recv C h) hl.1 rfl (Nat.le_of_ble_eq_true rfl) ⟨Nat.le_refl _, Nat.le_refl _⟩ dX12_does_6 (fun H locs h => ?_)
    clear hc
    refine lv_goto (tgt := 79) hx hb dX12_does_9 (by decide) ?_
    have e1 := Option.some.inj hf
    subst e1
    exact m_vret C h dX12_does_79

set_option maxHeartbeats 4000000 in
set_option maxRecDepth 100000 in
theorem wX12_judge_122 (C : MCx p s m args meth c A RX12 cX12_judge 7 (some .int) D cs)  {r : Int32} {g' : MS}  : ∀ (g : MS) (y2 : Int32) (y3 : Int32) (y4 : Int32), fX12_judge_122 g y2 y3 y4 = some (r, g') → ∀ (H : Heap) (locs : List Loc) (ls : Array Slot), MH D (MW cs ad g) A s H locs → lv_has ls 7 [(0, .ref (ad 48)), (2, .int y2), (3, .int y3), (4, .int y4)] → W p l e (rM 8) s m args below meth c H locs 0 0 (MQ below (GPost D (some (.int r)) (MW cs ad g') A) args s 0 0 A) (F0 m 122 ls []) := by
  have hx := C.1
  have hb := C.2.1
  intro g y2 y3 y4 hf H locs ls h hl
  unfold fX12_judge_122 at hf
  refine lv_aload_n hx hb dX12_judge_122 rfl (lv_at hl 0 rfl) ?_
  replace hf := bndc_some hf
  obtain ⟨x1, g2, hc, hf⟩ := hf
  refine m_callVi [] C h cv_X12_328 (qX12_chairNow hc) rfl ⟨rfl, rfl⟩ ⟨Nat.le_of_ble_eq_true rfl, Nat.le_of_ble_eq_true rfl⟩ (m_recv C h) hl.1 rfl (Nat.le_of_ble_eq_true rfl) ⟨Nat.le_refl _, Nat.le_refl _⟩ dX12_judge_123 (fun H locs h => ?_)
  clear hc
  refine lv_istore (lv' := [(5, .int x1), (0, .ref (ad 48)), (2, .int y2), (3, .int y3), (4, .int y4)]) hx hb dX12_judge_126 hl (by decide) rfl (fun ls hl => ?_)
  refine lv_aload_n hx hb dX12_judge_128 rfl (lv_at hl 1 rfl) ?_
  refine mg_0 C h dX12_judge_129 ?_
  refine lv_bipush (v := (18 : Int32)) hx hb dX12_judge_132 (by decide) ?_
  replace hf := chk_some hf
  obtain ⟨hq, hf⟩ := hf
  refine ml_0 C h hq dX12_judge_134 ?_
  clear hq
  refine lv_topi (fun x3 ex3 => ?_)
  replace hf := bnd_at ex3 hf
  clear ex3
  refine lv_istore (lv' := [(6, .int x3), (5, .int x1), (0, .ref (ad 48)), (2, .int y2), (3, .int y3), (4, .int y4)]) hx hb dX12_judge_135 hl (by decide) rfl (fun ls hl => ?_)
  refine lv_aload_n hx hb dX12_judge_137 rfl (lv_at hl 2 rfl) ?_
  replace hf := bndv_some hf
  obtain ⟨g4, hc, hf⟩ := hf
  refine m_callVv [] C h cv_X12_383 (qX12_putsBack hc) rfl ⟨rfl, rfl⟩ ⟨Nat.le_of_ble_eq_true rfl, Nat.le_of_ble_eq_true rfl⟩ (m_recv C h) hl.1 rfl (Nat.le_of_ble_eq_true rfl) ⟨Nat.le_refl _, Nat.le_refl _⟩ dX12_judge_138 (fun H locs h => ?_)
  clear hc
  refine lv_iload_n hx hb dX12_judge_141 rfl (lv_at hl 3 rfl) ?_
  refine lv_if_ne (tgt := 149) hx hb dX12_judge_142 (by decide) (fun hq => ?_) (fun hq => ?_)
  · replace hf := if_tn hq hf
    clear hq
    refine lv_iload_n hx hb dX12_judge_149 rfl (lv_at hl 3 rfl) ?_
    refine lv_iconst (v := (1 : Int32)) hx hb dX12_judge_150 (by decide) ?_
    refine lv_icmp_ne (tgt := 159) hx hb dX12_judge_151 (by decide) (fun hq => ?_) (fun hq => ?_)
    · replace hf := if_tn hq hf
      clear hq
      refine lv_iload_n hx hb dX12_judge_159 rfl (lv_at hl 3 rfl) ?_
      refine lv_iconst (v := (2 : Int32)) hx hb dX12_judge_160 (by decide) ?_
      refine lv_icmp_ne (tgt := 169) hx hb dX12_judge_161 (by decide) (fun hq => ?_) (fun hq => ?_)
      · replace hf := if_tn hq hf
        clear hq
        refine lv_iload hx hb dX12_judge_169 (lv_at hl 0 rfl) ?_
        obtain ⟨e1, e2⟩ := pr_inj hf
        subst e1 e2
        exact m_iret C h dX12_judge_171
      · replace hf := if_t hq hf
        clear hq
        refine lv_iload hx hb dX12_judge_164 (lv_at hl 1 rfl) ?_
        refine lv_goto (tgt := 171) hx hb dX12_judge_166 (by decide) ?_
        obtain ⟨e1, e2⟩ := pr_inj hf
        subst e1 e2
        exact m_iret C h dX12_judge_171
    · replace hf := if_t hq hf
      clear hq
      refine lv_iload hx hb dX12_judge_154 (lv_at hl 5 rfl) ?_
      refine lv_goto (tgt := 171) hx hb dX12_judge_156 (by decide) ?_
      obtain ⟨e1, e2⟩ := pr_inj hf
      subst e1 e2
      exact m_iret C h dX12_judge_171
  · replace hf := if_t hq hf
    clear hq
    refine lv_iload_n hx hb dX12_judge_145 rfl (lv_at hl 4 rfl) ?_
    refine lv_goto (tgt := 171) hx hb dX12_judge_146 (by decide) ?_
    obtain ⟨e1, e2⟩ := pr_inj hf
    subst e1 e2
    exact m_iret C h dX12_judge_171

set_option maxHeartbeats 4000000 in
set_option maxRecDepth 100000 in
theorem wX12_judge_54 (C : MCx p s m args meth c A RX12 cX12_judge 7 (some .int) D cs)  {r : Int32} {g' : MS}  : ∀ (n : Nat) (g : MS) (y1 : Int32) (y2 : Int32) (y3 : Int32) (y4 : Int32) (y5 : Int32), fX12_judge_54 n g y1 y2 y3 y4 y5 = some (r, g') → ∀ (H : Heap) (locs : List Loc) (ls : Array Slot), MH D (MW cs ad g) A s H locs → lv_has ls 7 [(0, .ref (ad 48)), (1, .int y1), (2, .int y2), (3, .int y3), (4, .int y4), (5, .int y5)] → W p l e (rM 8) s m args below meth c H locs 0 0 (MQ below (GPost D (some (.int r)) (MW cs ad g') A) args s 0 0 A) (F0 m 54 ls []) := by
  have hx := C.1
  have hb := C.2.1
  intro n
  induction n with
  | zero =>
    intro g y1 y2 y3 y4 y5 hf
    exact absurd hf (by simp [fX12_judge_54])
  | succ n ih =>
    intro g y1 y2 y3 y4 y5 hf H locs ls h hl
    rw [fX12_judge_54] at hf
    refine lv_iload hx hb dX12_judge_54 (lv_at hl 5 rfl) ?_
    refine lv_aload_n hx hb dX12_judge_56 rfl (lv_at hl 0 rfl) ?_
    refine mg_46 C h dX12_judge_57 ?_
    refine lv_iload_n hx hb dX12_judge_60 rfl (lv_at hl 1 rfl) ?_
    replace hf := chk_some hf
    obtain ⟨hq, hf⟩ := hf
    refine ml_46 C h hq dX12_judge_61 ?_
    clear hq
    refine lv_icmp_ge (tgt := 122) hx hb dX12_judge_62 (by decide) (fun hq => ?_) (fun hq => ?_)
    · replace hf := if_t hq hf
      clear hq
      exact wX12_judge_122 C g y2 y3 y4 hf H locs ls h (lv_sub hl [0, 2, 3, 4] rfl)
    · replace hf := if_f hq hf
      clear hq
      refine lv_iload_n hx hb dX12_judge_65 rfl (lv_at hl 3 rfl) ?_
      refine lv_iconst (v := (-1 : Int32)) hx hb dX12_judge_66 (by decide) ?_
      refine lv_icmp_ne (tgt := 122) hx hb dX12_judge_67 (by decide) (fun hq => ?_) (fun hq => ?_)
      · replace hf := if_tn hq hf
        clear hq
        exact wX12_judge_122 C g y2 y3 y4 hf H locs ls h (lv_sub hl [0, 2, 3, 4] rfl)
      · replace hf := if_t hq hf
        clear hq
        refine lv_aload_n hx hb dX12_judge_70 rfl (lv_at hl 0 rfl) ?_
        refine lv_aload_n hx hb dX12_judge_71 rfl (lv_at hl 0 rfl) ?_
        refine mg_47 C h dX12_judge_72 ?_
        refine lv_bipush (v := (30 : Int32)) hx hb dX12_judge_75 (by decide) ?_
        refine lv_iload_n hx hb dX12_judge_77 rfl (lv_at hl 1 rfl) ?_
        refine lv_imul hx hb dX12_judge_78 ?_
        refine lv_iload hx hb dX12_judge_79 (lv_at hl 5 rfl) ?_
        refine lv_iadd hx hb dX12_judge_81 ?_
        replace hf := chk_some hf
        obtain ⟨hq, hf⟩ := hf
        refine ml_47 C h hq dX12_judge_82 ?_
        clear hq
        replace hf := bndc_some hf
        obtain ⟨x5, g6, hc, hf⟩ := hf
        refine m_callVi [.long (g.2.2 (ix (((30 : Int32) * y1) + y5)))] C h cv_X12_377 (qX12_whyTold hc) rfl ⟨rfl, rfl⟩ ⟨Nat.le_of_ble_eq_true rfl, Nat.le_of_ble_eq_true rfl⟩ (m_recv C h) hl.1 rfl (Nat.le_of_ble_eq_true rfl) ⟨Nat.le_refl _, Nat.le_refl _⟩ dX12_judge_83 (fun H locs h => ?_)
        clear hc
        refine lv_istore (lv' := [(4, .int x5), (0, .ref (ad 48)), (1, .int y1), (2, .int y2), (3, .int y3), (5, .int y5)]) hx hb dX12_judge_86 hl (by decide) rfl (fun ls hl => ?_)
        refine lv_iload hx hb dX12_judge_88 (lv_at hl 0 rfl) ?_
        refine lv_if_ne (tgt := 113) hx hb dX12_judge_90 (by decide) (fun hq => ?_) (fun hq => ?_)
        · replace hf := if_tn hq hf
          clear hq
          refine lv_iload hx hb dX12_judge_113 (lv_at hl 5 rfl) ?_
          refine lv_istore_n (lv' := [(3, .int y5), (4, .int x5), (0, .ref (ad 48)), (1, .int y1), (2, .int y2), (5, .int y5)]) hx hb dX12_judge_115 rfl hl (by decide) rfl (fun ls hl => ?_)
          obtain ⟨x7, ex7⟩ : ∃ z : Int32, z = y5 + (1 : Int32) := ⟨_, rfl⟩
          replace hf := bnd_at ex7 hf
          refine lv_iinc (v := x7) (lv' := [(5, .int x7), (3, .int y5), (4, .int x5), (0, .ref (ad 48)), (1, .int y1), (2, .int y2)]) hx hb dX12_judge_116 hl (k := 5) rfl (by rw [ex7]; rfl) (by decide) rfl (fun ls hl => ?_)
          clear ex7
          refine lv_goto (tgt := 54) hx hb dX12_judge_119 (by decide) ?_
          exact ih g6 y1 y2 y5 x5 x7 hf H locs ls h (lv_sub hl [3, 4, 5, 1, 2, 0] rfl)
        · replace hf := if_t hq hf
          clear hq
          refine lv_aload_n hx hb dX12_judge_93 rfl (lv_at hl 1 rfl) ?_
          refine lv_aload_n hx hb dX12_judge_94 rfl (lv_at hl 1 rfl) ?_
          refine mg_47 C h dX12_judge_95 ?_
          refine lv_bipush (v := (30 : Int32)) hx hb dX12_judge_98 (by decide) ?_
          refine lv_iload_n hx hb dX12_judge_100 rfl (lv_at hl 2 rfl) ?_
          refine lv_imul hx hb dX12_judge_101 ?_
          refine lv_iload hx hb dX12_judge_102 (lv_at hl 5 rfl) ?_
          refine lv_iadd hx hb dX12_judge_104 ?_
          replace hf := chk_some hf
          obtain ⟨hq, hf⟩ := hf
          refine ml_47 C h hq dX12_judge_105 ?_
          clear hq
          refine lv_l2i hx hb dX12_judge_106 rfl ?_
          replace hf := bndv_some hf
          obtain ⟨g8, hc, hf⟩ := hf
          refine m_callVv [.int ((g6.2.2 (ix (((30 : Int32) * y1) + y5))).toInt32)] C h cv_X12_380 (qX12_does hc) rfl ⟨rfl, rfl⟩ ⟨Nat.le_of_ble_eq_true rfl, Nat.le_of_ble_eq_true rfl⟩ (m_recv C h) hl.1 rfl (Nat.le_of_ble_eq_true rfl) ⟨Nat.le_refl _, Nat.le_refl _⟩ dX12_judge_107 (fun H locs h => ?_)
          clear hc
          refine lv_goto (tgt := 116) hx hb dX12_judge_110 (by decide) ?_
          obtain ⟨x9, ex9⟩ : ∃ z : Int32, z = y5 + (1 : Int32) := ⟨_, rfl⟩
          replace hf := bnd_at ex9 hf
          refine lv_iinc (v := x9) (lv' := [(5, .int x9), (4, .int x5), (0, .ref (ad 48)), (1, .int y1), (2, .int y2), (3, .int y3)]) hx hb dX12_judge_116 hl (k := 5) rfl (by rw [ex9]; rfl) (by decide) rfl (fun ls hl => ?_)
          clear ex9
          refine lv_goto (tgt := 54) hx hb dX12_judge_119 (by decide) ?_
          exact ih g8 y1 y2 y3 x5 x9 hf H locs ls h (lv_sub hl [2, 3, 4, 5, 1, 0] rfl)

set_option maxHeartbeats 4000000 in
set_option maxRecDepth 100000 in
theorem wX12_judge_33 (C : MCx p s m args meth c A RX12 cX12_judge 7 (some .int) D cs)  {r : Int32} {g' : MS}  : ∀ (g : MS) (y1 : Int32) (y2 : Int32), fX12_judge_33 g y1 y2 = some (r, g') → ∀ (H : Heap) (locs : List Loc) (ls : Array Slot), MH D (MW cs ad g) A s H locs → lv_has ls 7 [(0, .ref (ad 48)), (1, .int y1), (2, .int y2)] → W p l e (rM 8) s m args below meth c H locs 0 0 (MQ below (GPost D (some (.int r)) (MW cs ad g') A) args s 0 0 A) (F0 m 33 ls []) := by
  have hx := C.1
  have hb := C.2.1
  intro g y1 y2 hf H locs ls h hl
  unfold fX12_judge_33 at hf
  refine lv_aload_n hx hb dX12_judge_33 rfl (lv_at hl 0 rfl) ?_
  refine mg_4 C h dX12_judge_34 ?_
  refine lv_if_le (tgt := 42) hx hb dX12_judge_37 (by decide) (fun hq => ?_) (fun hq => ?_)
  · replace hf := if_t hq hf
    clear hq
    refine lv_aload_n hx hb dX12_judge_42 rfl (lv_at hl 0 rfl) ?_
    replace hf := bndv_some hf
    obtain ⟨g10, hc, hf⟩ := hf
    refine m_callVv [] C h cv_X12_374 (qX12_putsAside hc) rfl ⟨rfl, rfl⟩ ⟨Nat.le_of_ble_eq_true rfl, Nat.le_of_ble_eq_true rfl⟩ (m_recv C h) hl.1 rfl (Nat.le_of_ble_eq_true rfl) ⟨Nat.le_refl _, Nat.le_refl _⟩ dX12_judge_43 (fun H locs h => ?_)
    clear hc
    refine lv_iconst (v := (-1 : Int32)) hx hb dX12_judge_46 (by decide) ?_
    refine lv_istore_n (lv' := [(3, .int (-1 : Int32)), (0, .ref (ad 48)), (1, .int y1), (2, .int y2)]) hx hb dX12_judge_47 rfl hl (by decide) rfl (fun ls hl => ?_)
    refine lv_iconst (v := (0 : Int32)) hx hb dX12_judge_48 (by decide) ?_
    refine lv_istore (lv' := [(4, .int (0 : Int32)), (3, .int (-1 : Int32)), (0, .ref (ad 48)), (1, .int y1), (2, .int y2)]) hx hb dX12_judge_49 hl (by decide) rfl (fun ls hl => ?_)
    refine lv_iconst (v := (0 : Int32)) hx hb dX12_judge_51 (by decide) ?_
    refine lv_istore (lv' := [(5, .int (0 : Int32)), (4, .int (0 : Int32)), (3, .int (-1 : Int32)), (0, .ref (ad 48)), (1, .int y1), (2, .int y2)]) hx hb dX12_judge_52 hl (by decide) rfl (fun ls hl => ?_)
    exact wX12_judge_54 C fuel g10 y1 y2 (-1 : Int32) (0 : Int32) (0 : Int32) hf H locs ls h (lv_sub hl [3, 4, 5, 2, 1, 0] rfl)
  · replace hf := if_f hq hf
    clear hq
    refine lv_iconst (v := (0 : Int32)) hx hb dX12_judge_40 (by decide) ?_
    obtain ⟨e1, e2⟩ := pr_inj hf
    subst e1 e2
    exact m_iret C h dX12_judge_41

set_option maxHeartbeats 4000000 in
set_option maxRecDepth 100000 in
theorem qX12_judge {l : Launch} {D : va_G} {cs : Nat → ClassId} {ad : Nat → Nat} {r : Int32} {g' : MS} {g : MS}  {a0 : Int32} {a1 : Int32} (hf : fX12_judge g a0 a1 = some (r, g')) : GCon l D cs yX12_judge cX12_judge 7 (some .int) (rM 8) 0 0 [.ref (ad 48), .int a0, .int a1] (MW cs ad g) (some (.int r)) (MW cs ad g') := by
  refine GCon.of (by decide) (Nat.le_of_ble_eq_true rfl) ?_
  intro p e s m args below meth c A ls H locs C h hl
  have hx := C.1
  have hb := C.2.1
  have C : MCx p s m args meth c A RX12 cX12_judge 7 (some .int) D cs := C
  have hl : lv_has ls 7 [(0, .ref (ad 48)), (1, .int a0), (2, .int a1)] := hl
  unfold fX12_judge at hf
  refine lv_aload_n hx hb dX12_judge_0 rfl (lv_at hl 0 rfl) ?_
  refine lv_aload_n hx hb dX12_judge_1 rfl (lv_at hl 0 rfl) ?_
  refine lv_iload_n hx hb dX12_judge_2 rfl (lv_at hl 1 rfl) ?_
  replace hf := bndc_some hf
  obtain ⟨x11, g12, hc, hf⟩ := hf
  refine m_callVi [.int a0] C h cv_X12_369 (qX12_trayFault hc) rfl ⟨rfl, rfl⟩ ⟨Nat.le_of_ble_eq_true rfl, Nat.le_of_ble_eq_true rfl⟩ (m_recv C h) hl.1 rfl (Nat.le_of_ble_eq_true rfl) ⟨Nat.le_refl _, Nat.le_refl _⟩ dX12_judge_3 (fun H locs h => ?_)
  clear hc
  replace hf := bnd_ex hf
  obtain ⟨g13, eg13, hf⟩ := hf
  refine mp_4 C h dX12_judge_6 (fun H locs h => ?_)
  rw [← eg13] at h
  clear eg13
  refine lv_aload_n hx hb dX12_judge_9 rfl (lv_at hl 0 rfl) ?_
  refine mg_4 C h dX12_judge_10 ?_
  refine lv_if_ne (tgt := 33) hx hb dX12_judge_13 (by decide) (fun hq => ?_) (fun hq => ?_)
  · replace hf := if_tn hq hf
    clear hq
    exact wX12_judge_33 C g13 a0 a1 hf H locs ls h (lv_sub hl [0, 1, 2] rfl)
  · replace hf := if_t hq hf
    clear hq
    refine lv_iload_n hx hb dX12_judge_16 rfl (lv_at hl 2 rfl) ?_
    refine lv_i2l hx hb dX12_judge_17 rfl ?_
    refine lv_lconst (v := (0 : Int64)) hx hb dX12_judge_18 rfl ?_
    refine lv_ldc2 hx hb C.2.2.2.1 (C.2.2.2.2.1 _ tb_40_5) dX12_judge_19 ?_
    replace hf := bndv_some hf
    obtain ⟨x14, hc, hf⟩ := hf
    refine m_callSi [.long a1.toInt64, .long (0 : Int64), .long (3 : Int64)] C h cs_X12_147 (qX12_within hc) rfl ⟨rfl, rfl⟩ ⟨Nat.le_of_ble_eq_true rfl, Nat.le_of_ble_eq_true rfl⟩ hl.1 rfl (Nat.le_of_ble_eq_true rfl) ⟨Nat.le_refl _, Nat.le_refl _⟩ dX12_judge_22 (fun H locs h => ?_)
    clear hc
    refine lv_if_ne (tgt := 33) hx hb dX12_judge_25 (by decide) (fun hq => ?_) (fun hq => ?_)
    · replace hf := if_tn hq hf
      clear hq
      exact wX12_judge_33 C g13 a0 a1 hf H locs ls h (lv_sub hl [0, 1, 2] rfl)
    · replace hf := if_t hq hf
      clear hq
      refine lv_aload_n hx hb dX12_judge_28 rfl (lv_at hl 0 rfl) ?_
      refine lv_iconst (v := (3 : Int32)) hx hb dX12_judge_29 (by decide) ?_
      replace hf := bnd_ex hf
      obtain ⟨g15, eg15, hf⟩ := hf
      refine mp_4 C h dX12_judge_30 (fun H locs h => ?_)
      rw [← eg15] at h
      clear eg15
      exact wX12_judge_33 C g15 a0 a1 hf H locs ls h (lv_sub hl [0, 1, 2] rfl)

set_option maxHeartbeats 4000000 in
set_option maxRecDepth 100000 in
theorem wX12_perform_20 (C : MCx p s m args meth c A RX12 cX12_perform 3 (some .int) D cs)  {r : Int32} {g' : MS}  : ∀ (n : Nat) (g : MS) (y1 : Int32) (y2 : Int32), fX12_perform_20 n g y1 y2 = some (r, g') → ∀ (H : Heap) (locs : List Loc) (ls : Array Slot), MH D (MW cs ad g) A s H locs → lv_has ls 3 [(0, .ref (ad 48)), (1, .int y1), (2, .int y2)] → W p l e (rM 8) s m args below meth c H locs 0 0 (MQ below (GPost D (some (.int r)) (MW cs ad g') A) args s 0 0 A) (F0 m 20 ls []) := by
  have hx := C.1
  have hb := C.2.1
  intro n
  induction n with
  | zero =>
    intro g y1 y2 hf
    exact absurd hf (by simp [fX12_perform_20])
  | succ n ih =>
    intro g y1 y2 hf H locs ls h hl
    rw [fX12_perform_20] at hf
    refine lv_iload_n hx hb dX12_perform_20 rfl (lv_at hl 2 rfl) ?_
    refine lv_aload_n hx hb dX12_perform_21 rfl (lv_at hl 0 rfl) ?_
    refine mg_46 C h dX12_perform_22 ?_
    refine lv_iload_n hx hb dX12_perform_25 rfl (lv_at hl 1 rfl) ?_
    replace hf := chk_some hf
    obtain ⟨hq, hf⟩ := hf
    refine ml_46 C h hq dX12_perform_26 ?_
    clear hq
    refine lv_icmp_ge (tgt := 74) hx hb dX12_perform_27 (by decide) (fun hq => ?_) (fun hq => ?_)
    · replace hf := if_t hq hf
      clear hq
      refine lv_iload_n hx hb dX12_perform_74 rfl (lv_at hl 2 rfl) ?_
      obtain ⟨e1, e2⟩ := pr_inj hf
      subst e1 e2
      exact m_iret C h dX12_perform_75
    · replace hf := if_f hq hf
      clear hq
      refine lv_aload_n hx hb dX12_perform_30 rfl (lv_at hl 0 rfl) ?_
      refine lv_aload_n hx hb dX12_perform_31 rfl (lv_at hl 0 rfl) ?_
      refine mg_47 C h dX12_perform_32 ?_
      refine lv_bipush (v := (30 : Int32)) hx hb dX12_perform_35 (by decide) ?_
      refine lv_iload_n hx hb dX12_perform_37 rfl (lv_at hl 1 rfl) ?_
      refine lv_imul hx hb dX12_perform_38 ?_
      refine lv_iload_n hx hb dX12_perform_39 rfl (lv_at hl 2 rfl) ?_
      refine lv_iadd hx hb dX12_perform_40 ?_
      replace hf := chk_some hf
      obtain ⟨hq, hf⟩ := hf
      refine ml_47 C h hq dX12_perform_41 ?_
      clear hq
      replace hf := bndc_some hf
      obtain ⟨x1, g2, hc, hf⟩ := hf
      refine m_callVi [.long (g.2.2 (ix (((30 : Int32) * y1) + y2)))] C h cv_X12_377 (qX12_whyTold hc) rfl ⟨rfl, rfl⟩ ⟨Nat.le_of_ble_eq_true rfl, Nat.le_of_ble_eq_true rfl⟩ (m_recv C h) hl.1 rfl (Nat.le_of_ble_eq_true rfl) ⟨Nat.le_refl _, Nat.le_refl _⟩ dX12_perform_42 (fun H locs h => ?_)
      clear hc
      refine lv_if_ne (tgt := 74) hx hb dX12_perform_45 (by decide) (fun hq => ?_) (fun hq => ?_)
      · replace hf := if_tn hq hf
        clear hq
        refine lv_iload_n hx hb dX12_perform_74 rfl (lv_at hl 2 rfl) ?_
        obtain ⟨e1, e2⟩ := pr_inj hf
        subst e1 e2
        exact m_iret C h dX12_perform_75
      · replace hf := if_t hq hf
        clear hq
        refine lv_aload_n hx hb dX12_perform_48 rfl (lv_at hl 0 rfl) ?_
        replace hf := bndv_some hf
        obtain ⟨g3, hc, hf⟩ := hf
        refine m_callVv [] C h cv_X12_341 (qX12_keeps hc) rfl ⟨rfl, rfl⟩ ⟨Nat.le_of_ble_eq_true rfl, Nat.le_of_ble_eq_true rfl⟩ (m_recv C h) hl.1 rfl (Nat.le_of_ble_eq_true rfl) ⟨Nat.le_refl _, Nat.le_refl _⟩ dX12_perform_49 (fun H locs h => ?_)
        clear hc
        refine lv_aload_n hx hb dX12_perform_52 rfl (lv_at hl 0 rfl) ?_
        refine lv_aload_n hx hb dX12_perform_53 rfl (lv_at hl 0 rfl) ?_
        refine mg_47 C h dX12_perform_54 ?_
        refine lv_bipush (v := (30 : Int32)) hx hb dX12_perform_57 (by decide) ?_
        refine lv_iload_n hx hb dX12_perform_59 rfl (lv_at hl 1 rfl) ?_
        refine lv_imul hx hb dX12_perform_60 ?_
        refine lv_iload_n hx hb dX12_perform_61 rfl (lv_at hl 2 rfl) ?_
        refine lv_iadd hx hb dX12_perform_62 ?_
        replace hf := chk_some hf
        obtain ⟨hq, hf⟩ := hf
        refine ml_47 C h hq dX12_perform_63 ?_
        clear hq
        refine lv_l2i hx hb dX12_perform_64 rfl ?_
        replace hf := bndv_some hf
        obtain ⟨g4, hc, hf⟩ := hf
        refine m_callVv [.int ((g3.2.2 (ix (((30 : Int32) * y1) + y2))).toInt32)] C h cv_X12_380 (qX12_does hc) rfl ⟨rfl, rfl⟩ ⟨Nat.le_of_ble_eq_true rfl, Nat.le_of_ble_eq_true rfl⟩ (m_recv C h) hl.1 rfl (Nat.le_of_ble_eq_true rfl) ⟨Nat.le_refl _, Nat.le_refl _⟩ dX12_perform_65 (fun H locs h => ?_)
        clear hc
        obtain ⟨x5, ex5⟩ : ∃ z : Int32, z = y2 + (1 : Int32) := ⟨_, rfl⟩
        replace hf := bnd_at ex5 hf
        refine lv_iinc (v := x5) (lv' := [(2, .int x5), (0, .ref (ad 48)), (1, .int y1)]) hx hb dX12_perform_68 hl (k := 2) rfl (by rw [ex5]; rfl) (by decide) rfl (fun ls hl => ?_)
        clear ex5
        refine lv_goto (tgt := 20) hx hb dX12_perform_71 (by decide) ?_
        exact ih g4 y1 x5 hf H locs ls h (lv_sub hl [1, 2, 0] rfl)

set_option maxHeartbeats 4000000 in
set_option maxRecDepth 100000 in
theorem qX12_perform {l : Launch} {D : va_G} {cs : Nat → ClassId} {ad : Nat → Nat} {r : Int32} {g' : MS} {g : MS}  {a0 : Int32} (hf : fX12_perform g a0 = some (r, g')) : GCon l D cs yX12_perform cX12_perform 3 (some .int) (rM 8) 0 0 [.ref (ad 48), .int a0] (MW cs ad g) (some (.int r)) (MW cs ad g') := by
  refine GCon.of (by decide) (Nat.le_of_ble_eq_true rfl) ?_
  intro p e s m args below meth c A ls H locs C h hl
  have hx := C.1
  have hb := C.2.1
  have C : MCx p s m args meth c A RX12 cX12_perform 3 (some .int) D cs := C
  have hl : lv_has ls 3 [(0, .ref (ad 48)), (1, .int a0)] := hl
  unfold fX12_perform at hf
  refine lv_aload_n hx hb dX12_perform_0 rfl (lv_at hl 0 rfl) ?_
  refine lv_aload_n hx hb dX12_perform_1 rfl (lv_at hl 0 rfl) ?_
  refine lv_iload_n hx hb dX12_perform_2 rfl (lv_at hl 1 rfl) ?_
  replace hf := bndc_some hf
  obtain ⟨x6, g7, hc, hf⟩ := hf
  refine m_callVi [.int a0] C h cv_X12_369 (qX12_trayFault hc) rfl ⟨rfl, rfl⟩ ⟨Nat.le_of_ble_eq_true rfl, Nat.le_of_ble_eq_true rfl⟩ (m_recv C h) hl.1 rfl (Nat.le_of_ble_eq_true rfl) ⟨Nat.le_refl _, Nat.le_refl _⟩ dX12_perform_3 (fun H locs h => ?_)
  clear hc
  replace hf := bnd_ex hf
  obtain ⟨g8, eg8, hf⟩ := hf
  refine mp_4 C h dX12_perform_6 (fun H locs h => ?_)
  rw [← eg8] at h
  clear eg8
  refine lv_aload_n hx hb dX12_perform_9 rfl (lv_at hl 0 rfl) ?_
  refine mg_4 C h dX12_perform_10 ?_
  refine lv_if_le (tgt := 18) hx hb dX12_perform_13 (by decide) (fun hq => ?_) (fun hq => ?_)
  · replace hf := if_t hq hf
    clear hq
    refine lv_iconst (v := (0 : Int32)) hx hb dX12_perform_18 (by decide) ?_
    refine lv_istore_n (lv' := [(2, .int (0 : Int32)), (0, .ref (ad 48)), (1, .int a0)]) hx hb dX12_perform_19 rfl hl (by decide) rfl (fun ls hl => ?_)
    exact wX12_perform_20 C fuel g8 a0 (0 : Int32) hf H locs ls h (lv_sub hl [1, 2, 0] rfl)
  · replace hf := if_f hq hf
    clear hq
    refine lv_iconst (v := (0 : Int32)) hx hb dX12_perform_16 (by decide) ?_
    obtain ⟨e1, e2⟩ := pr_inj hf
    subst e1 e2
    exact m_iret C h dX12_perform_17

set_option maxHeartbeats 4000000 in
set_option maxRecDepth 100000 in
theorem qX12_draw {l : Launch} {D : va_G} {cs : Nat → ClassId} {ad : Nat → Nat} {r : Int32} {g' : MS} {g : MS}  {a0 : Int32} (hf : fX12_draw g a0 = some (r, g')) : GCon l D cs yX12_draw cX12_draw 2 (some .int) (rM 0) 0 0 [.ref (ad 48), .int a0] (MW cs ad g) (some (.int r)) (MW cs ad g') := by
  refine GCon.of (by decide) (Nat.le_of_ble_eq_true rfl) ?_
  intro p e s m args below meth c A ls H locs C h hl
  have hx := C.1
  have hb := C.2.1
  have C : MCx p s m args meth c A RX12 cX12_draw 2 (some .int) D cs := C
  have hl : lv_has ls 2 [(0, .ref (ad 48)), (1, .int a0)] := hl
  unfold fX12_draw at hf
  refine lv_aload_n hx hb dX12_draw_0 rfl (lv_at hl 0 rfl) ?_
  refine lv_ldcw hx hb C.2.2.2.1 (C.2.2.2.2.1 _ tb_42_23) dX12_draw_1 ?_
  refine lv_aload_n hx hb dX12_draw_4 rfl (lv_at hl 0 rfl) ?_
  refine mg_25 C h dX12_draw_5 ?_
  refine lv_imul hx hb dX12_draw_8 ?_
  refine lv_sipush (v := (12345 : Int32)) hx hb dX12_draw_9 (by decide) ?_
  refine lv_iadd hx hb dX12_draw_12 ?_
  replace hf := bnd_ex hf
  obtain ⟨g1, eg1, hf⟩ := hf
  refine mp_25 C h dX12_draw_13 (fun H locs h => ?_)
  rw [← eg1] at h
  clear eg1
  refine lv_aload_n hx hb dX12_draw_16 rfl (lv_at hl 0 rfl) ?_
  refine mg_25 C h dX12_draw_17 ?_
  refine lv_bipush (v := (16 : Int32)) hx hb dX12_draw_20 (by decide) ?_
  refine x_iushr hx hb dX12_draw_22 ?_
  refine lv_iload_n hx hb dX12_draw_23 rfl (lv_at hl 1 rfl) ?_
  replace hf := chk_some hf
  obtain ⟨hq, hf⟩ := hf
  refine x_irem hx hb dX12_draw_24 (nz_ne hq) ?_
  clear hq
  obtain ⟨e1, e2⟩ := pr_inj hf
  subst e1 e2
  exact m_iret C h dX12_draw_25

set_option maxHeartbeats 4000000 in
set_option maxRecDepth 100000 in
theorem qX12_drawn {l : Launch} {D : va_G} {cs : Nat → ClassId} {ad : Nat → Nat} {r : Int32} {g' : MS} {g : MS}  {a0 : Int32} {a1 : Int32} (hf : fX12_drawn g a0 a1 = some (r, g')) : GCon l D cs yX12_drawn cX12_drawn 3 (some .int) (rM 1) 0 0 [.ref (ad 48), .int a0, .int a1] (MW cs ad g) (some (.int r)) (MW cs ad g') := by
  refine GCon.of (by decide) (Nat.le_of_ble_eq_true rfl) ?_
  intro p e s m args below meth c A ls H locs C h hl
  have hx := C.1
  have hb := C.2.1
  have C : MCx p s m args meth c A RX12 cX12_drawn 3 (some .int) D cs := C
  have hl : lv_has ls 3 [(0, .ref (ad 48)), (1, .int a0), (2, .int a1)] := hl
  unfold fX12_drawn at hf
  refine lv_iload_n hx hb dX12_drawn_0 rfl (lv_at hl 1 rfl) ?_
  refine lv_iconst (v := (4 : Int32)) hx hb dX12_drawn_1 (by decide) ?_
  refine lv_icmp_ne (tgt := 11) hx hb dX12_drawn_2 (by decide) (fun hq => ?_) (fun hq => ?_)
  · replace hf := if_tn hq hf
    clear hq
    refine lv_iload_n hx hb dX12_drawn_11 rfl (lv_at hl 1 rfl) ?_
    refine lv_iconst (v := (3 : Int32)) hx hb dX12_drawn_12 (by decide) ?_
    refine lv_icmp_ne (tgt := 33) hx hb dX12_drawn_13 (by decide) (fun hq => ?_) (fun hq => ?_)
    · replace hf := if_tn hq hf
      clear hq
      refine lv_iconst (v := (1 : Int32)) hx hb dX12_drawn_33 (by decide) ?_
      refine lv_bipush (v := (10 : Int32)) hx hb dX12_drawn_34 (by decide) ?_
      refine lv_iload_n hx hb dX12_drawn_36 rfl (lv_at hl 2 rfl) ?_
      refine lv_imul hx hb dX12_drawn_37 ?_
      refine lv_iadd hx hb dX12_drawn_38 ?_
      refine lv_aload_n hx hb dX12_drawn_39 rfl (lv_at hl 0 rfl) ?_
      refine lv_iconst (v := (5 : Int32)) hx hb dX12_drawn_40 (by decide) ?_
      replace hf := bndc_some hf
      obtain ⟨x1, g2, hc, hf⟩ := hf
      refine m_callVi [.int (5 : Int32)] C h cv_X12_392 (qX12_draw hc) rfl ⟨rfl, rfl⟩ ⟨Nat.le_of_ble_eq_true rfl, Nat.le_of_ble_eq_true rfl⟩ (m_recv C h) hl.1 rfl (Nat.le_of_ble_eq_true rfl) ⟨Nat.le_refl _, Nat.le_refl _⟩ dX12_drawn_41 (fun H locs h => ?_)
      clear hc
      refine lv_iadd hx hb dX12_drawn_44 ?_
      obtain ⟨e1, e2⟩ := pr_inj hf
      subst e1 e2
      exact m_iret C h dX12_drawn_45
    · replace hf := if_t hq hf
      clear hq
      refine lv_bipush (v := (101 : Int32)) hx hb dX12_drawn_16 (by decide) ?_
      refine lv_bipush (v := (10 : Int32)) hx hb dX12_drawn_18 (by decide) ?_
      refine lv_iload_n hx hb dX12_drawn_20 rfl (lv_at hl 2 rfl) ?_
      refine lv_imul hx hb dX12_drawn_21 ?_
      refine lv_iadd hx hb dX12_drawn_22 ?_
      refine lv_aload_n hx hb dX12_drawn_23 rfl (lv_at hl 0 rfl) ?_
      refine lv_bipush (v := (9 : Int32)) hx hb dX12_drawn_24 (by decide) ?_
      replace hf := bndc_some hf
      obtain ⟨x3, g4, hc, hf⟩ := hf
      refine m_callVi [.int (9 : Int32)] C h cv_X12_392 (qX12_draw hc) rfl ⟨rfl, rfl⟩ ⟨Nat.le_of_ble_eq_true rfl, Nat.le_of_ble_eq_true rfl⟩ (m_recv C h) hl.1 rfl (Nat.le_of_ble_eq_true rfl) ⟨Nat.le_refl _, Nat.le_refl _⟩ dX12_drawn_26 (fun H locs h => ?_)
      clear hc
      refine lv_iadd hx hb dX12_drawn_29 ?_
      refine lv_goto (tgt := 45) hx hb dX12_drawn_30 (by decide) ?_
      obtain ⟨e1, e2⟩ := pr_inj hf
      subst e1 e2
      exact m_iret C h dX12_drawn_45
  · replace hf := if_t hq hf
    clear hq
    refine lv_sipush (v := (200 : Int32)) hx hb dX12_drawn_5 (by decide) ?_
    refine lv_iload_n hx hb dX12_drawn_8 rfl (lv_at hl 2 rfl) ?_
    refine lv_iadd hx hb dX12_drawn_9 ?_
    obtain ⟨e1, e2⟩ := pr_inj hf
    subst e1 e2
    exact m_iret C h dX12_drawn_10

set_option maxHeartbeats 4000000 in
set_option maxRecDepth 100000 in
theorem wX12_session_67 (C : MCx p s m args meth c A RX12 cX12_session 7 (some .int) D cs)  {r : Int32} {g' : MS}  {k33 : MS → Int32 → Int32 → Int32 → Option (Int32 × MS)} (hk33 : ∀ (g : MS) (y2 : Int32) (y3 : Int32) (y4 : Int32), k33 g y2 y3 y4 = some (r, g') → ∀ (H : Heap) (locs : List Loc) (ls : Array Slot), MH D (MW cs ad g) A s H locs → lv_has ls 7 [(0, .ref (ad 48)), (2, .int y2), (3, .int y3), (4, .int y4)] → W p l e (rM 8) s m args below meth c H locs 0 0 (MQ below (GPost D (some (.int r)) (MW cs ad g') A) args s 0 0 A) (F0 m 33 ls [])) : ∀ (g : MS) (y2 : Int32) (y3 : Int32) (y4 : Int32) (t0 : Int32), fX12_session_67 k33 g y2 y3 y4 t0 = some (r, g') → ∀ (H : Heap) (locs : List Loc) (ls : Array Slot), MH D (MW cs ad g) A s H locs → lv_has ls 7 [(0, .ref (ad 48)), (2, .int y2), (3, .int y3), (4, .int y4)] → W p l e (rM 8) s m args below meth c H locs 0 0 (MQ below (GPost D (some (.int r)) (MW cs ad g') A) args s 0 0 A) (F0 m 67 ls [.int t0]) := by
  have hx := C.1
  have hb := C.2.1
  intro g y2 y3 y4 t0 hf H locs ls h hl
  unfold fX12_session_67 at hf
  refine lv_istore (lv' := [(6, .int t0), (0, .ref (ad 48)), (2, .int y2), (3, .int y3), (4, .int y4)]) hx hb dX12_session_67 hl (by decide) rfl (fun ls hl => ?_)
  refine lv_aload_n hx hb dX12_session_69 rfl (lv_at hl 1 rfl) ?_
  refine lv_iload hx hb dX12_session_70 (lv_at hl 0 rfl) ?_
  refine lv_i2l hx hb dX12_session_72 rfl ?_
  replace hf := bndc_some hf
  obtain ⟨x1, g2, hc, hf⟩ := hf
  refine m_callVi [.long t0.toInt64] C h cv_X12_377 (qX12_whyTold hc) rfl ⟨rfl, rfl⟩ ⟨Nat.le_of_ble_eq_true rfl, Nat.le_of_ble_eq_true rfl⟩ (m_recv C h) hl.1 rfl (Nat.le_of_ble_eq_true rfl) ⟨Nat.le_refl _, Nat.le_refl _⟩ dX12_session_73 (fun H locs h => ?_)
  clear hc
  refine lv_if_eq (tgt := 82) hx hb dX12_session_76 (by decide) (fun hq => ?_) (fun hq => ?_)
  · replace hf := if_t hq hf
    clear hq
    refine lv_aload_n hx hb dX12_session_82 rfl (lv_at hl 1 rfl) ?_
    replace hf := bndv_some hf
    obtain ⟨g3, hc, hf⟩ := hf
    refine m_callVv [] C h cv_X12_341 (qX12_keeps hc) rfl ⟨rfl, rfl⟩ ⟨Nat.le_of_ble_eq_true rfl, Nat.le_of_ble_eq_true rfl⟩ (m_recv C h) hl.1 rfl (Nat.le_of_ble_eq_true rfl) ⟨Nat.le_refl _, Nat.le_refl _⟩ dX12_session_83 (fun H locs h => ?_)
    clear hc
    refine lv_aload_n hx hb dX12_session_86 rfl (lv_at hl 1 rfl) ?_
    refine lv_iload hx hb dX12_session_87 (lv_at hl 0 rfl) ?_
    replace hf := bndv_some hf
    obtain ⟨g4, hc, hf⟩ := hf
    refine m_callVv [.int t0] C h cv_X12_380 (qX12_does hc) rfl ⟨rfl, rfl⟩ ⟨Nat.le_of_ble_eq_true rfl, Nat.le_of_ble_eq_true rfl⟩ (m_recv C h) hl.1 rfl (Nat.le_of_ble_eq_true rfl) ⟨Nat.le_refl _, Nat.le_refl _⟩ dX12_session_89 (fun H locs h => ?_)
    clear hc
    obtain ⟨x5, ex5⟩ : ∃ z : Int32, z = y3 + (1 : Int32) := ⟨_, rfl⟩
    replace hf := bnd_at ex5 hf
    refine lv_iinc (v := x5) (lv' := [(3, .int x5), (6, .int t0), (0, .ref (ad 48)), (2, .int y2), (4, .int y4)]) hx hb dX12_session_92 hl (k := 3) rfl (by rw [ex5]; rfl) (by decide) rfl (fun ls hl => ?_)
    clear ex5
    obtain ⟨x6, ex6⟩ : ∃ z : Int32, z = y4 + (1 : Int32) := ⟨_, rfl⟩
    replace hf := bnd_at ex6 hf
    refine lv_iinc (v := x6) (lv' := [(4, .int x6), (3, .int x5), (6, .int t0), (0, .ref (ad 48)), (2, .int y2)]) hx hb dX12_session_95 hl (k := 4) rfl (by rw [ex6]; rfl) (by decide) rfl (fun ls hl => ?_)
    clear ex6
    refine lv_goto (tgt := 33) hx hb dX12_session_98 (by decide) ?_
    exact hk33 g4 y2 x5 x6 hf H locs ls h (lv_sub hl [3, 4, 1, 0] rfl)
  · replace hf := if_f hq hf
    clear hq
    refine lv_goto (tgt := 95) hx hb dX12_session_79 (by decide) ?_
    obtain ⟨x7, ex7⟩ : ∃ z : Int32, z = y4 + (1 : Int32) := ⟨_, rfl⟩
    replace hf := bnd_at ex7 hf
    refine lv_iinc (v := x7) (lv' := [(4, .int x7), (6, .int t0), (0, .ref (ad 48)), (2, .int y2), (3, .int y3)]) hx hb dX12_session_95 hl (k := 4) rfl (by rw [ex7]; rfl) (by decide) rfl (fun ls hl => ?_)
    clear ex7
    refine lv_goto (tgt := 33) hx hb dX12_session_98 (by decide) ?_
    exact hk33 g2 y2 y3 x7 hf H locs ls h (lv_sub hl [2, 3, 4, 0] rfl)

set_option maxHeartbeats 4000000 in
set_option maxRecDepth 100000 in
theorem wX12_session_33 (C : MCx p s m args meth c A RX12 cX12_session 7 (some .int) D cs)  {r : Int32} {g' : MS}  : ∀ (n : Nat) (g : MS) (y2 : Int32) (y3 : Int32) (y4 : Int32), fX12_session_33 n g y2 y3 y4 = some (r, g') → ∀ (H : Heap) (locs : List Loc) (ls : Array Slot), MH D (MW cs ad g) A s H locs → lv_has ls 7 [(0, .ref (ad 48)), (2, .int y2), (3, .int y3), (4, .int y4)] → W p l e (rM 8) s m args below meth c H locs 0 0 (MQ below (GPost D (some (.int r)) (MW cs ad g') A) args s 0 0 A) (F0 m 33 ls []) := by
  have hx := C.1
  have hb := C.2.1
  intro n
  induction n with
  | zero =>
    intro g y2 y3 y4 hf
    exact absurd hf (by simp [fX12_session_33])
  | succ n ih =>
    intro g y2 y3 y4 hf H locs ls h hl
    rw [fX12_session_33] at hf
    refine lv_iload hx hb dX12_session_33 (lv_at hl 3 rfl) ?_
    refine lv_iload_n hx hb dX12_session_35 rfl (lv_at hl 1 rfl) ?_
    refine lv_icmp_ge (tgt := 101) hx hb dX12_session_36 (by decide) (fun hq => ?_) (fun hq => ?_)
    · replace hf := if_t hq hf
      clear hq
      refine lv_iload_n hx hb dX12_session_101 rfl (lv_at hl 2 rfl) ?_
      obtain ⟨e1, e2⟩ := pr_inj hf
      subst e1 e2
      exact m_iret C h dX12_session_102
    · replace hf := if_f hq hf
      clear hq
      refine lv_aload_n hx hb dX12_session_39 rfl (lv_at hl 0 rfl) ?_
      refine lv_iconst (v := (5 : Int32)) hx hb dX12_session_40 (by decide) ?_
      replace hf := bndc_some hf
      obtain ⟨x8, g9, hc, hf⟩ := hf
      refine m_callVi [.int (5 : Int32)] C h cv_X12_392 (qX12_draw hc) rfl ⟨rfl, rfl⟩ ⟨Nat.le_of_ble_eq_true rfl, Nat.le_of_ble_eq_true rfl⟩ (m_recv C h) hl.1 rfl (Nat.le_of_ble_eq_true rfl) ⟨Nat.le_refl _, Nat.le_refl _⟩ dX12_session_41 (fun H locs h => ?_)
      clear hc
      refine lv_istore (lv' := [(5, .int x8), (0, .ref (ad 48)), (2, .int y2), (3, .int y3), (4, .int y4)]) hx hb dX12_session_44 hl (by decide) rfl (fun ls hl => ?_)
      refine lv_iload hx hb dX12_session_46 (lv_at hl 0 rfl) ?_
      refine lv_if_ne (tgt := 55) hx hb dX12_session_48 (by decide) (fun hq => ?_) (fun hq => ?_)
      · replace hf := if_tn hq hf
        clear hq
        refine lv_aload_n hx hb dX12_session_55 rfl (lv_at hl 1 rfl) ?_
        refine lv_iload hx hb dX12_session_56 (lv_at hl 0 rfl) ?_
        refine lv_aload_n hx hb dX12_session_58 rfl (lv_at hl 1 rfl) ?_
        refine lv_bipush (v := (6 : Int32)) hx hb dX12_session_59 (by decide) ?_
        replace hf := bndc_some hf
        obtain ⟨x10, g11, hc, hf⟩ := hf
        refine m_callVi [.int (6 : Int32)] C h cv_X12_392 (qX12_draw hc) rfl ⟨rfl, rfl⟩ ⟨Nat.le_of_ble_eq_true rfl, Nat.le_of_ble_eq_true rfl⟩ (m_recv C h) hl.1 rfl (Nat.le_of_ble_eq_true rfl) ⟨Nat.le_refl _, Nat.le_refl _⟩ dX12_session_61 (fun H locs h => ?_)
        clear hc
        replace hf := bndc_some hf
        obtain ⟨x12, g13, hc, hf⟩ := hf
        refine m_callVi [.int x8, .int x10] C h cv_X12_395 (qX12_drawn hc) rfl ⟨rfl, rfl⟩ ⟨Nat.le_of_ble_eq_true rfl, Nat.le_of_ble_eq_true rfl⟩ (m_recv C h) hl.1 rfl (Nat.le_of_ble_eq_true rfl) ⟨Nat.le_refl _, Nat.le_refl _⟩ dX12_session_64 (fun H locs h => ?_)
        clear hc
        exact wX12_session_67 C ih g13 y2 y3 y4 x12 hf H locs ls h (lv_sub hl [1, 2, 3, 4] rfl)
      · replace hf := if_t hq hf
        clear hq
        refine lv_iconst (v := (-1 : Int32)) hx hb dX12_session_51 (by decide) ?_
        refine lv_goto (tgt := 67) hx hb dX12_session_52 (by decide) ?_
        exact wX12_session_67 C ih g9 y2 y3 y4 (-1 : Int32) hf H locs ls h (lv_sub hl [1, 2, 3, 4] rfl)

set_option maxHeartbeats 4000000 in
set_option maxRecDepth 100000 in
theorem qX12_session {l : Launch} {D : va_G} {cs : Nat → ClassId} {ad : Nat → Nat} {r : Int32} {g' : MS} {g : MS}  {a0 : Int32} {a1 : Int32} (hf : fX12_session g a0 a1 = some (r, g')) : GCon l D cs yX12_session cX12_session 7 (some .int) (rM 8) 0 0 [.ref (ad 48), .int a0, .int a1] (MW cs ad g) (some (.int r)) (MW cs ad g') := by
  refine GCon.of (by decide) (Nat.le_of_ble_eq_true rfl) ?_
  intro p e s m args below meth c A ls H locs C h hl
  have hx := C.1
  have hb := C.2.1
  have C : MCx p s m args meth c A RX12 cX12_session 7 (some .int) D cs := C
  have hl : lv_has ls 7 [(0, .ref (ad 48)), (1, .int a0), (2, .int a1)] := hl
  unfold fX12_session at hf
  refine lv_aload_n hx hb dX12_session_0 rfl (lv_at hl 0 rfl) ?_
  refine lv_iconst (v := (0 : Int32)) hx hb dX12_session_1 (by decide) ?_
  replace hf := bnd_ex hf
  obtain ⟨g14, eg14, hf⟩ := hf
  refine mp_4 C h dX12_session_2 (fun H locs h => ?_)
  rw [← eg14] at h
  clear eg14
  refine lv_iload_n hx hb dX12_session_5 rfl (lv_at hl 2 rfl) ?_
  refine lv_i2l hx hb dX12_session_6 rfl ?_
  refine lv_lconst (v := (1 : Int64)) hx hb dX12_session_7 rfl ?_
  refine lv_ldc2 hx hb C.2.2.2.1 (C.2.2.2.2.1 _ tb_42_17) dX12_session_8 ?_
  replace hf := bndv_some hf
  obtain ⟨x15, hc, hf⟩ := hf
  refine m_callSi [.long a1.toInt64, .long (1 : Int64), .long (30 : Int64)] C h cs_X12_147 (qX12_within hc) rfl ⟨rfl, rfl⟩ ⟨Nat.le_of_ble_eq_true rfl, Nat.le_of_ble_eq_true rfl⟩ hl.1 rfl (Nat.le_of_ble_eq_true rfl) ⟨Nat.le_refl _, Nat.le_refl _⟩ dX12_session_11 (fun H locs h => ?_)
  clear hc
  refine lv_if_ne (tgt := 23) hx hb dX12_session_14 (by decide) (fun hq => ?_) (fun hq => ?_)
  · replace hf := if_tn hq hf
    clear hq
    refine lv_aload_n hx hb dX12_session_23 rfl (lv_at hl 0 rfl) ?_
    refine lv_iload_n hx hb dX12_session_24 rfl (lv_at hl 1 rfl) ?_
    replace hf := bnd_ex hf
    obtain ⟨g16, eg16, hf⟩ := hf
    refine mp_25 C h dX12_session_25 (fun H locs h => ?_)
    rw [← eg16] at h
    clear eg16
    refine lv_iconst (v := (0 : Int32)) hx hb dX12_session_28 (by decide) ?_
    refine lv_istore_n (lv' := [(3, .int (0 : Int32)), (0, .ref (ad 48)), (1, .int a0), (2, .int a1)]) hx hb dX12_session_29 rfl hl (by decide) rfl (fun ls hl => ?_)
    refine lv_iconst (v := (0 : Int32)) hx hb dX12_session_30 (by decide) ?_
    refine lv_istore (lv' := [(4, .int (0 : Int32)), (3, .int (0 : Int32)), (0, .ref (ad 48)), (1, .int a0), (2, .int a1)]) hx hb dX12_session_31 hl (by decide) rfl (fun ls hl => ?_)
    exact wX12_session_33 C fuel g16 a1 (0 : Int32) (0 : Int32) hf H locs ls h (lv_sub hl [2, 4, 1, 0] rfl)
  · replace hf := if_t hq hf
    clear hq
    refine lv_aload_n hx hb dX12_session_17 rfl (lv_at hl 0 rfl) ?_
    refine lv_iconst (v := (1 : Int32)) hx hb dX12_session_18 (by decide) ?_
    replace hf := bndc_some hf
    obtain ⟨x17, g18, hc, hf⟩ := hf
    refine m_callVi [.int (1 : Int32)] C h cv_X12_239 (qX12_fails hc) rfl ⟨rfl, rfl⟩ ⟨Nat.le_of_ble_eq_true rfl, Nat.le_of_ble_eq_true rfl⟩ (m_recv C h) hl.1 rfl (Nat.le_of_ble_eq_true rfl) ⟨Nat.le_refl _, Nat.le_refl _⟩ dX12_session_19 (fun H locs h => ?_)
    clear hc
    obtain ⟨e1, e2⟩ := pr_inj hf
    subst e1 e2
    exact m_iret C h dX12_session_22

set_option maxHeartbeats 4000000 in
set_option maxRecDepth 100000 in
theorem wX12_laysAlong_2 (C : MCx p s m args meth c A RX12 cX12_laysAlong 2 none D cs)  {g' : MS}  : ∀ (n : Nat) (g : MS) (y1 : Int32), fX12_laysAlong_2 n g y1 = some g' → ∀ (H : Heap) (locs : List Loc) (ls : Array Slot), MH D (MW cs ad g) A s H locs → lv_has ls 2 [(0, .ref (ad 48)), (1, .int y1)] → W p l e (rM 6) s m args below meth c H locs 0 0 (MQ below (GPost D none (MW cs ad g') A) args s 0 0 A) (F0 m 2 ls []) := by
  have hx := C.1
  have hb := C.2.1
  intro n
  induction n with
  | zero =>
    intro g y1 hf
    exact absurd hf (by simp [fX12_laysAlong_2])
  | succ n ih =>
    intro g y1 hf H locs ls h hl
    rw [fX12_laysAlong_2] at hf
    refine lv_iload_n hx hb dX12_laysAlong_2 rfl (lv_at hl 1 rfl) ?_
    refine lv_aload_n hx hb dX12_laysAlong_3 rfl (lv_at hl 0 rfl) ?_
    replace hf := bndc_some hf
    obtain ⟨x1, g2, hc, hf⟩ := hf
    refine m_callVi [] C h cv_X12_254 (qX12_size hc) rfl ⟨rfl, rfl⟩ ⟨Nat.le_of_ble_eq_true rfl, Nat.le_of_ble_eq_true rfl⟩ (m_recv C h) hl.1 rfl (Nat.le_of_ble_eq_true rfl) ⟨Nat.le_refl _, Nat.le_refl _⟩ dX12_laysAlong_4 (fun H locs h => ?_)
    clear hc
    refine lv_icmp_ge (tgt := 38) hx hb dX12_laysAlong_7 (by decide) (fun hq => ?_) (fun hq => ?_)
    · replace hf := if_t hq hf
      clear hq
      have e1 := Option.some.inj hf
      subst e1
      exact m_vret C h dX12_laysAlong_38
    · replace hf := if_f hq hf
      clear hq
      refine lv_aload_n hx hb dX12_laysAlong_10 rfl (lv_at hl 0 rfl) ?_
      refine mg_27 C h dX12_laysAlong_11 ?_
      refine lv_iload_n hx hb dX12_laysAlong_14 rfl (lv_at hl 1 rfl) ?_
      refine lv_aload_n hx hb dX12_laysAlong_15 rfl (lv_at hl 0 rfl) ?_
      refine lv_iload_n hx hb dX12_laysAlong_16 rfl (lv_at hl 1 rfl) ?_
      replace hf := bndc_some hf
      obtain ⟨x3, g4, hc, hf⟩ := hf
      refine m_callVi [.int y1] C h cv_X12_331 (qX12_draggedBy hc) rfl ⟨rfl, rfl⟩ ⟨Nat.le_of_ble_eq_true rfl, Nat.le_of_ble_eq_true rfl⟩ (m_recv C h) hl.1 rfl (Nat.le_of_ble_eq_true rfl) ⟨Nat.le_refl _, Nat.le_refl _⟩ dX12_laysAlong_17 (fun H locs h => ?_)
      clear hc
      replace hf := chk_some hf
      obtain ⟨hq, hf⟩ := hf
      replace hf := bnd_ex hf
      obtain ⟨g5, eg5, hf⟩ := hf
      refine ms_27 C h hq dX12_laysAlong_20 (fun H locs h => ?_)
      rw [← eg5] at h
      clear hq eg5
      refine lv_aload_n hx hb dX12_laysAlong_21 rfl (lv_at hl 0 rfl) ?_
      refine mg_28 C h dX12_laysAlong_22 ?_
      refine lv_iload_n hx hb dX12_laysAlong_25 rfl (lv_at hl 1 rfl) ?_
      refine lv_aload_n hx hb dX12_laysAlong_26 rfl (lv_at hl 0 rfl) ?_
      refine lv_iload_n hx hb dX12_laysAlong_27 rfl (lv_at hl 1 rfl) ?_
      replace hf := bndc_some hf
      obtain ⟨x6, g7, hc, hf⟩ := hf
      refine m_callVi [.int y1] C h cv_X12_325 (qX12_notchCosts hc) rfl ⟨rfl, rfl⟩ ⟨Nat.le_of_ble_eq_true rfl, Nat.le_of_ble_eq_true rfl⟩ (m_recv C h) hl.1 rfl (Nat.le_of_ble_eq_true rfl) ⟨Nat.le_refl _, Nat.le_refl _⟩ dX12_laysAlong_28 (fun H locs h => ?_)
      clear hc
      replace hf := chk_some hf
      obtain ⟨hq, hf⟩ := hf
      replace hf := bnd_ex hf
      obtain ⟨g8, eg8, hf⟩ := hf
      refine ms_28 C h hq dX12_laysAlong_31 (fun H locs h => ?_)
      rw [← eg8] at h
      clear hq eg8
      obtain ⟨x9, ex9⟩ : ∃ z : Int32, z = y1 + (1 : Int32) := ⟨_, rfl⟩
      replace hf := bnd_at ex9 hf
      refine lv_iinc (v := x9) (lv' := [(1, .int x9), (0, .ref (ad 48))]) hx hb dX12_laysAlong_32 hl (k := 1) rfl (by rw [ex9]; rfl) (by decide) rfl (fun ls hl => ?_)
      clear ex9
      refine lv_goto (tgt := 2) hx hb dX12_laysAlong_35 (by decide) ?_
      exact ih g8 x9 hf H locs ls h (lv_sub hl [1, 0] rfl)

set_option maxHeartbeats 4000000 in
set_option maxRecDepth 100000 in
theorem qX12_laysAlong {l : Launch} {D : va_G} {cs : Nat → ClassId} {ad : Nat → Nat} {g' : MS} {g : MS}  (hf : fX12_laysAlong g = some g') : GCon l D cs yX12_laysAlong cX12_laysAlong 2 none (rM 6) 0 0 [.ref (ad 48)] (MW cs ad g) none (MW cs ad g') := by
  refine GCon.of (by decide) (Nat.le_of_ble_eq_true rfl) ?_
  intro p e s m args below meth c A ls H locs C h hl
  have hx := C.1
  have hb := C.2.1
  have C : MCx p s m args meth c A RX12 cX12_laysAlong 2 none D cs := C
  have hl : lv_has ls 2 [(0, .ref (ad 48))] := hl
  unfold fX12_laysAlong at hf
  refine lv_iconst (v := (0 : Int32)) hx hb dX12_laysAlong_0 (by decide) ?_
  refine lv_istore_n (lv' := [(1, .int (0 : Int32)), (0, .ref (ad 48))]) hx hb dX12_laysAlong_1 rfl hl (by decide) rfl (fun ls hl => ?_)
  exact wX12_laysAlong_2 C fuel g (0 : Int32) hf H locs ls h (lv_sub hl [1, 0] rfl)

set_option maxHeartbeats 4000000 in
set_option maxRecDepth 100000 in
theorem wX12_aimsBehind_16 (C : MCx p s m args meth c A RX12 cX12_aimsBehind 3 none D cs)  {g' : MS}  {k6 : MS → Int32 → Option (MS)} (hk6 : ∀ (g : MS) (y1 : Int32), k6 g y1 = some g' → ∀ (H : Heap) (locs : List Loc) (ls : Array Slot), MH D (MW cs ad g) A s H locs → lv_has ls 3 [(0, .ref (ad 48)), (1, .int y1)] → W p l e (rM 2) s m args below meth c H locs 0 0 (MQ below (GPost D none (MW cs ad g') A) args s 0 0 A) (F0 m 6 ls [])) : ∀ (n : Nat) (g : MS) (y1 : Int32) (y2 : Int32), fX12_aimsBehind_16 k6 n g y1 y2 = some g' → ∀ (H : Heap) (locs : List Loc) (ls : Array Slot), MH D (MW cs ad g) A s H locs → lv_has ls 3 [(0, .ref (ad 48)), (1, .int y1), (2, .int y2)] → W p l e (rM 2) s m args below meth c H locs 0 0 (MQ below (GPost D none (MW cs ad g') A) args s 0 0 A) (F0 m 16 ls []) := by
  have hx := C.1
  have hb := C.2.1
  intro n
  induction n with
  | zero =>
    intro g y1 y2 hf
    exact absurd hf (by simp [fX12_aimsBehind_16])
  | succ n ih =>
    intro g y1 y2 hf H locs ls h hl
    rw [fX12_aimsBehind_16] at hf
    refine lv_iload_n hx hb dX12_aimsBehind_16 rfl (lv_at hl 2 rfl) ?_
    refine lv_aload_n hx hb dX12_aimsBehind_17 rfl (lv_at hl 0 rfl) ?_
    replace hf := bndc_some hf
    obtain ⟨x1, g2, hc, hf⟩ := hf
    refine m_callVi [] C h cv_X12_254 (qX12_size hc) rfl ⟨rfl, rfl⟩ ⟨Nat.le_of_ble_eq_true rfl, Nat.le_of_ble_eq_true rfl⟩ (m_recv C h) hl.1 rfl (Nat.le_of_ble_eq_true rfl) ⟨Nat.le_refl _, Nat.le_refl _⟩ dX12_aimsBehind_18 (fun H locs h => ?_)
    clear hc
    refine lv_icmp_ge (tgt := 67) hx hb dX12_aimsBehind_21 (by decide) (fun hq => ?_) (fun hq => ?_)
    · replace hf := if_t hq hf
      clear hq
      obtain ⟨x3, ex3⟩ : ∃ z : Int32, z = y1 + (1 : Int32) := ⟨_, rfl⟩
      replace hf := bnd_at ex3 hf
      refine lv_iinc (v := x3) (lv' := [(1, .int x3), (0, .ref (ad 48)), (2, .int y2)]) hx hb dX12_aimsBehind_67 hl (k := 1) rfl (by rw [ex3]; rfl) (by decide) rfl (fun ls hl => ?_)
      clear ex3
      refine lv_goto (tgt := 6) hx hb dX12_aimsBehind_70 (by decide) ?_
      exact hk6 g2 x3 hf H locs ls h (lv_sub hl [1, 0] rfl)
    · replace hf := if_f hq hf
      clear hq
      refine lv_aload_n hx hb dX12_aimsBehind_24 rfl (lv_at hl 0 rfl) ?_
      refine mg_27 C h dX12_aimsBehind_25 ?_
      refine lv_iload_n hx hb dX12_aimsBehind_28 rfl (lv_at hl 1 rfl) ?_
      replace hf := chk_some hf
      obtain ⟨hq, hf⟩ := hf
      refine ml_27 C h hq dX12_aimsBehind_29 ?_
      clear hq
      refine lv_iload_n hx hb dX12_aimsBehind_30 rfl (lv_at hl 2 rfl) ?_
      replace hf := bndv_some hf
      obtain ⟨x4, hc, hf⟩ := hf
      refine m_callSi [.int (g2.2.1 27 (ix y1)), .int y2] C h cs_X12_257 (qX12_has hc) rfl ⟨rfl, rfl⟩ ⟨Nat.le_of_ble_eq_true rfl, Nat.le_of_ble_eq_true rfl⟩ hl.1 rfl (Nat.le_of_ble_eq_true rfl) ⟨Nat.le_refl _, Nat.le_refl _⟩ dX12_aimsBehind_31 (fun H locs h => ?_)
      clear hc
      refine lv_if_eq (tgt := 61) hx hb dX12_aimsBehind_34 (by decide) (fun hq => ?_) (fun hq => ?_)
      · replace hf := if_t hq hf
        clear hq
        obtain ⟨x5, ex5⟩ : ∃ z : Int32, z = y2 + (1 : Int32) := ⟨_, rfl⟩
        replace hf := bnd_at ex5 hf
        refine lv_iinc (v := x5) (lv' := [(2, .int x5), (0, .ref (ad 48)), (1, .int y1)]) hx hb dX12_aimsBehind_61 hl (k := 2) rfl (by rw [ex5]; rfl) (by decide) rfl (fun ls hl => ?_)
        clear ex5
        refine lv_goto (tgt := 16) hx hb dX12_aimsBehind_64 (by decide) ?_
        exact ih g2 y1 x5 hf H locs ls h (lv_sub hl [1, 2, 0] rfl)
      · replace hf := if_f hq hf
        clear hq
        refine lv_aload_n hx hb dX12_aimsBehind_37 rfl (lv_at hl 0 rfl) ?_
        refine mg_21 C h dX12_aimsBehind_38 ?_
        refine lv_iload_n hx hb dX12_aimsBehind_41 rfl (lv_at hl 2 rfl) ?_
        refine lv_aload_n hx hb dX12_aimsBehind_42 rfl (lv_at hl 0 rfl) ?_
        refine mg_21 C h dX12_aimsBehind_43 ?_
        refine lv_iload_n hx hb dX12_aimsBehind_46 rfl (lv_at hl 2 rfl) ?_
        replace hf := chk_some hf
        obtain ⟨hq, hf⟩ := hf
        refine ml_21 C h hq dX12_aimsBehind_47 ?_
        clear hq
        refine lv_aload_n hx hb dX12_aimsBehind_48 rfl (lv_at hl 0 rfl) ?_
        refine mg_26 C h dX12_aimsBehind_49 ?_
        refine lv_iload_n hx hb dX12_aimsBehind_52 rfl (lv_at hl 1 rfl) ?_
        replace hf := chk_some hf
        obtain ⟨hq, hf⟩ := hf
        refine ml_26 C h hq dX12_aimsBehind_53 ?_
        clear hq
        refine lv_iadd hx hb dX12_aimsBehind_54 ?_
        refine lv_aload_n hx hb dX12_aimsBehind_55 rfl (lv_at hl 0 rfl) ?_
        replace hf := bndc_some hf
        obtain ⟨x6, g7, hc, hf⟩ := hf
        refine m_callVi [] C h cv_X12_254 (qX12_size hc) rfl ⟨rfl, rfl⟩ ⟨Nat.le_of_ble_eq_true rfl, Nat.le_of_ble_eq_true rfl⟩ (m_recv C h) hl.1 rfl (Nat.le_of_ble_eq_true rfl) ⟨Nat.le_refl _, Nat.le_refl _⟩ dX12_aimsBehind_56 (fun H locs h => ?_)
        clear hc
        replace hf := chk_some hf
        obtain ⟨hq, hf⟩ := hf
        refine x_irem hx hb dX12_aimsBehind_59 (nz_ne hq) ?_
        clear hq
        replace hf := chk_some hf
        obtain ⟨hq, hf⟩ := hf
        replace hf := bnd_ex hf
        obtain ⟨g8, eg8, hf⟩ := hf
        refine ms_21 C h hq dX12_aimsBehind_60 (fun H locs h => ?_)
        rw [← eg8] at h
        clear hq eg8
        obtain ⟨x9, ex9⟩ : ∃ z : Int32, z = y2 + (1 : Int32) := ⟨_, rfl⟩
        replace hf := bnd_at ex9 hf
        refine lv_iinc (v := x9) (lv' := [(2, .int x9), (0, .ref (ad 48)), (1, .int y1)]) hx hb dX12_aimsBehind_61 hl (k := 2) rfl (by rw [ex9]; rfl) (by decide) rfl (fun ls hl => ?_)
        clear ex9
        refine lv_goto (tgt := 16) hx hb dX12_aimsBehind_64 (by decide) ?_
        exact ih g8 y1 x9 hf H locs ls h (lv_sub hl [1, 2, 0] rfl)

set_option maxHeartbeats 4000000 in
set_option maxRecDepth 100000 in
theorem wX12_aimsBehind_6 (C : MCx p s m args meth c A RX12 cX12_aimsBehind 3 none D cs)  {g' : MS}  : ∀ (n : Nat) (g : MS) (y1 : Int32), fX12_aimsBehind_6 n g y1 = some g' → ∀ (H : Heap) (locs : List Loc) (ls : Array Slot), MH D (MW cs ad g) A s H locs → lv_has ls 3 [(0, .ref (ad 48)), (1, .int y1)] → W p l e (rM 2) s m args below meth c H locs 0 0 (MQ below (GPost D none (MW cs ad g') A) args s 0 0 A) (F0 m 6 ls []) := by
  have hx := C.1
  have hb := C.2.1
  intro n
  induction n with
  | zero =>
    intro g y1 hf
    exact absurd hf (by simp [fX12_aimsBehind_6])
  | succ n ih =>
    intro g y1 hf H locs ls h hl
    rw [fX12_aimsBehind_6] at hf
    refine lv_iload_n hx hb dX12_aimsBehind_6 rfl (lv_at hl 1 rfl) ?_
    refine lv_aload_n hx hb dX12_aimsBehind_7 rfl (lv_at hl 0 rfl) ?_
    replace hf := bndc_some hf
    obtain ⟨x10, g11, hc, hf⟩ := hf
    refine m_callVi [] C h cv_X12_254 (qX12_size hc) rfl ⟨rfl, rfl⟩ ⟨Nat.le_of_ble_eq_true rfl, Nat.le_of_ble_eq_true rfl⟩ (m_recv C h) hl.1 rfl (Nat.le_of_ble_eq_true rfl) ⟨Nat.le_refl _, Nat.le_refl _⟩ dX12_aimsBehind_8 (fun H locs h => ?_)
    clear hc
    refine lv_icmp_ge (tgt := 73) hx hb dX12_aimsBehind_11 (by decide) (fun hq => ?_) (fun hq => ?_)
    · replace hf := if_t hq hf
      clear hq
      have e1 := Option.some.inj hf
      subst e1
      exact m_vret C h dX12_aimsBehind_73
    · replace hf := if_f hq hf
      clear hq
      refine lv_iconst (v := (0 : Int32)) hx hb dX12_aimsBehind_14 (by decide) ?_
      refine lv_istore_n (lv' := [(2, .int (0 : Int32)), (0, .ref (ad 48)), (1, .int y1)]) hx hb dX12_aimsBehind_15 rfl hl (by decide) rfl (fun ls hl => ?_)
      exact wX12_aimsBehind_16 C ih fuel g11 y1 (0 : Int32) hf H locs ls h (lv_sub hl [1, 2, 0] rfl)

set_option maxHeartbeats 4000000 in
set_option maxRecDepth 100000 in
theorem qX12_aimsBehind {l : Launch} {D : va_G} {cs : Nat → ClassId} {ad : Nat → Nat} {g' : MS} {g : MS}  (hf : fX12_aimsBehind g = some g') : GCon l D cs yX12_aimsBehind cX12_aimsBehind 3 none (rM 2) 0 0 [.ref (ad 48)] (MW cs ad g) none (MW cs ad g') := by
  refine GCon.of (by decide) (Nat.le_of_ble_eq_true rfl) ?_
  intro p e s m args below meth c A ls H locs C h hl
  have hx := C.1
  have hb := C.2.1
  have C : MCx p s m args meth c A RX12 cX12_aimsBehind 3 none D cs := C
  have hl : lv_has ls 3 [(0, .ref (ad 48))] := hl
  unfold fX12_aimsBehind at hf
  refine lv_aload_n hx hb dX12_aimsBehind_0 rfl (lv_at hl 0 rfl) ?_
  replace hf := bndv_some hf
  obtain ⟨g12, hc, hf⟩ := hf
  refine m_callVv [] C h cv_X12_310 (qX12_aimsNow hc) rfl ⟨rfl, rfl⟩ ⟨Nat.le_of_ble_eq_true rfl, Nat.le_of_ble_eq_true rfl⟩ (m_recv C h) hl.1 rfl (Nat.le_of_ble_eq_true rfl) ⟨Nat.le_refl _, Nat.le_refl _⟩ dX12_aimsBehind_1 (fun H locs h => ?_)
  clear hc
  refine lv_iconst (v := (0 : Int32)) hx hb dX12_aimsBehind_4 (by decide) ?_
  refine lv_istore_n (lv' := [(1, .int (0 : Int32)), (0, .ref (ad 48))]) hx hb dX12_aimsBehind_5 rfl hl (by decide) rfl (fun ls hl => ?_)
  exact wX12_aimsBehind_6 C fuel g12 (0 : Int32) hf H locs ls h (lv_sub hl [1, 0] rfl)

set_option maxHeartbeats 4000000 in
set_option maxRecDepth 100000 in
theorem wX12_costOf_4 (C : MCx p s m args meth c A RX12 cX12_costOf 3 (some .int) D cs)  {r : Int32} {g' : MS}  : ∀ (n : Nat) (g : MS) (y1 : Int32) (y2 : Int32), fX12_costOf_4 n g y1 y2 = some (r, g') → ∀ (H : Heap) (locs : List Loc) (ls : Array Slot), MH D (MW cs ad g) A s H locs → lv_has ls 3 [(0, .ref (ad 48)), (1, .int y1), (2, .int y2)] → W p l e (rM 1) s m args below meth c H locs 0 0 (MQ below (GPost D (some (.int r)) (MW cs ad g') A) args s 0 0 A) (F0 m 4 ls []) := by
  have hx := C.1
  have hb := C.2.1
  intro n
  induction n with
  | zero =>
    intro g y1 y2 hf
    exact absurd hf (by simp [fX12_costOf_4])
  | succ n ih =>
    intro g y1 y2 hf H locs ls h hl
    rw [fX12_costOf_4] at hf
    refine lv_iload_n hx hb dX12_costOf_4 rfl (lv_at hl 2 rfl) ?_
    refine lv_aload_n hx hb dX12_costOf_5 rfl (lv_at hl 0 rfl) ?_
    replace hf := bndc_some hf
    obtain ⟨x1, g2, hc, hf⟩ := hf
    refine m_callVi [] C h cv_X12_254 (qX12_size hc) rfl ⟨rfl, rfl⟩ ⟨Nat.le_of_ble_eq_true rfl, Nat.le_of_ble_eq_true rfl⟩ (m_recv C h) hl.1 rfl (Nat.le_of_ble_eq_true rfl) ⟨Nat.le_refl _, Nat.le_refl _⟩ dX12_costOf_6 (fun H locs h => ?_)
    clear hc
    refine lv_icmp_ge (tgt := 34) hx hb dX12_costOf_9 (by decide) (fun hq => ?_) (fun hq => ?_)
    · replace hf := if_t hq hf
      clear hq
      refine lv_iload_n hx hb dX12_costOf_34 rfl (lv_at hl 1 rfl) ?_
      obtain ⟨e1, e2⟩ := pr_inj hf
      subst e1 e2
      exact m_iret C h dX12_costOf_35
    · replace hf := if_f hq hf
      clear hq
      refine lv_iload_n hx hb dX12_costOf_12 rfl (lv_at hl 1 rfl) ?_
      refine lv_aload_n hx hb dX12_costOf_13 rfl (lv_at hl 0 rfl) ?_
      refine mg_28 C h dX12_costOf_14 ?_
      refine lv_iload_n hx hb dX12_costOf_17 rfl (lv_at hl 2 rfl) ?_
      replace hf := chk_some hf
      obtain ⟨hq, hf⟩ := hf
      refine ml_28 C h hq dX12_costOf_18 ?_
      clear hq
      refine lv_aload_n hx hb dX12_costOf_19 rfl (lv_at hl 0 rfl) ?_
      refine mg_26 C h dX12_costOf_20 ?_
      refine lv_iload_n hx hb dX12_costOf_23 rfl (lv_at hl 2 rfl) ?_
      replace hf := chk_some hf
      obtain ⟨hq, hf⟩ := hf
      refine ml_26 C h hq dX12_costOf_24 ?_
      clear hq
      refine lv_imul hx hb dX12_costOf_25 ?_
      refine lv_iadd hx hb dX12_costOf_26 ?_
      refine lv_topi (fun x3 ex3 => ?_)
      replace hf := bnd_at ex3 hf
      clear ex3
      refine lv_istore_n (lv' := [(1, .int x3), (0, .ref (ad 48)), (2, .int y2)]) hx hb dX12_costOf_27 rfl hl (by decide) rfl (fun ls hl => ?_)
      obtain ⟨x4, ex4⟩ : ∃ z : Int32, z = y2 + (1 : Int32) := ⟨_, rfl⟩
      replace hf := bnd_at ex4 hf
      refine lv_iinc (v := x4) (lv' := [(2, .int x4), (1, .int x3), (0, .ref (ad 48))]) hx hb dX12_costOf_28 hl (k := 2) rfl (by rw [ex4]; rfl) (by decide) rfl (fun ls hl => ?_)
      clear ex4
      refine lv_goto (tgt := 4) hx hb dX12_costOf_31 (by decide) ?_
      exact ih g2 x3 x4 hf H locs ls h (lv_sub hl [2, 1, 0] rfl)

set_option maxHeartbeats 4000000 in
set_option maxRecDepth 100000 in
theorem qX12_costOf {l : Launch} {D : va_G} {cs : Nat → ClassId} {ad : Nat → Nat} {r : Int32} {g' : MS} {g : MS}  (hf : fX12_costOf g = some (r, g')) : GCon l D cs yX12_costOf cX12_costOf 3 (some .int) (rM 1) 0 0 [.ref (ad 48)] (MW cs ad g) (some (.int r)) (MW cs ad g') := by
  refine GCon.of (by decide) (Nat.le_of_ble_eq_true rfl) ?_
  intro p e s m args below meth c A ls H locs C h hl
  have hx := C.1
  have hb := C.2.1
  have C : MCx p s m args meth c A RX12 cX12_costOf 3 (some .int) D cs := C
  have hl : lv_has ls 3 [(0, .ref (ad 48))] := hl
  unfold fX12_costOf at hf
  refine lv_iconst (v := (0 : Int32)) hx hb dX12_costOf_0 (by decide) ?_
  refine lv_istore_n (lv' := [(1, .int (0 : Int32)), (0, .ref (ad 48))]) hx hb dX12_costOf_1 rfl hl (by decide) rfl (fun ls hl => ?_)
  refine lv_iconst (v := (0 : Int32)) hx hb dX12_costOf_2 (by decide) ?_
  refine lv_istore_n (lv' := [(2, .int (0 : Int32)), (1, .int (0 : Int32)), (0, .ref (ad 48))]) hx hb dX12_costOf_3 rfl hl (by decide) rfl (fun ls hl => ?_)
  exact wX12_costOf_4 C fuel g (0 : Int32) (0 : Int32) hf H locs ls h (lv_sub hl [2, 1, 0] rfl)

set_option maxHeartbeats 4000000 in
set_option maxRecDepth 100000 in
theorem wX12_lookCode_4 (C : MCx p s m args meth c A RX12 cX12_lookCode 3 (some .int) D cs)  {r : Int32} {g' : MS}  : ∀ (n : Nat) (g : MS) (y1 : Int32) (y2 : Int32), fX12_lookCode_4 n g y1 y2 = some (r, g') → ∀ (H : Heap) (locs : List Loc) (ls : Array Slot), MH D (MW cs ad g) A s H locs → lv_has ls 3 [(0, .ref (ad 48)), (1, .int y1), (2, .int y2)] → W p l e (rM 1) s m args below meth c H locs 0 0 (MQ below (GPost D (some (.int r)) (MW cs ad g') A) args s 0 0 A) (F0 m 4 ls []) := by
  have hx := C.1
  have hb := C.2.1
  intro n
  induction n with
  | zero =>
    intro g y1 y2 hf
    exact absurd hf (by simp [fX12_lookCode_4])
  | succ n ih =>
    intro g y1 y2 hf H locs ls h hl
    rw [fX12_lookCode_4] at hf
    refine lv_iload_n hx hb dX12_lookCode_4 rfl (lv_at hl 2 rfl) ?_
    refine lv_aload_n hx hb dX12_lookCode_5 rfl (lv_at hl 0 rfl) ?_
    replace hf := bndc_some hf
    obtain ⟨x1, g2, hc, hf⟩ := hf
    refine m_callVi [] C h cv_X12_254 (qX12_size hc) rfl ⟨rfl, rfl⟩ ⟨Nat.le_of_ble_eq_true rfl, Nat.le_of_ble_eq_true rfl⟩ (m_recv C h) hl.1 rfl (Nat.le_of_ble_eq_true rfl) ⟨Nat.le_refl _, Nat.le_refl _⟩ dX12_lookCode_6 (fun H locs h => ?_)
    clear hc
    refine lv_icmp_ge (tgt := 30) hx hb dX12_lookCode_9 (by decide) (fun hq => ?_) (fun hq => ?_)
    · replace hf := if_t hq hf
      clear hq
      refine lv_iload_n hx hb dX12_lookCode_30 rfl (lv_at hl 1 rfl) ?_
      obtain ⟨e1, e2⟩ := pr_inj hf
      subst e1 e2
      exact m_iret C h dX12_lookCode_31
    · replace hf := if_f hq hf
      clear hq
      refine lv_bipush (v := (6 : Int32)) hx hb dX12_lookCode_12 (by decide) ?_
      refine lv_iload_n hx hb dX12_lookCode_14 rfl (lv_at hl 1 rfl) ?_
      refine lv_imul hx hb dX12_lookCode_15 ?_
      refine lv_aload_n hx hb dX12_lookCode_16 rfl (lv_at hl 0 rfl) ?_
      refine mg_21 C h dX12_lookCode_17 ?_
      refine lv_iload_n hx hb dX12_lookCode_20 rfl (lv_at hl 2 rfl) ?_
      replace hf := chk_some hf
      obtain ⟨hq, hf⟩ := hf
      refine ml_21 C h hq dX12_lookCode_21 ?_
      clear hq
      refine lv_iadd hx hb dX12_lookCode_22 ?_
      refine lv_topi (fun x3 ex3 => ?_)
      replace hf := bnd_at ex3 hf
      clear ex3
      refine lv_istore_n (lv' := [(1, .int x3), (0, .ref (ad 48)), (2, .int y2)]) hx hb dX12_lookCode_23 rfl hl (by decide) rfl (fun ls hl => ?_)
      obtain ⟨x4, ex4⟩ : ∃ z : Int32, z = y2 + (1 : Int32) := ⟨_, rfl⟩
      replace hf := bnd_at ex4 hf
      refine lv_iinc (v := x4) (lv' := [(2, .int x4), (1, .int x3), (0, .ref (ad 48))]) hx hb dX12_lookCode_24 hl (k := 2) rfl (by rw [ex4]; rfl) (by decide) rfl (fun ls hl => ?_)
      clear ex4
      refine lv_goto (tgt := 4) hx hb dX12_lookCode_27 (by decide) ?_
      exact ih g2 x3 x4 hf H locs ls h (lv_sub hl [2, 1, 0] rfl)

set_option maxHeartbeats 4000000 in
set_option maxRecDepth 100000 in
theorem qX12_lookCode {l : Launch} {D : va_G} {cs : Nat → ClassId} {ad : Nat → Nat} {r : Int32} {g' : MS} {g : MS}  (hf : fX12_lookCode g = some (r, g')) : GCon l D cs yX12_lookCode cX12_lookCode 3 (some .int) (rM 1) 0 0 [.ref (ad 48)] (MW cs ad g) (some (.int r)) (MW cs ad g') := by
  refine GCon.of (by decide) (Nat.le_of_ble_eq_true rfl) ?_
  intro p e s m args below meth c A ls H locs C h hl
  have hx := C.1
  have hb := C.2.1
  have C : MCx p s m args meth c A RX12 cX12_lookCode 3 (some .int) D cs := C
  have hl : lv_has ls 3 [(0, .ref (ad 48))] := hl
  unfold fX12_lookCode at hf
  refine lv_iconst (v := (0 : Int32)) hx hb dX12_lookCode_0 (by decide) ?_
  refine lv_istore_n (lv' := [(1, .int (0 : Int32)), (0, .ref (ad 48))]) hx hb dX12_lookCode_1 rfl hl (by decide) rfl (fun ls hl => ?_)
  refine lv_iconst (v := (0 : Int32)) hx hb dX12_lookCode_2 (by decide) ?_
  refine lv_istore_n (lv' := [(2, .int (0 : Int32)), (1, .int (0 : Int32)), (0, .ref (ad 48))]) hx hb dX12_lookCode_3 rfl hl (by decide) rfl (fun ls hl => ?_)
  exact wX12_lookCode_4 C fuel g (0 : Int32) (0 : Int32) hf H locs ls h (lv_sub hl [2, 1, 0] rfl)

set_option maxHeartbeats 4000000 in
set_option maxRecDepth 100000 in
theorem wX12_keepsRow_10 (C : MCx p s m args meth c A RX12 cX12_keepsRow 2 none D cs)  {g' : MS}  : ∀ (n : Nat) (g : MS) (y1 : Int32), fX12_keepsRow_10 n g y1 = some g' → ∀ (H : Heap) (locs : List Loc) (ls : Array Slot), MH D (MW cs ad g) A s H locs → lv_has ls 2 [(0, .ref (ad 48)), (1, .int y1)] → W p l e (rM 2) s m args below meth c H locs 0 0 (MQ below (GPost D none (MW cs ad g') A) args s 0 0 A) (F0 m 10 ls []) := by
  have hx := C.1
  have hb := C.2.1
  intro n
  induction n with
  | zero =>
    intro g y1 hf
    exact absurd hf (by simp [fX12_keepsRow_10])
  | succ n ih =>
    intro g y1 hf H locs ls h hl
    rw [fX12_keepsRow_10] at hf
    refine lv_iload_n hx hb dX12_keepsRow_10 rfl (lv_at hl 1 rfl) ?_
    refine lv_bipush (v := (6 : Int32)) hx hb dX12_keepsRow_11 (by decide) ?_
    refine lv_icmp_ge (tgt := 46) hx hb dX12_keepsRow_13 (by decide) (fun hq => ?_) (fun hq => ?_)
    · replace hf := if_t hq hf
      clear hq
      have e1 := Option.some.inj hf
      subst e1
      exact m_vret C h dX12_keepsRow_46
    · replace hf := if_f hq hf
      clear hq
      refine lv_aload_n hx hb dX12_keepsRow_16 rfl (lv_at hl 0 rfl) ?_
      refine mg_29 C h dX12_keepsRow_17 ?_
      refine lv_iload_n hx hb dX12_keepsRow_20 rfl (lv_at hl 1 rfl) ?_
      refine lv_iload_n hx hb dX12_keepsRow_21 rfl (lv_at hl 1 rfl) ?_
      refine lv_aload_n hx hb dX12_keepsRow_22 rfl (lv_at hl 0 rfl) ?_
      replace hf := bndc_some hf
      obtain ⟨x1, g2, hc, hf⟩ := hf
      refine m_callVi [] C h cv_X12_254 (qX12_size hc) rfl ⟨rfl, rfl⟩ ⟨Nat.le_of_ble_eq_true rfl, Nat.le_of_ble_eq_true rfl⟩ (m_recv C h) hl.1 rfl (Nat.le_of_ble_eq_true rfl) ⟨Nat.le_refl _, Nat.le_refl _⟩ dX12_keepsRow_23 (fun H locs h => ?_)
      clear hc
      refine lv_icmp_ge (tgt := 38) hx hb dX12_keepsRow_26 (by decide) (fun hq => ?_) (fun hq => ?_)
      · replace hf := if_t hq hf
        clear hq
        refine lv_iconst (v := (-1 : Int32)) hx hb dX12_keepsRow_38 (by decide) ?_
        replace hf := chk_some hf
        obtain ⟨hq, hf⟩ := hf
        replace hf := bnd_ex hf
        obtain ⟨g3, eg3, hf⟩ := hf
        refine ms_29 C h hq dX12_keepsRow_39 (fun H locs h => ?_)
        rw [← eg3] at h
        clear hq eg3
        obtain ⟨x4, ex4⟩ : ∃ z : Int32, z = y1 + (1 : Int32) := ⟨_, rfl⟩
        replace hf := bnd_at ex4 hf
        refine lv_iinc (v := x4) (lv' := [(1, .int x4), (0, .ref (ad 48))]) hx hb dX12_keepsRow_40 hl (k := 1) rfl (by rw [ex4]; rfl) (by decide) rfl (fun ls hl => ?_)
        clear ex4
        refine lv_goto (tgt := 10) hx hb dX12_keepsRow_43 (by decide) ?_
        exact ih g3 x4 hf H locs ls h (lv_sub hl [1, 0] rfl)
      · replace hf := if_f hq hf
        clear hq
        refine lv_aload_n hx hb dX12_keepsRow_29 rfl (lv_at hl 0 rfl) ?_
        refine mg_26 C h dX12_keepsRow_30 ?_
        refine lv_iload_n hx hb dX12_keepsRow_33 rfl (lv_at hl 1 rfl) ?_
        replace hf := chk_some hf
        obtain ⟨hq, hf⟩ := hf
        refine ml_26 C h hq dX12_keepsRow_34 ?_
        clear hq
        refine lv_goto (tgt := 39) hx hb dX12_keepsRow_35 (by decide) ?_
        replace hf := chk_some hf
        obtain ⟨hq, hf⟩ := hf
        replace hf := bnd_ex hf
        obtain ⟨g5, eg5, hf⟩ := hf
        refine ms_29 C h hq dX12_keepsRow_39 (fun H locs h => ?_)
        rw [← eg5] at h
        clear hq eg5
        obtain ⟨x6, ex6⟩ : ∃ z : Int32, z = y1 + (1 : Int32) := ⟨_, rfl⟩
        replace hf := bnd_at ex6 hf
        refine lv_iinc (v := x6) (lv' := [(1, .int x6), (0, .ref (ad 48))]) hx hb dX12_keepsRow_40 hl (k := 1) rfl (by rw [ex6]; rfl) (by decide) rfl (fun ls hl => ?_)
        clear ex6
        refine lv_goto (tgt := 10) hx hb dX12_keepsRow_43 (by decide) ?_
        exact ih g5 x6 hf H locs ls h (lv_sub hl [1, 0] rfl)

set_option maxHeartbeats 4000000 in
set_option maxRecDepth 100000 in
theorem qX12_keepsRow {l : Launch} {D : va_G} {cs : Nat → ClassId} {ad : Nat → Nat} {g' : MS} {g : MS}  (hf : fX12_keepsRow g = some g') : GCon l D cs yX12_keepsRow cX12_keepsRow 2 none (rM 2) 0 0 [.ref (ad 48)] (MW cs ad g) none (MW cs ad g') := by
  refine GCon.of (by decide) (Nat.le_of_ble_eq_true rfl) ?_
  intro p e s m args below meth c A ls H locs C h hl
  have hx := C.1
  have hb := C.2.1
  have C : MCx p s m args meth c A RX12 cX12_keepsRow 2 none D cs := C
  have hl : lv_has ls 2 [(0, .ref (ad 48))] := hl
  unfold fX12_keepsRow at hf
  refine lv_aload_n hx hb dX12_keepsRow_0 rfl (lv_at hl 0 rfl) ?_
  refine lv_aload_n hx hb dX12_keepsRow_1 rfl (lv_at hl 0 rfl) ?_
  replace hf := bndc_some hf
  obtain ⟨x7, g8, hc, hf⟩ := hf
  refine m_callVi [] C h cv_X12_398 (qX12_costOf hc) rfl ⟨rfl, rfl⟩ ⟨Nat.le_of_ble_eq_true rfl, Nat.le_of_ble_eq_true rfl⟩ (m_recv C h) hl.1 rfl (Nat.le_of_ble_eq_true rfl) ⟨Nat.le_refl _, Nat.le_refl _⟩ dX12_keepsRow_2 (fun H locs h => ?_)
  clear hc
  replace hf := bnd_ex hf
  obtain ⟨g9, eg9, hf⟩ := hf
  refine mp_36 C h dX12_keepsRow_5 (fun H locs h => ?_)
  rw [← eg9] at h
  clear eg9
  refine lv_iconst (v := (0 : Int32)) hx hb dX12_keepsRow_8 (by decide) ?_
  refine lv_istore_n (lv' := [(1, .int (0 : Int32)), (0, .ref (ad 48))]) hx hb dX12_keepsRow_9 rfl hl (by decide) rfl (fun ls hl => ?_)
  exact wX12_keepsRow_10 C fuel g9 (0 : Int32) hf H locs ls h (lv_sub hl [1, 0] rfl)

set_option maxHeartbeats 4000000 in
set_option maxRecDepth 100000 in
theorem wX12_isAsNow_2 (C : MCx p s m args meth c A RX12 cX12_isAsNow 2 (some .boolean) D cs)  {r : Int32} {g' : MS}  : ∀ (n : Nat) (g : MS) (y1 : Int32), fX12_isAsNow_2 n g y1 = some (r, g') → ∀ (H : Heap) (locs : List Loc) (ls : Array Slot), MH D (MW cs ad g) A s H locs → lv_has ls 2 [(0, .ref (ad 48)), (1, .int y1)] → W p l e (rM 1) s m args below meth c H locs 0 0 (MQ below (GPost D (some (.int r)) (MW cs ad g') A) args s 0 0 A) (F0 m 2 ls []) := by
  have hx := C.1
  have hb := C.2.1
  intro n
  induction n with
  | zero =>
    intro g y1 hf
    exact absurd hf (by simp [fX12_isAsNow_2])
  | succ n ih =>
    intro g y1 hf H locs ls h hl
    rw [fX12_isAsNow_2] at hf
    refine lv_iload_n hx hb dX12_isAsNow_2 rfl (lv_at hl 1 rfl) ?_
    refine lv_aload_n hx hb dX12_isAsNow_3 rfl (lv_at hl 0 rfl) ?_
    replace hf := bndc_some hf
    obtain ⟨x1, g2, hc, hf⟩ := hf
    refine m_callVi [] C h cv_X12_254 (qX12_size hc) rfl ⟨rfl, rfl⟩ ⟨Nat.le_of_ble_eq_true rfl, Nat.le_of_ble_eq_true rfl⟩ (m_recv C h) hl.1 rfl (Nat.le_of_ble_eq_true rfl) ⟨Nat.le_refl _, Nat.le_refl _⟩ dX12_isAsNow_4 (fun H locs h => ?_)
    clear hc
    refine lv_icmp_ge (tgt := 36) hx hb dX12_isAsNow_7 (by decide) (fun hq => ?_) (fun hq => ?_)
    · replace hf := if_t hq hf
      clear hq
      refine lv_iconst (v := (1 : Int32)) hx hb dX12_isAsNow_36 (by decide) ?_
      obtain ⟨e1, e2⟩ := pr_inj hf
      subst e1 e2
      exact m_zret C h rfl dX12_isAsNow_37
    · replace hf := if_f hq hf
      clear hq
      refine lv_aload_n hx hb dX12_isAsNow_10 rfl (lv_at hl 0 rfl) ?_
      refine mg_21 C h dX12_isAsNow_11 ?_
      refine lv_iload_n hx hb dX12_isAsNow_14 rfl (lv_at hl 1 rfl) ?_
      replace hf := chk_some hf
      obtain ⟨hq, hf⟩ := hf
      refine ml_21 C h hq dX12_isAsNow_15 ?_
      clear hq
      refine lv_aload_n hx hb dX12_isAsNow_16 rfl (lv_at hl 0 rfl) ?_
      refine mg_0 C h dX12_isAsNow_17 ?_
      refine lv_bipush (v := (6 : Int32)) hx hb dX12_isAsNow_20 (by decide) ?_
      refine lv_iload_n hx hb dX12_isAsNow_22 rfl (lv_at hl 1 rfl) ?_
      refine lv_iadd hx hb dX12_isAsNow_23 ?_
      replace hf := chk_some hf
      obtain ⟨hq, hf⟩ := hf
      refine ml_0 C h hq dX12_isAsNow_24 ?_
      clear hq
      refine lv_icmp_eq (tgt := 30) hx hb dX12_isAsNow_25 (by decide) (fun hq => ?_) (fun hq => ?_)
      · replace hf := if_t hq hf
        clear hq
        obtain ⟨x3, ex3⟩ : ∃ z : Int32, z = y1 + (1 : Int32) := ⟨_, rfl⟩
        replace hf := bnd_at ex3 hf
        refine lv_iinc (v := x3) (lv' := [(1, .int x3), (0, .ref (ad 48))]) hx hb dX12_isAsNow_30 hl (k := 1) rfl (by rw [ex3]; rfl) (by decide) rfl (fun ls hl => ?_)
        clear ex3
        refine lv_goto (tgt := 2) hx hb dX12_isAsNow_33 (by decide) ?_
        exact ih g2 x3 hf H locs ls h (lv_sub hl [1, 0] rfl)
      · replace hf := if_f hq hf
        clear hq
        refine lv_iconst (v := (0 : Int32)) hx hb dX12_isAsNow_28 (by decide) ?_
        obtain ⟨e1, e2⟩ := pr_inj hf
        subst e1 e2
        exact m_zret C h rfl dX12_isAsNow_29

set_option maxHeartbeats 4000000 in
set_option maxRecDepth 100000 in
theorem qX12_isAsNow {l : Launch} {D : va_G} {cs : Nat → ClassId} {ad : Nat → Nat} {r : Int32} {g' : MS} {g : MS}  (hf : fX12_isAsNow g = some (r, g')) : GCon l D cs yX12_isAsNow cX12_isAsNow 2 (some .boolean) (rM 1) 0 0 [.ref (ad 48)] (MW cs ad g) (some (.int r)) (MW cs ad g') := by
  refine GCon.of (by decide) (Nat.le_of_ble_eq_true rfl) ?_
  intro p e s m args below meth c A ls H locs C h hl
  have hx := C.1
  have hb := C.2.1
  have C : MCx p s m args meth c A RX12 cX12_isAsNow 2 (some .boolean) D cs := C
  have hl : lv_has ls 2 [(0, .ref (ad 48))] := hl
  unfold fX12_isAsNow at hf
  refine lv_iconst (v := (0 : Int32)) hx hb dX12_isAsNow_0 (by decide) ?_
  refine lv_istore_n (lv' := [(1, .int (0 : Int32)), (0, .ref (ad 48))]) hx hb dX12_isAsNow_1 rfl hl (by decide) rfl (fun ls hl => ?_)
  exact wX12_isAsNow_2 C fuel g (0 : Int32) hf H locs ls h (lv_sub hl [1, 0] rfl)

set_option maxHeartbeats 4000000 in
set_option maxRecDepth 100000 in
theorem wX12_looksSo_2 (C : MCx p s m args meth c A RX12 cX12_looksSo 3 (some .boolean) D cs)  {r : Int32} {g' : MS}  : ∀ (n : Nat) (g : MS) (y1 : Int32) (y2 : Int32), fX12_looksSo_2 n g y1 y2 = some (r, g') → ∀ (H : Heap) (locs : List Loc) (ls : Array Slot), MH D (MW cs ad g) A s H locs → lv_has ls 3 [(0, .ref (ad 48)), (1, .int y1), (2, .int y2)] → W p l e (rM 1) s m args below meth c H locs 0 0 (MQ below (GPost D (some (.int r)) (MW cs ad g') A) args s 0 0 A) (F0 m 2 ls []) := by
  have hx := C.1
  have hb := C.2.1
  intro n
  induction n with
  | zero =>
    intro g y1 y2 hf
    exact absurd hf (by simp [fX12_looksSo_2])
  | succ n ih =>
    intro g y1 y2 hf H locs ls h hl
    rw [fX12_looksSo_2] at hf
    refine lv_iload_n hx hb dX12_looksSo_2 rfl (lv_at hl 2 rfl) ?_
    refine lv_aload_n hx hb dX12_looksSo_3 rfl (lv_at hl 0 rfl) ?_
    replace hf := bndc_some hf
    obtain ⟨x1, g2, hc, hf⟩ := hf
    refine m_callVi [] C h cv_X12_254 (qX12_size hc) rfl ⟨rfl, rfl⟩ ⟨Nat.le_of_ble_eq_true rfl, Nat.le_of_ble_eq_true rfl⟩ (m_recv C h) hl.1 rfl (Nat.le_of_ble_eq_true rfl) ⟨Nat.le_refl _, Nat.le_refl _⟩ dX12_looksSo_4 (fun H locs h => ?_)
    clear hc
    refine lv_icmp_ge (tgt := 58) hx hb dX12_looksSo_7 (by decide) (fun hq => ?_) (fun hq => ?_)
    · replace hf := if_t hq hf
      clear hq
      refine lv_iconst (v := (1 : Int32)) hx hb dX12_looksSo_58 (by decide) ?_
      obtain ⟨e1, e2⟩ := pr_inj hf
      subst e1 e2
      exact m_zret C h rfl dX12_looksSo_59
    · replace hf := if_f hq hf
      clear hq
      refine lv_aload_n hx hb dX12_looksSo_10 rfl (lv_at hl 0 rfl) ?_
      refine mg_47 C h dX12_looksSo_11 ?_
      refine lv_bipush (v := (30 : Int32)) hx hb dX12_looksSo_14 (by decide) ?_
      refine lv_iload_n hx hb dX12_looksSo_16 rfl (lv_at hl 1 rfl) ?_
      refine lv_imul hx hb dX12_looksSo_17 ?_
      refine lv_iload_n hx hb dX12_looksSo_18 rfl (lv_at hl 2 rfl) ?_
      refine lv_iadd hx hb dX12_looksSo_19 ?_
      replace hf := chk_some hf
      obtain ⟨hq, hf⟩ := hf
      refine ml_47 C h hq dX12_looksSo_20 ?_
      clear hq
      refine lv_ldc2 hx hb C.2.2.2.1 (C.2.2.2.2.1 _ tb_40_21) dX12_looksSo_21 ?_
      refine W.lcmp hx hb dX12_looksSo_24 ?_
      refine lv_if_eq (tgt := 52) hx hb dX12_looksSo_25 (by decide) (fun hq => ?_) (fun hq => ?_)
      · replace hf := if_t hq hf
        clear hq
        obtain ⟨x3, ex3⟩ : ∃ z : Int32, z = y2 + (1 : Int32) := ⟨_, rfl⟩
        replace hf := bnd_at ex3 hf
        refine lv_iinc (v := x3) (lv' := [(2, .int x3), (0, .ref (ad 48)), (1, .int y1)]) hx hb dX12_looksSo_52 hl (k := 2) rfl (by rw [ex3]; rfl) (by decide) rfl (fun ls hl => ?_)
        clear ex3
        refine lv_goto (tgt := 2) hx hb dX12_looksSo_55 (by decide) ?_
        exact ih g2 y1 x3 hf H locs ls h (lv_sub hl [1, 2, 0] rfl)
      · replace hf := if_f hq hf
        clear hq
        refine lv_aload_n hx hb dX12_looksSo_28 rfl (lv_at hl 0 rfl) ?_
        refine mg_47 C h dX12_looksSo_29 ?_
        refine lv_bipush (v := (30 : Int32)) hx hb dX12_looksSo_32 (by decide) ?_
        refine lv_iload_n hx hb dX12_looksSo_34 rfl (lv_at hl 1 rfl) ?_
        refine lv_imul hx hb dX12_looksSo_35 ?_
        refine lv_iload_n hx hb dX12_looksSo_36 rfl (lv_at hl 2 rfl) ?_
        refine lv_iadd hx hb dX12_looksSo_37 ?_
        replace hf := chk_some hf
        obtain ⟨hq, hf⟩ := hf
        refine ml_47 C h hq dX12_looksSo_38 ?_
        clear hq
        refine lv_aload_n hx hb dX12_looksSo_39 rfl (lv_at hl 0 rfl) ?_
        refine mg_21 C h dX12_looksSo_40 ?_
        refine lv_iload_n hx hb dX12_looksSo_43 rfl (lv_at hl 2 rfl) ?_
        replace hf := chk_some hf
        obtain ⟨hq, hf⟩ := hf
        refine ml_21 C h hq dX12_looksSo_44 ?_
        clear hq
        refine lv_i2l hx hb dX12_looksSo_45 rfl ?_
        refine W.lcmp hx hb dX12_looksSo_46 ?_
        refine lv_if_eq (tgt := 52) hx hb dX12_looksSo_47 (by decide) (fun hq => ?_) (fun hq => ?_)
        · replace hf := if_t hq hf
          clear hq
          obtain ⟨x4, ex4⟩ : ∃ z : Int32, z = y2 + (1 : Int32) := ⟨_, rfl⟩
          replace hf := bnd_at ex4 hf
          refine lv_iinc (v := x4) (lv' := [(2, .int x4), (0, .ref (ad 48)), (1, .int y1)]) hx hb dX12_looksSo_52 hl (k := 2) rfl (by rw [ex4]; rfl) (by decide) rfl (fun ls hl => ?_)
          clear ex4
          refine lv_goto (tgt := 2) hx hb dX12_looksSo_55 (by decide) ?_
          exact ih g2 y1 x4 hf H locs ls h (lv_sub hl [1, 2, 0] rfl)
        · replace hf := if_f hq hf
          clear hq
          refine lv_iconst (v := (0 : Int32)) hx hb dX12_looksSo_50 (by decide) ?_
          obtain ⟨e1, e2⟩ := pr_inj hf
          subst e1 e2
          exact m_zret C h rfl dX12_looksSo_51

set_option maxHeartbeats 4000000 in
set_option maxRecDepth 100000 in
theorem qX12_looksSo {l : Launch} {D : va_G} {cs : Nat → ClassId} {ad : Nat → Nat} {r : Int32} {g' : MS} {g : MS}  {a0 : Int32} (hf : fX12_looksSo g a0 = some (r, g')) : GCon l D cs yX12_looksSo cX12_looksSo 3 (some .boolean) (rM 1) 0 0 [.ref (ad 48), .int a0] (MW cs ad g) (some (.int r)) (MW cs ad g') := by
  refine GCon.of (by decide) (Nat.le_of_ble_eq_true rfl) ?_
  intro p e s m args below meth c A ls H locs C h hl
  have hx := C.1
  have hb := C.2.1
  have C : MCx p s m args meth c A RX12 cX12_looksSo 3 (some .boolean) D cs := C
  have hl : lv_has ls 3 [(0, .ref (ad 48)), (1, .int a0)] := hl
  unfold fX12_looksSo at hf
  refine lv_iconst (v := (0 : Int32)) hx hb dX12_looksSo_0 (by decide) ?_
  refine lv_istore_n (lv' := [(2, .int (0 : Int32)), (0, .ref (ad 48)), (1, .int a0)]) hx hb dX12_looksSo_1 rfl hl (by decide) rfl (fun ls hl => ?_)
  exact wX12_looksSo_2 C fuel g a0 (0 : Int32) hf H locs ls h (lv_sub hl [1, 2, 0] rfl)

set_option maxHeartbeats 4000000 in
set_option maxRecDepth 100000 in
theorem wX12_seesHelp_29 (C : MCx p s m args meth c A RX12 cX12_seesHelp 3 none D cs)  {g' : MS}  {k4 : MS → Int32 → Int32 → Option (MS)} (hk4 : ∀ (g : MS) (y1 : Int32) (y2 : Int32), k4 g y1 y2 = some g' → ∀ (H : Heap) (locs : List Loc) (ls : Array Slot), MH D (MW cs ad g) A s H locs → lv_has ls 3 [(0, .ref (ad 48)), (1, .int y1), (2, .int y2)] → W p l e (rM 1) s m args below meth c H locs 0 0 (MQ below (GPost D none (MW cs ad g') A) args s 0 0 A) (F0 m 4 ls [])) : ∀ (g : MS) (y2 : Int32) (t0 : Int32) (t1 : Int32), fX12_seesHelp_29 k4 g y2 t0 t1 = some g' → ∀ (H : Heap) (locs : List Loc) (ls : Array Slot), MH D (MW cs ad g) A s H locs → lv_has ls 3 [(0, .ref (ad 48)), (2, .int y2)] → W p l e (rM 1) s m args below meth c H locs 0 0 (MQ below (GPost D none (MW cs ad g') A) args s 0 0 A) (F0 m 29 ls [.int t1, .int t0]) := by
  have hx := C.1
  have hb := C.2.1
  intro g y2 t0 t1 hf H locs ls h hl
  unfold fX12_seesHelp_29 at hf
  refine lv_ior hx hb dX12_seesHelp_29 ?_
  refine lv_topi (fun x1 ex1 => ?_)
  replace hf := bnd_at ex1 hf
  clear ex1
  refine lv_istore_n (lv' := [(1, .int x1), (0, .ref (ad 48)), (2, .int y2)]) hx hb dX12_seesHelp_30 rfl hl (by decide) rfl (fun ls hl => ?_)
  obtain ⟨x2, ex2⟩ : ∃ z : Int32, z = y2 + (1 : Int32) := ⟨_, rfl⟩
  replace hf := bnd_at ex2 hf
  refine lv_iinc (v := x2) (lv' := [(2, .int x2), (1, .int x1), (0, .ref (ad 48))]) hx hb dX12_seesHelp_31 hl (k := 2) rfl (by rw [ex2]; rfl) (by decide) rfl (fun ls hl => ?_)
  clear ex2
  refine lv_goto (tgt := 4) hx hb dX12_seesHelp_34 (by decide) ?_
  exact hk4 g x1 x2 hf H locs ls h (lv_sub hl [2, 1, 0] rfl)

set_option maxHeartbeats 4000000 in
set_option maxRecDepth 100000 in
theorem wX12_seesHelp_4 (C : MCx p s m args meth c A RX12 cX12_seesHelp 3 none D cs)  {g' : MS}  : ∀ (n : Nat) (g : MS) (y1 : Int32) (y2 : Int32), fX12_seesHelp_4 n g y1 y2 = some g' → ∀ (H : Heap) (locs : List Loc) (ls : Array Slot), MH D (MW cs ad g) A s H locs → lv_has ls 3 [(0, .ref (ad 48)), (1, .int y1), (2, .int y2)] → W p l e (rM 1) s m args below meth c H locs 0 0 (MQ below (GPost D none (MW cs ad g') A) args s 0 0 A) (F0 m 4 ls []) := by
  have hx := C.1
  have hb := C.2.1
  intro n
  induction n with
  | zero =>
    intro g y1 y2 hf
    exact absurd hf (by simp [fX12_seesHelp_4])
  | succ n ih =>
    intro g y1 y2 hf H locs ls h hl
    rw [fX12_seesHelp_4] at hf
    refine lv_iload_n hx hb dX12_seesHelp_4 rfl (lv_at hl 2 rfl) ?_
    refine lv_aload_n hx hb dX12_seesHelp_5 rfl (lv_at hl 0 rfl) ?_
    replace hf := bndc_some hf
    obtain ⟨x3, g4, hc, hf⟩ := hf
    refine m_callVi [] C h cv_X12_254 (qX12_size hc) rfl ⟨rfl, rfl⟩ ⟨Nat.le_of_ble_eq_true rfl, Nat.le_of_ble_eq_true rfl⟩ (m_recv C h) hl.1 rfl (Nat.le_of_ble_eq_true rfl) ⟨Nat.le_refl _, Nat.le_refl _⟩ dX12_seesHelp_6 (fun H locs h => ?_)
    clear hc
    refine lv_icmp_ge (tgt := 37) hx hb dX12_seesHelp_9 (by decide) (fun hq => ?_) (fun hq => ?_)
    · replace hf := if_t hq hf
      clear hq
      refine lv_aload_n hx hb dX12_seesHelp_37 rfl (lv_at hl 0 rfl) ?_
      refine mg_38 C h dX12_seesHelp_38 ?_
      refine lv_iconst (v := (-1 : Int32)) hx hb dX12_seesHelp_41 (by decide) ?_
      refine lv_icmp_eq (tgt := 81) hx hb dX12_seesHelp_42 (by decide) (fun hq => ?_) (fun hq => ?_)
      · replace hf := if_t hq hf
        clear hq
        refine lv_aload_n hx hb dX12_seesHelp_81 rfl (lv_at hl 0 rfl) ?_
        refine lv_iload_n hx hb dX12_seesHelp_82 rfl (lv_at hl 1 rfl) ?_
        replace hf := bnd_ex hf
        obtain ⟨g5, eg5, hf⟩ := hf
        refine mp_38 C h dX12_seesHelp_83 (fun H locs h => ?_)
        rw [← eg5] at h
        clear eg5
        have e1 := Option.some.inj hf
        subst e1
        exact m_vret C h dX12_seesHelp_86
      · replace hf := if_f hq hf
        clear hq
        refine lv_iload_n hx hb dX12_seesHelp_45 rfl (lv_at hl 1 rfl) ?_
        replace hf := bndv_some hf
        obtain ⟨x6, hc, hf⟩ := hf
        refine m_callSi [.int y1] C h cs_X12_463 (qX12_bits hc) rfl ⟨rfl, rfl⟩ ⟨Nat.le_of_ble_eq_true rfl, Nat.le_of_ble_eq_true rfl⟩ hl.1 rfl (Nat.le_of_ble_eq_true rfl) ⟨Nat.le_refl _, Nat.le_refl _⟩ dX12_seesHelp_46 (fun H locs h => ?_)
        clear hc
        refine lv_aload_n hx hb dX12_seesHelp_49 rfl (lv_at hl 0 rfl) ?_
        refine mg_38 C h dX12_seesHelp_50 ?_
        replace hf := bndv_some hf
        obtain ⟨x7, hc, hf⟩ := hf
        refine m_callSi [.int (g4.1 38)] C h cs_X12_463 (qX12_bits hc) rfl ⟨rfl, rfl⟩ ⟨Nat.le_of_ble_eq_true rfl, Nat.le_of_ble_eq_true rfl⟩ hl.1 rfl (Nat.le_of_ble_eq_true rfl) ⟨Nat.le_refl _, Nat.le_refl _⟩ dX12_seesHelp_53 (fun H locs h => ?_)
        clear hc
        refine lv_icmp_lt (tgt := 81) hx hb dX12_seesHelp_56 (by decide) (fun hq => ?_) (fun hq => ?_)
        · replace hf := if_t hq hf
          clear hq
          refine lv_aload_n hx hb dX12_seesHelp_81 rfl (lv_at hl 0 rfl) ?_
          refine lv_iload_n hx hb dX12_seesHelp_82 rfl (lv_at hl 1 rfl) ?_
          replace hf := bnd_ex hf
          obtain ⟨g8, eg8, hf⟩ := hf
          refine mp_38 C h dX12_seesHelp_83 (fun H locs h => ?_)
          rw [← eg8] at h
          clear eg8
          have e1 := Option.some.inj hf
          subst e1
          exact m_vret C h dX12_seesHelp_86
        · replace hf := if_f hq hf
          clear hq
          refine lv_iload_n hx hb dX12_seesHelp_59 rfl (lv_at hl 1 rfl) ?_
          replace hf := bndv_some hf
          obtain ⟨x9, hc, hf⟩ := hf
          refine m_callSi [.int y1] C h cs_X12_463 (qX12_bits hc) rfl ⟨rfl, rfl⟩ ⟨Nat.le_of_ble_eq_true rfl, Nat.le_of_ble_eq_true rfl⟩ hl.1 rfl (Nat.le_of_ble_eq_true rfl) ⟨Nat.le_refl _, Nat.le_refl _⟩ dX12_seesHelp_60 (fun H locs h => ?_)
          clear hc
          refine lv_aload_n hx hb dX12_seesHelp_63 rfl (lv_at hl 0 rfl) ?_
          refine mg_38 C h dX12_seesHelp_64 ?_
          replace hf := bndv_some hf
          obtain ⟨x10, hc, hf⟩ := hf
          refine m_callSi [.int (g4.1 38)] C h cs_X12_463 (qX12_bits hc) rfl ⟨rfl, rfl⟩ ⟨Nat.le_of_ble_eq_true rfl, Nat.le_of_ble_eq_true rfl⟩ hl.1 rfl (Nat.le_of_ble_eq_true rfl) ⟨Nat.le_refl _, Nat.le_refl _⟩ dX12_seesHelp_67 (fun H locs h => ?_)
          clear hc
          refine lv_icmp_ne (tgt := 86) hx hb dX12_seesHelp_70 (by decide) (fun hq => ?_) (fun hq => ?_)
          · replace hf := if_tn hq hf
            clear hq
            have e1 := Option.some.inj hf
            subst e1
            exact m_vret C h dX12_seesHelp_86
          · replace hf := if_t hq hf
            clear hq
            refine lv_iload_n hx hb dX12_seesHelp_73 rfl (lv_at hl 1 rfl) ?_
            refine lv_aload_n hx hb dX12_seesHelp_74 rfl (lv_at hl 0 rfl) ?_
            refine mg_38 C h dX12_seesHelp_75 ?_
            refine lv_icmp_ge (tgt := 86) hx hb dX12_seesHelp_78 (by decide) (fun hq => ?_) (fun hq => ?_)
            · replace hf := if_t hq hf
              clear hq
              have e1 := Option.some.inj hf
              subst e1
              exact m_vret C h dX12_seesHelp_86
            · replace hf := if_f hq hf
              clear hq
              refine lv_aload_n hx hb dX12_seesHelp_81 rfl (lv_at hl 0 rfl) ?_
              refine lv_iload_n hx hb dX12_seesHelp_82 rfl (lv_at hl 1 rfl) ?_
              replace hf := bnd_ex hf
              obtain ⟨g11, eg11, hf⟩ := hf
              refine mp_38 C h dX12_seesHelp_83 (fun H locs h => ?_)
              rw [← eg11] at h
              clear eg11
              have e1 := Option.some.inj hf
              subst e1
              exact m_vret C h dX12_seesHelp_86
    · replace hf := if_f hq hf
      clear hq
      refine lv_iload_n hx hb dX12_seesHelp_12 rfl (lv_at hl 1 rfl) ?_
      refine lv_aload_n hx hb dX12_seesHelp_13 rfl (lv_at hl 0 rfl) ?_
      refine mg_26 C h dX12_seesHelp_14 ?_
      refine lv_iload_n hx hb dX12_seesHelp_17 rfl (lv_at hl 2 rfl) ?_
      replace hf := chk_some hf
      obtain ⟨hq, hf⟩ := hf
      refine ml_26 C h hq dX12_seesHelp_18 ?_
      clear hq
      refine lv_if_le (tgt := 28) hx hb dX12_seesHelp_19 (by decide) (fun hq => ?_) (fun hq => ?_)
      · replace hf := if_t hq hf
        clear hq
        refine lv_iconst (v := (0 : Int32)) hx hb dX12_seesHelp_28 (by decide) ?_
        exact wX12_seesHelp_29 C ih g4 y2 y1 (0 : Int32) hf H locs ls h (lv_sub hl [0, 2] rfl)
      · replace hf := if_f hq hf
        clear hq
        refine lv_iconst (v := (1 : Int32)) hx hb dX12_seesHelp_22 (by decide) ?_
        refine lv_iload_n hx hb dX12_seesHelp_23 rfl (lv_at hl 2 rfl) ?_
        refine x_ishl hx hb dX12_seesHelp_24 ?_
        refine lv_goto (tgt := 29) hx hb dX12_seesHelp_25 (by decide) ?_
        exact wX12_seesHelp_29 C ih g4 y2 y1 (jshl (1 : Int32) y2) hf H locs ls h (lv_sub hl [0, 2] rfl)

set_option maxHeartbeats 4000000 in
set_option maxRecDepth 100000 in
theorem qX12_seesHelp {l : Launch} {D : va_G} {cs : Nat → ClassId} {ad : Nat → Nat} {g' : MS} {g : MS}  (hf : fX12_seesHelp g = some g') : GCon l D cs yX12_seesHelp cX12_seesHelp 3 none (rM 1) 0 0 [.ref (ad 48)] (MW cs ad g) none (MW cs ad g') := by
  refine GCon.of (by decide) (Nat.le_of_ble_eq_true rfl) ?_
  intro p e s m args below meth c A ls H locs C h hl
  have hx := C.1
  have hb := C.2.1
  have C : MCx p s m args meth c A RX12 cX12_seesHelp 3 none D cs := C
  have hl : lv_has ls 3 [(0, .ref (ad 48))] := hl
  unfold fX12_seesHelp at hf
  refine lv_iconst (v := (0 : Int32)) hx hb dX12_seesHelp_0 (by decide) ?_
  refine lv_istore_n (lv' := [(1, .int (0 : Int32)), (0, .ref (ad 48))]) hx hb dX12_seesHelp_1 rfl hl (by decide) rfl (fun ls hl => ?_)
  refine lv_iconst (v := (0 : Int32)) hx hb dX12_seesHelp_2 (by decide) ?_
  refine lv_istore_n (lv' := [(2, .int (0 : Int32)), (1, .int (0 : Int32)), (0, .ref (ad 48))]) hx hb dX12_seesHelp_3 rfl hl (by decide) rfl (fun ls hl => ?_)
  exact wX12_seesHelp_4 C fuel g (0 : Int32) (0 : Int32) hf H locs ls h (lv_sub hl [2, 1, 0] rfl)

set_option maxHeartbeats 4000000 in
set_option maxRecDepth 100000 in
theorem wX12_seesKnees_33 (C : MCx p s m args meth c A RX12 cX12_seesKnees 2 none D cs)  {g' : MS}  : ∀ (g : MS) (y1 : Int32), fX12_seesKnees_33 g y1 = some g' → ∀ (H : Heap) (locs : List Loc) (ls : Array Slot), MH D (MW cs ad g) A s H locs → lv_has ls 2 [(0, .ref (ad 48)), (1, .int y1)] → W p l e (rM 3) s m args below meth c H locs 0 0 (MQ below (GPost D none (MW cs ad g') A) args s 0 0 A) (F0 m 33 ls []) := by
  have hx := C.1
  have hb := C.2.1
  intro g y1 hf H locs ls h hl
  unfold fX12_seesKnees_33 at hf
  refine lv_aload_n hx hb dX12_seesKnees_33 rfl (lv_at hl 0 rfl) ?_
  refine lv_iload_n hx hb dX12_seesKnees_34 rfl (lv_at hl 1 rfl) ?_
  replace hf := bnd_ex hf
  obtain ⟨g1, eg1, hf⟩ := hf
  refine mp_37 C h dX12_seesKnees_35 (fun H locs h => ?_)
  rw [← eg1] at h
  clear eg1
  refine lv_aload_n hx hb dX12_seesKnees_38 rfl (lv_at hl 0 rfl) ?_
  replace hf := bndv_some hf
  obtain ⟨g2, hc, hf⟩ := hf
  refine m_callVv [] C h cv_X12_454 (qX12_keepsRow hc) rfl ⟨rfl, rfl⟩ ⟨Nat.le_of_ble_eq_true rfl, Nat.le_of_ble_eq_true rfl⟩ (m_recv C h) hl.1 rfl (Nat.le_of_ble_eq_true rfl) ⟨Nat.le_refl _, Nat.le_refl _⟩ dX12_seesKnees_39 (fun H locs h => ?_)
  clear hc
  have e1 := Option.some.inj hf
  subst e1
  exact m_vret C h dX12_seesKnees_42

set_option maxHeartbeats 4000000 in
set_option maxRecDepth 100000 in
theorem qX12_seesKnees {l : Launch} {D : va_G} {cs : Nat → ClassId} {ad : Nat → Nat} {g' : MS} {g : MS}  (hf : fX12_seesKnees g = some g') : GCon l D cs yX12_seesKnees cX12_seesKnees 2 none (rM 3) 0 0 [.ref (ad 48)] (MW cs ad g) none (MW cs ad g') := by
  refine GCon.of (by decide) (Nat.le_of_ble_eq_true rfl) ?_
  intro p e s m args below meth c A ls H locs C h hl
  have hx := C.1
  have hb := C.2.1
  have C : MCx p s m args meth c A RX12 cX12_seesKnees 2 none D cs := C
  have hl : lv_has ls 2 [(0, .ref (ad 48))] := hl
  unfold fX12_seesKnees at hf
  refine lv_aload_n hx hb dX12_seesKnees_0 rfl (lv_at hl 0 rfl) ?_
  replace hf := bndc_some hf
  obtain ⟨x3, g4, hc, hf⟩ := hf
  refine m_callVi [] C h cv_X12_457 (qX12_kneesBy hc) rfl ⟨rfl, rfl⟩ ⟨Nat.le_of_ble_eq_true rfl, Nat.le_of_ble_eq_true rfl⟩ (m_recv C h) hl.1 rfl (Nat.le_of_ble_eq_true rfl) ⟨Nat.le_refl _, Nat.le_refl _⟩ dX12_seesKnees_1 (fun H locs h => ?_)
  clear hc
  refine lv_istore_n (lv' := [(1, .int x3), (0, .ref (ad 48))]) hx hb dX12_seesKnees_4 rfl hl (by decide) rfl (fun ls hl => ?_)
  refine lv_iload_n hx hb dX12_seesKnees_5 rfl (lv_at hl 0 rfl) ?_
  refine lv_aload_n hx hb dX12_seesKnees_6 rfl (lv_at hl 1 rfl) ?_
  refine mg_37 C h dX12_seesKnees_7 ?_
  refine lv_icmp_lt (tgt := 32) hx hb dX12_seesKnees_10 (by decide) (fun hq => ?_) (fun hq => ?_)
  · replace hf := if_t hq hf
    clear hq
    have e1 := Option.some.inj hf
    subst e1
    exact m_vret C h dX12_seesKnees_32
  · replace hf := if_f hq hf
    clear hq
    refine lv_iload_n hx hb dX12_seesKnees_13 rfl (lv_at hl 0 rfl) ?_
    refine lv_aload_n hx hb dX12_seesKnees_14 rfl (lv_at hl 1 rfl) ?_
    refine mg_37 C h dX12_seesKnees_15 ?_
    refine lv_icmp_ne (tgt := 33) hx hb dX12_seesKnees_18 (by decide) (fun hq => ?_) (fun hq => ?_)
    · replace hf := if_tn hq hf
      clear hq
      exact wX12_seesKnees_33 C g4 x3 hf H locs ls h (lv_sub hl [1, 0] rfl)
    · replace hf := if_t hq hf
      clear hq
      refine lv_aload_n hx hb dX12_seesKnees_21 rfl (lv_at hl 1 rfl) ?_
      replace hf := bndc_some hf
      obtain ⟨x5, g6, hc, hf⟩ := hf
      refine m_callVi [] C h cv_X12_398 (qX12_costOf hc) rfl ⟨rfl, rfl⟩ ⟨Nat.le_of_ble_eq_true rfl, Nat.le_of_ble_eq_true rfl⟩ (m_recv C h) hl.1 rfl (Nat.le_of_ble_eq_true rfl) ⟨Nat.le_refl _, Nat.le_refl _⟩ dX12_seesKnees_22 (fun H locs h => ?_)
      clear hc
      refine lv_aload_n hx hb dX12_seesKnees_25 rfl (lv_at hl 1 rfl) ?_
      refine mg_36 C h dX12_seesKnees_26 ?_
      refine lv_icmp_lt (tgt := 33) hx hb dX12_seesKnees_29 (by decide) (fun hq => ?_) (fun hq => ?_)
      · replace hf := if_t hq hf
        clear hq
        exact wX12_seesKnees_33 C g6 x3 hf H locs ls h (lv_sub hl [1, 0] rfl)
      · replace hf := if_f hq hf
        clear hq
        have e1 := Option.some.inj hf
        subst e1
        exact m_vret C h dX12_seesKnees_32

set_option maxHeartbeats 4000000 in
set_option maxRecDepth 100000 in
theorem qX12_seesLook {l : Launch} {D : va_G} {cs : Nat → ClassId} {ad : Nat → Nat} {g' : MS} {g : MS}  (hf : fX12_seesLook g = some g') : GCon l D cs yX12_seesLook cX12_seesLook 3 none (rM 4) 0 0 [.ref (ad 48)] (MW cs ad g) none (MW cs ad g') := by
  refine GCon.of (by decide) (Nat.le_of_ble_eq_true rfl) ?_
  intro p e s m args below meth c A ls H locs C h hl
  have hx := C.1
  have hb := C.2.1
  have C : MCx p s m args meth c A RX12 cX12_seesLook 3 none D cs := C
  have hl : lv_has ls 3 [(0, .ref (ad 48))] := hl
  unfold fX12_seesLook at hf
  refine lv_aload_n hx hb dX12_seesLook_0 rfl (lv_at hl 0 rfl) ?_
  replace hf := bndc_some hf
  obtain ⟨x1, g2, hc, hf⟩ := hf
  refine m_callVi [] C h cv_X12_460 (qX12_lookCode hc) rfl ⟨rfl, rfl⟩ ⟨Nat.le_of_ble_eq_true rfl, Nat.le_of_ble_eq_true rfl⟩ (m_recv C h) hl.1 rfl (Nat.le_of_ble_eq_true rfl) ⟨Nat.le_refl _, Nat.le_refl _⟩ dX12_seesLook_1 (fun H locs h => ?_)
  clear hc
  refine lv_istore_n (lv' := [(1, .int x1), (0, .ref (ad 48))]) hx hb dX12_seesLook_4 rfl hl (by decide) rfl (fun ls hl => ?_)
  refine lv_aload_n hx hb dX12_seesLook_5 rfl (lv_at hl 1 rfl) ?_
  refine mg_31 C h dX12_seesLook_6 ?_
  refine lv_iload_n hx hb dX12_seesLook_9 rfl (lv_at hl 0 rfl) ?_
  replace hf := chk_some hf
  obtain ⟨hq, hf⟩ := hf
  refine ml_31 C h hq dX12_seesLook_10 ?_
  clear hq
  refine lv_if_eq (tgt := 15) hx hb dX12_seesLook_11 (by decide) (fun hq => ?_) (fun hq => ?_)
  · replace hf := if_t hq hf
    clear hq
    refine lv_aload_n hx hb dX12_seesLook_15 rfl (lv_at hl 1 rfl) ?_
    refine mg_31 C h dX12_seesLook_16 ?_
    refine lv_iload_n hx hb dX12_seesLook_19 rfl (lv_at hl 0 rfl) ?_
    refine lv_iconst (v := (1 : Int32)) hx hb dX12_seesLook_20 (by decide) ?_
    replace hf := chk_some hf
    obtain ⟨hq, hf⟩ := hf
    replace hf := bnd_ex hf
    obtain ⟨g3, eg3, hf⟩ := hf
    refine ms_31 C h hq rfl dX12_seesLook_21 (fun H locs h => ?_)
    rw [← eg3] at h
    clear hq eg3
    refine lv_aload_n hx hb dX12_seesLook_22 rfl (lv_at hl 1 rfl) ?_
    refine lv_dup hx hb dX12_seesLook_23 rfl ?_
    refine mg_35 C h dX12_seesLook_24 ?_
    refine lv_iconst (v := (1 : Int32)) hx hb dX12_seesLook_27 (by decide) ?_
    refine lv_iadd hx hb dX12_seesLook_28 ?_
    replace hf := bnd_ex hf
    obtain ⟨g4, eg4, hf⟩ := hf
    refine mp_35 C h dX12_seesLook_29 (fun H locs h => ?_)
    rw [← eg4] at h
    clear eg4
    refine lv_aload_n hx hb dX12_seesLook_32 rfl (lv_at hl 1 rfl) ?_
    replace hf := bndc_some hf
    obtain ⟨x5, g6, hc, hf⟩ := hf
    refine m_callVi [] C h cv_X12_313 (qX12_chairBy hc) rfl ⟨rfl, rfl⟩ ⟨Nat.le_of_ble_eq_true rfl, Nat.le_of_ble_eq_true rfl⟩ (m_recv C h) hl.1 rfl (Nat.le_of_ble_eq_true rfl) ⟨Nat.le_refl _, Nat.le_refl _⟩ dX12_seesLook_33 (fun H locs h => ?_)
    clear hc
    refine lv_istore_n (lv' := [(2, .int x5), (1, .int x1), (0, .ref (ad 48))]) hx hb dX12_seesLook_36 rfl hl (by decide) rfl (fun ls hl => ?_)
    refine lv_iload_n hx hb dX12_seesLook_37 rfl (lv_at hl 0 rfl) ?_
    refine lv_iconst (v := (-1 : Int32)) hx hb dX12_seesLook_38 (by decide) ?_
    refine lv_icmp_eq (tgt := 52) hx hb dX12_seesLook_39 (by decide) (fun hq => ?_) (fun hq => ?_)
    · replace hf := if_t hq hf
      clear hq
      have e1 := Option.some.inj hf
      subst e1
      exact m_vret C h dX12_seesLook_52
    · replace hf := if_f hq hf
      clear hq
      refine lv_aload_n hx hb dX12_seesLook_42 rfl (lv_at hl 2 rfl) ?_
      refine mg_30 C h dX12_seesLook_43 ?_
      refine lv_iload_n hx hb dX12_seesLook_46 rfl (lv_at hl 0 rfl) ?_
      refine lv_dup2_11 hx hb dX12_seesLook_47 rfl rfl ?_
      replace hf := chk_some hf
      obtain ⟨hq, hf⟩ := hf
      refine ml_30 C h hq dX12_seesLook_48 ?_
      clear hq
      refine lv_iconst (v := (1 : Int32)) hx hb dX12_seesLook_49 (by decide) ?_
      refine lv_iadd hx hb dX12_seesLook_50 ?_
      replace hf := chk_some hf
      obtain ⟨hq, hf⟩ := hf
      replace hf := bnd_ex hf
      obtain ⟨g7, eg7, hf⟩ := hf
      refine ms_30 C h hq dX12_seesLook_51 (fun H locs h => ?_)
      rw [← eg7] at h
      clear hq eg7
      have e1 := Option.some.inj hf
      subst e1
      exact m_vret C h dX12_seesLook_52
  · replace hf := if_f hq hf
    clear hq
    have e1 := Option.some.inj hf
    subst e1
    exact m_vret C h dX12_seesLook_14

set_option maxHeartbeats 4000000 in
set_option maxRecDepth 100000 in
theorem qX12_seesOne {l : Launch} {D : va_G} {cs : Nat → ClassId} {ad : Nat → Nat} {g' : MS} {g : MS}  (hf : fX12_seesOne g = some g') : GCon l D cs yX12_seesOne cX12_seesOne 1 none (rM 3) 0 0 [.ref (ad 48)] (MW cs ad g) none (MW cs ad g') := by
  refine GCon.of (by decide) (Nat.le_of_ble_eq_true rfl) ?_
  intro p e s m args below meth c A ls H locs C h hl
  have hx := C.1
  have hb := C.2.1
  have C : MCx p s m args meth c A RX12 cX12_seesOne 1 none D cs := C
  have hl : lv_has ls 1 [(0, .ref (ad 48))] := hl
  unfold fX12_seesOne at hf
  refine lv_aload_n hx hb dX12_seesOne_0 rfl (lv_at hl 0 rfl) ?_
  refine lv_dup hx hb dX12_seesOne_1 rfl ?_
  refine mg_35 C h dX12_seesOne_2 ?_
  refine lv_iconst (v := (1 : Int32)) hx hb dX12_seesOne_5 (by decide) ?_
  refine lv_iadd hx hb dX12_seesOne_6 ?_
  replace hf := bnd_ex hf
  obtain ⟨g1, eg1, hf⟩ := hf
  refine mp_35 C h dX12_seesOne_7 (fun H locs h => ?_)
  rw [← eg1] at h
  clear eg1
  refine lv_aload_n hx hb dX12_seesOne_10 rfl (lv_at hl 0 rfl) ?_
  replace hf := bndc_some hf
  obtain ⟨x2, g3, hc, hf⟩ := hf
  refine m_callVi [] C h cv_X12_398 (qX12_costOf hc) rfl ⟨rfl, rfl⟩ ⟨Nat.le_of_ble_eq_true rfl, Nat.le_of_ble_eq_true rfl⟩ (m_recv C h) hl.1 rfl (Nat.le_of_ble_eq_true rfl) ⟨Nat.le_refl _, Nat.le_refl _⟩ dX12_seesOne_11 (fun H locs h => ?_)
  clear hc
  refine lv_aload_n hx hb dX12_seesOne_14 rfl (lv_at hl 0 rfl) ?_
  refine mg_36 C h dX12_seesOne_15 ?_
  refine lv_icmp_ge (tgt := 25) hx hb dX12_seesOne_18 (by decide) (fun hq => ?_) (fun hq => ?_)
  · replace hf := if_t hq hf
    clear hq
    have e1 := Option.some.inj hf
    subst e1
    exact m_vret C h dX12_seesOne_25
  · replace hf := if_f hq hf
    clear hq
    refine lv_aload_n hx hb dX12_seesOne_21 rfl (lv_at hl 0 rfl) ?_
    replace hf := bndv_some hf
    obtain ⟨g4, hc, hf⟩ := hf
    refine m_callVv [] C h cv_X12_454 (qX12_keepsRow hc) rfl ⟨rfl, rfl⟩ ⟨Nat.le_of_ble_eq_true rfl, Nat.le_of_ble_eq_true rfl⟩ (m_recv C h) hl.1 rfl (Nat.le_of_ble_eq_true rfl) ⟨Nat.le_refl _, Nat.le_refl _⟩ dX12_seesOne_22 (fun H locs h => ?_)
    clear hc
    have e1 := Option.some.inj hf
    subst e1
    exact m_vret C h dX12_seesOne_25

set_option maxHeartbeats 4000000 in
set_option maxRecDepth 100000 in
theorem wX12_sees_111 (C : MCx p s m args meth c A RX12 cX12_sees 1 none D cs)  {g' : MS}  : ∀ (g : MS) (t1 : Int32) (t2 : Int32), fX12_sees_111 g t1 t2 = some g' → ∀ (H : Heap) (locs : List Loc) (ls : Array Slot), MH D (MW cs ad g) A s H locs → lv_has ls 1 [] → W p l e (rM 5) s m args below meth c H locs 0 0 (MQ below (GPost D none (MW cs ad g') A) args s 0 0 A) (F0 m 111 ls [.int t2, .int t1, .ref (ad 48)]) := by
  have hx := C.1
  have hb := C.2.1
  intro g t1 t2 hf H locs ls h hl
  unfold fX12_sees_111 at hf
  refine lv_iadd hx hb dX12_sees_111 ?_
  replace hf := bnd_ex hf
  obtain ⟨g1, eg1, hf⟩ := hf
  refine mp_35 C h dX12_sees_112 (fun H locs h => ?_)
  rw [← eg1] at h
  clear eg1
  refine lv_goto (tgt := 133) hx hb dX12_sees_115 (by decide) ?_
  have e1 := Option.some.inj hf
  subst e1
  exact m_vret C h dX12_sees_133

set_option maxHeartbeats 4000000 in
set_option maxRecDepth 100000 in
theorem qX12_sees {l : Launch} {D : va_G} {cs : Nat → ClassId} {ad : Nat → Nat} {g' : MS} {g : MS}  (hf : fX12_sees g = some g') : GCon l D cs yX12_sees cX12_sees 1 none (rM 5) 0 0 [.ref (ad 48)] (MW cs ad g) none (MW cs ad g') := by
  refine GCon.of (by decide) (Nat.le_of_ble_eq_true rfl) ?_
  intro p e s m args below meth c A ls H locs C h hl
  have hx := C.1
  have hb := C.2.1
  have C : MCx p s m args meth c A RX12 cX12_sees 1 none D cs := C
  have hl : lv_has ls 1 [(0, .ref (ad 48))] := hl
  unfold fX12_sees at hf
  refine lv_aload_n hx hb dX12_sees_0 rfl (lv_at hl 0 rfl) ?_
  replace hf := bndv_some hf
  obtain ⟨g2, hc, hf⟩ := hf
  refine m_callVv [] C h cv_X12_426 (qX12_aimsBehind hc) rfl ⟨rfl, rfl⟩ ⟨Nat.le_of_ble_eq_true rfl, Nat.le_of_ble_eq_true rfl⟩ (m_recv C h) hl.1 rfl (Nat.le_of_ble_eq_true rfl) ⟨Nat.le_refl _, Nat.le_refl _⟩ dX12_sees_1 (fun H locs h => ?_)
  clear hc
  refine lv_aload_n hx hb dX12_sees_4 rfl (lv_at hl 0 rfl) ?_
  refine mg_32 C h dX12_sees_5 ?_
  refine lv_topi (fun x3 ex3 => ?_)
  replace hf := bnd_at ex3 hf
  clear ex3
  rcases Decidable.em (x3 = (0 : Int32)) with hq | q0
  · replace hf := if_t hq hf
    subst hq
    refine lv_tableIn (off := 36) (tgt := 44) hx hb dX12_sees_8 (by decide) (by decide) (by decide) (by decide) ?_
    refine lv_aload_n hx hb dX12_sees_44 rfl (lv_at hl 0 rfl) ?_
    refine lv_aload_n hx hb dX12_sees_45 rfl (lv_at hl 0 rfl) ?_
    refine mg_33 C h dX12_sees_46 ?_
    replace hf := bndc_some hf
    obtain ⟨x4, g5, hc, hf⟩ := hf
    refine m_callVi [.int (g2.1 33)] C h cv_X12_432 (qX12_looksSo hc) rfl ⟨rfl, rfl⟩ ⟨Nat.le_of_ble_eq_true rfl, Nat.le_of_ble_eq_true rfl⟩ (m_recv C h) hl.1 rfl (Nat.le_of_ble_eq_true rfl) ⟨Nat.le_refl _, Nat.le_refl _⟩ dX12_sees_49 (fun H locs h => ?_)
    clear hc
    refine lv_if_eq (tgt := 133) hx hb dX12_sees_52 (by decide) (fun hq => ?_) (fun hq => ?_)
    · replace hf := if_t hq hf
      clear hq
      have e1 := Option.some.inj hf
      subst e1
      exact m_vret C h dX12_sees_133
    · replace hf := if_f hq hf
      clear hq
      refine lv_aload_n hx hb dX12_sees_55 rfl (lv_at hl 0 rfl) ?_
      replace hf := bndv_some hf
      obtain ⟨g6, hc, hf⟩ := hf
      refine m_callVv [] C h cv_X12_435 (qX12_seesOne hc) rfl ⟨rfl, rfl⟩ ⟨Nat.le_of_ble_eq_true rfl, Nat.le_of_ble_eq_true rfl⟩ (m_recv C h) hl.1 rfl (Nat.le_of_ble_eq_true rfl) ⟨Nat.le_refl _, Nat.le_refl _⟩ dX12_sees_56 (fun H locs h => ?_)
      clear hc
      refine lv_goto (tgt := 133) hx hb dX12_sees_59 (by decide) ?_
      have e1 := Option.some.inj hf
      subst e1
      exact m_vret C h dX12_sees_133
  replace hf := if_f q0 hf
  rcases Decidable.em (x3 = (1 : Int32)) with hq | q1
  · replace hf := if_t hq hf
    subst hq
    refine lv_tableIn (off := 54) (tgt := 62) hx hb dX12_sees_8 (by decide) (by decide) (by decide) (by decide) ?_
    refine lv_aload_n hx hb dX12_sees_62 rfl (lv_at hl 0 rfl) ?_
    replace hf := bndc_some hf
    obtain ⟨x7, g8, hc, hf⟩ := hf
    refine m_callVi [] C h cv_X12_313 (qX12_chairBy hc) rfl ⟨rfl, rfl⟩ ⟨Nat.le_of_ble_eq_true rfl, Nat.le_of_ble_eq_true rfl⟩ (m_recv C h) hl.1 rfl (Nat.le_of_ble_eq_true rfl) ⟨Nat.le_refl _, Nat.le_refl _⟩ dX12_sees_63 (fun H locs h => ?_)
    clear hc
    refine lv_aload_n hx hb dX12_sees_66 rfl (lv_at hl 0 rfl) ?_
    refine mg_34 C h dX12_sees_67 ?_
    refine lv_icmp_ne (tgt := 133) hx hb dX12_sees_70 (by decide) (fun hq => ?_) (fun hq => ?_)
    · replace hf := if_tn hq hf
      clear hq
      have e1 := Option.some.inj hf
      subst e1
      exact m_vret C h dX12_sees_133
    · replace hf := if_t hq hf
      clear hq
      refine lv_aload_n hx hb dX12_sees_73 rfl (lv_at hl 0 rfl) ?_
      replace hf := bndv_some hf
      obtain ⟨g9, hc, hf⟩ := hf
      refine m_callVv [] C h cv_X12_435 (qX12_seesOne hc) rfl ⟨rfl, rfl⟩ ⟨Nat.le_of_ble_eq_true rfl, Nat.le_of_ble_eq_true rfl⟩ (m_recv C h) hl.1 rfl (Nat.le_of_ble_eq_true rfl) ⟨Nat.le_refl _, Nat.le_refl _⟩ dX12_sees_74 (fun H locs h => ?_)
      clear hc
      refine lv_goto (tgt := 133) hx hb dX12_sees_77 (by decide) ?_
      have e1 := Option.some.inj hf
      subst e1
      exact m_vret C h dX12_sees_133
  replace hf := if_f q1 hf
  rcases Decidable.em (x3 = (2 : Int32)) with hq | q2
  · replace hf := if_t hq hf
    subst hq
    refine lv_tableIn (off := 72) (tgt := 80) hx hb dX12_sees_8 (by decide) (by decide) (by decide) (by decide) ?_
    refine lv_aload_n hx hb dX12_sees_80 rfl (lv_at hl 0 rfl) ?_
    replace hf := bndv_some hf
    obtain ⟨g10, hc, hf⟩ := hf
    refine m_callVv [] C h cv_X12_441 (qX12_seesKnees hc) rfl ⟨rfl, rfl⟩ ⟨Nat.le_of_ble_eq_true rfl, Nat.le_of_ble_eq_true rfl⟩ (m_recv C h) hl.1 rfl (Nat.le_of_ble_eq_true rfl) ⟨Nat.le_refl _, Nat.le_refl _⟩ dX12_sees_81 (fun H locs h => ?_)
    clear hc
    refine lv_goto (tgt := 133) hx hb dX12_sees_84 (by decide) ?_
    have e1 := Option.some.inj hf
    subst e1
    exact m_vret C h dX12_sees_133
  replace hf := if_f q2 hf
  rcases Decidable.em (x3 = (3 : Int32)) with hq | q3
  · replace hf := if_t hq hf
    subst hq
    refine lv_tableIn (off := 79) (tgt := 87) hx hb dX12_sees_8 (by decide) (by decide) (by decide) (by decide) ?_
    refine lv_aload_n hx hb dX12_sees_87 rfl (lv_at hl 0 rfl) ?_
    replace hf := bndv_some hf
    obtain ⟨g11, hc, hf⟩ := hf
    refine m_callVv [] C h cv_X12_444 (qX12_seesLook hc) rfl ⟨rfl, rfl⟩ ⟨Nat.le_of_ble_eq_true rfl, Nat.le_of_ble_eq_true rfl⟩ (m_recv C h) hl.1 rfl (Nat.le_of_ble_eq_true rfl) ⟨Nat.le_refl _, Nat.le_refl _⟩ dX12_sees_88 (fun H locs h => ?_)
    clear hc
    refine lv_goto (tgt := 133) hx hb dX12_sees_91 (by decide) ?_
    have e1 := Option.some.inj hf
    subst e1
    exact m_vret C h dX12_sees_133
  replace hf := if_f q3 hf
  rcases Decidable.em (x3 = (4 : Int32)) with hq | q4
  · replace hf := if_t hq hf
    subst hq
    refine lv_tableIn (off := 86) (tgt := 94) hx hb dX12_sees_8 (by decide) (by decide) (by decide) (by decide) ?_
    refine lv_aload_n hx hb dX12_sees_94 rfl (lv_at hl 0 rfl) ?_
    refine lv_dup hx hb dX12_sees_95 rfl ?_
    refine mg_35 C h dX12_sees_96 ?_
    refine lv_aload_n hx hb dX12_sees_99 rfl (lv_at hl 0 rfl) ?_
    replace hf := bndc_some hf
    obtain ⟨x12, g13, hc, hf⟩ := hf
    refine m_callVi [] C h cv_X12_447 (qX12_isAsNow hc) rfl ⟨rfl, rfl⟩ ⟨Nat.le_of_ble_eq_true rfl, Nat.le_of_ble_eq_true rfl⟩ (m_recv C h) hl.1 rfl (Nat.le_of_ble_eq_true rfl) ⟨Nat.le_refl _, Nat.le_refl _⟩ dX12_sees_100 (fun H locs h => ?_)
    clear hc
    refine lv_if_eq (tgt := 110) hx hb dX12_sees_103 (by decide) (fun hq => ?_) (fun hq => ?_)
    · replace hf := if_t hq hf
      clear hq
      refine lv_iconst (v := (0 : Int32)) hx hb dX12_sees_110 (by decide) ?_
      exact wX12_sees_111 C g13 (g2.1 35) (0 : Int32) hf H locs ls h (lv_sub hl [] rfl)
    · replace hf := if_f hq hf
      clear hq
      refine lv_iconst (v := (1 : Int32)) hx hb dX12_sees_106 (by decide) ?_
      refine lv_goto (tgt := 111) hx hb dX12_sees_107 (by decide) ?_
      exact wX12_sees_111 C g13 (g2.1 35) (1 : Int32) hf H locs ls h (lv_sub hl [] rfl)
  replace hf := if_f q4 hf
  refine lv_tableOut (tgt := 118) hx hb dX12_sees_8 (by
      have z0 := i32_ne q0
      have z1 := i32_ne q1
      have z2 := i32_ne q2
      have z3 := i32_ne q3
      have z4 := i32_ne q4
      simp only [i32v_0, i32v_1, i32v_2, i32v_3, i32v_4] at z0 z1 z2 z3 z4
      omega) (by decide) ?_
  clear q0 q1 q2 q3 q4
  refine lv_aload_n hx hb dX12_sees_118 rfl (lv_at hl 0 rfl) ?_
  replace hf := bndc_some hf
  obtain ⟨x14, g15, hc, hf⟩ := hf
  refine m_callVi [] C h cv_X12_313 (qX12_chairBy hc) rfl ⟨rfl, rfl⟩ ⟨Nat.le_of_ble_eq_true rfl, Nat.le_of_ble_eq_true rfl⟩ (m_recv C h) hl.1 rfl (Nat.le_of_ble_eq_true rfl) ⟨Nat.le_refl _, Nat.le_refl _⟩ dX12_sees_119 (fun H locs h => ?_)
  clear hc
  refine lv_aload_n hx hb dX12_sees_122 rfl (lv_at hl 0 rfl) ?_
  refine mg_34 C h dX12_sees_123 ?_
  refine lv_icmp_ne (tgt := 133) hx hb dX12_sees_126 (by decide) (fun hq => ?_) (fun hq => ?_)
  · replace hf := if_tn hq hf
    clear hq
    have e1 := Option.some.inj hf
    subst e1
    exact m_vret C h dX12_sees_133
  · replace hf := if_t hq hf
    clear hq
    refine lv_aload_n hx hb dX12_sees_129 rfl (lv_at hl 0 rfl) ?_
    replace hf := bndv_some hf
    obtain ⟨g16, hc, hf⟩ := hf
    refine m_callVv [] C h cv_X12_451 (qX12_seesHelp hc) rfl ⟨rfl, rfl⟩ ⟨Nat.le_of_ble_eq_true rfl, Nat.le_of_ble_eq_true rfl⟩ (m_recv C h) hl.1 rfl (Nat.le_of_ble_eq_true rfl) ⟨Nat.le_refl _, Nat.le_refl _⟩ dX12_sees_130 (fun H locs h => ?_)
    clear hc
    have e1 := Option.some.inj hf
    subst e1
    exact m_vret C h dX12_sees_133

set_option maxHeartbeats 4000000 in
set_option maxRecDepth 100000 in
theorem wX12_goesRows_34 (C : MCx p s m args meth c A RX12 cX12_goesRows 4 none D cs)  {dR dd : Nat} (hdR : 6 + 1 * dd + 1 ≤ dR) {r_goesRows : MS → Int32 → Option (MS)} (h_goesRows : ∀ {g1 g2 : MS} {b0 : Int32}, r_goesRows g1 b0 = some g2 → GCon l D cs yX12_goesRows cX12_goesRows 4 none (rM (6 + 1 * dd)) 0 0 [.ref (ad 48), .int b0] (MW cs ad g1) none (MW cs ad g2)) {g' : MS}  : ∀ (n : Nat) (g : MS) (y1 : Int32) (y2 : Int32) (y3 : Int32), fX12_goesRows_34 r_goesRows n g y1 y2 y3 = some g' → ∀ (H : Heap) (locs : List Loc) (ls : Array Slot), MH D (MW cs ad g) A s H locs → lv_has ls 4 [(0, .ref (ad 48)), (1, .int y1), (2, .int y2), (3, .int y3)] → W p l e (rM dR) s m args below meth c H locs 0 0 (MQ below (GPost D none (MW cs ad g') A) args s 0 0 A) (F0 m 34 ls []) := by
  have hx := C.1
  have hb := C.2.1
  intro n
  induction n with
  | zero =>
    intro g y1 y2 y3 hf
    exact absurd hf (by simp [fX12_goesRows_34])
  | succ n ih =>
    intro g y1 y2 y3 hf H locs ls h hl
    rw [fX12_goesRows_34] at hf
    refine lv_iload_n hx hb dX12_goesRows_34 rfl (lv_at hl 3 rfl) ?_
    refine lv_iload_n hx hb dX12_goesRows_35 rfl (lv_at hl 2 rfl) ?_
    refine lv_icmp_gt (tgt := 59) hx hb dX12_goesRows_36 (by decide) (fun hq => ?_) (fun hq => ?_)
    · replace hf := if_t hq hf
      clear hq
      refine lv_aload_n hx hb dX12_goesRows_59 rfl (lv_at hl 0 rfl) ?_
      refine mg_26 C h dX12_goesRows_60 ?_
      refine lv_iload_n hx hb dX12_goesRows_63 rfl (lv_at hl 1 rfl) ?_
      refine lv_iconst (v := (0 : Int32)) hx hb dX12_goesRows_64 (by decide) ?_
      replace hf := chk_some hf
      obtain ⟨hq, hf⟩ := hf
      replace hf := bnd_ex hf
      obtain ⟨g1, eg1, hf⟩ := hf
      refine ms_26 C h hq dX12_goesRows_65 (fun H locs h => ?_)
      rw [← eg1] at h
      clear hq eg1
      have e1 := Option.some.inj hf
      subst e1
      exact m_vret C h dX12_goesRows_66
    · replace hf := if_f hq hf
      clear hq
      refine lv_aload_n hx hb dX12_goesRows_39 rfl (lv_at hl 0 rfl) ?_
      refine mg_26 C h dX12_goesRows_40 ?_
      refine lv_iload_n hx hb dX12_goesRows_43 rfl (lv_at hl 1 rfl) ?_
      refine lv_iload_n hx hb dX12_goesRows_44 rfl (lv_at hl 3 rfl) ?_
      replace hf := chk_some hf
      obtain ⟨hq, hf⟩ := hf
      replace hf := bnd_ex hf
      obtain ⟨g2, eg2, hf⟩ := hf
      refine ms_26 C h hq dX12_goesRows_45 (fun H locs h => ?_)
      rw [← eg2] at h
      clear hq eg2
      refine lv_aload_n hx hb dX12_goesRows_46 rfl (lv_at hl 0 rfl) ?_
      refine lv_iload_n hx hb dX12_goesRows_47 rfl (lv_at hl 1 rfl) ?_
      refine lv_iconst (v := (1 : Int32)) hx hb dX12_goesRows_48 (by decide) ?_
      refine lv_iadd hx hb dX12_goesRows_49 ?_
      replace hf := bndv_some hf
      obtain ⟨g3, hc, hf⟩ := hf
      refine m_callVv [.int (y1 + (1 : Int32))] C h cv_X12_407 (h_goesRows hc) rfl ⟨rfl, rfl⟩ ⟨by simp only [rM]; omega, by simp only [rM]; omega⟩ (m_recv C h) hl.1 rfl (Nat.le_of_ble_eq_true rfl) ⟨Nat.le_refl _, Nat.le_refl _⟩ dX12_goesRows_50 (fun H locs h => ?_)
      clear hc
      obtain ⟨x4, ex4⟩ : ∃ z : Int32, z = y3 + (1 : Int32) := ⟨_, rfl⟩
      replace hf := bnd_at ex4 hf
      refine lv_iinc (v := x4) (lv' := [(3, .int x4), (0, .ref (ad 48)), (1, .int y1), (2, .int y2)]) hx hb dX12_goesRows_53 hl (k := 3) rfl (by rw [ex4]; rfl) (by decide) rfl (fun ls hl => ?_)
      clear ex4
      refine lv_goto (tgt := 34) hx hb dX12_goesRows_56 (by decide) ?_
      exact ih g3 y1 y2 x4 hf H locs ls h (lv_sub hl [1, 2, 3, 0] rfl)

set_option maxHeartbeats 4000000 in
set_option maxRecDepth 100000 in
theorem wX12_goesRows_31 (C : MCx p s m args meth c A RX12 cX12_goesRows 4 none D cs)  {dR dd : Nat} (hdR : 6 + 1 * dd + 1 ≤ dR) {r_goesRows : MS → Int32 → Option (MS)} (h_goesRows : ∀ {g1 g2 : MS} {b0 : Int32}, r_goesRows g1 b0 = some g2 → GCon l D cs yX12_goesRows cX12_goesRows 4 none (rM (6 + 1 * dd)) 0 0 [.ref (ad 48), .int b0] (MW cs ad g1) none (MW cs ad g2)) {g' : MS}  : ∀ (g : MS) (y1 : Int32) (t0 : Int32), fX12_goesRows_31 r_goesRows g y1 t0 = some g' → ∀ (H : Heap) (locs : List Loc) (ls : Array Slot), MH D (MW cs ad g) A s H locs → lv_has ls 4 [(0, .ref (ad 48)), (1, .int y1)] → W p l e (rM dR) s m args below meth c H locs 0 0 (MQ below (GPost D none (MW cs ad g') A) args s 0 0 A) (F0 m 31 ls [.int t0]) := by
  have hx := C.1
  have hb := C.2.1
  intro g y1 t0 hf H locs ls h hl
  unfold fX12_goesRows_31 at hf
  refine lv_istore_n (lv' := [(2, .int t0), (0, .ref (ad 48)), (1, .int y1)]) hx hb dX12_goesRows_31 rfl hl (by decide) rfl (fun ls hl => ?_)
  refine lv_iconst (v := (0 : Int32)) hx hb dX12_goesRows_32 (by decide) ?_
  refine lv_istore_n (lv' := [(3, .int (0 : Int32)), (2, .int t0), (0, .ref (ad 48)), (1, .int y1)]) hx hb dX12_goesRows_33 rfl hl (by decide) rfl (fun ls hl => ?_)
  exact wX12_goesRows_34 C hdR h_goesRows fuel g y1 t0 (0 : Int32) hf H locs ls h (lv_sub hl [2, 3, 1, 0] rfl)

set_option maxHeartbeats 4000000 in
set_option maxRecDepth 100000 in
theorem qX12_goesRowsB {l : Launch} {D : va_G} {cs : Nat → ClassId} {ad : Nat → Nat} {dR dd : Nat} (hdR : 6 + 1 * dd + 1 ≤ dR) {r_goesRows : MS → Int32 → Option (MS)} (h_goesRows : ∀ {g1 g2 : MS} {b0 : Int32}, r_goesRows g1 b0 = some g2 → GCon l D cs yX12_goesRows cX12_goesRows 4 none (rM (6 + 1 * dd)) 0 0 [.ref (ad 48), .int b0] (MW cs ad g1) none (MW cs ad g2)) {g' : MS} {g : MS}  {a0 : Int32} (hf : fX12_goesRowsB r_goesRows g a0 = some g') : GCon l D cs yX12_goesRows cX12_goesRows 4 none (rM dR) 0 0 [.ref (ad 48), .int a0] (MW cs ad g) none (MW cs ad g') := by
  refine GCon.of (by decide) (Nat.le_of_ble_eq_true rfl) ?_
  intro p e s m args below meth c A ls H locs C h hl
  have hx := C.1
  have hb := C.2.1
  have C : MCx p s m args meth c A RX12 cX12_goesRows 4 none D cs := C
  have hl : lv_has ls 4 [(0, .ref (ad 48)), (1, .int a0)] := hl
  unfold fX12_goesRowsB at hf
  refine lv_iload_n hx hb dX12_goesRows_0 rfl (lv_at hl 1 rfl) ?_
  refine lv_aload_n hx hb dX12_goesRows_1 rfl (lv_at hl 0 rfl) ?_
  replace hf := bndc_some hf
  obtain ⟨x5, g6, hc, hf⟩ := hf
  refine m_callVi [] C h cv_X12_254 (qX12_size hc) rfl ⟨rfl, rfl⟩ ⟨by simp only [rM]; omega, by simp only [rM]; omega⟩ (m_recv C h) hl.1 rfl (Nat.le_of_ble_eq_true rfl) ⟨Nat.le_refl _, Nat.le_refl _⟩ dX12_goesRows_2 (fun H locs h => ?_)
  clear hc
  refine lv_icmp_ne (tgt := 13) hx hb dX12_goesRows_5 (by decide) (fun hq => ?_) (fun hq => ?_)
  · replace hf := if_tn hq hf
    clear hq
    refine lv_aload_n hx hb dX12_goesRows_13 rfl (lv_at hl 0 rfl) ?_
    refine lv_iload_n hx hb dX12_goesRows_14 rfl (lv_at hl 1 rfl) ?_
    replace hf := bndc_some hf
    obtain ⟨x7, g8, hc, hf⟩ := hf
    refine m_callVi [.int a0] C h cv_X12_287 (qX12_isStuck hc) rfl ⟨rfl, rfl⟩ ⟨by simp only [rM]; omega, by simp only [rM]; omega⟩ (m_recv C h) hl.1 rfl (Nat.le_of_ble_eq_true rfl) ⟨Nat.le_refl _, Nat.le_refl _⟩ dX12_goesRows_15 (fun H locs h => ?_)
    clear hc
    refine lv_if_eq (tgt := 25) hx hb dX12_goesRows_18 (by decide) (fun hq => ?_) (fun hq => ?_)
    · replace hf := if_t hq hf
      clear hq
      refine lv_aload_n hx hb dX12_goesRows_25 rfl (lv_at hl 0 rfl) ?_
      replace hf := bndc_some hf
      obtain ⟨x9, g10, hc, hf⟩ := hf
      refine m_callVi [] C h cv_X12_254 (qX12_size hc) rfl ⟨rfl, rfl⟩ ⟨by simp only [rM]; omega, by simp only [rM]; omega⟩ (m_recv C h) hl.1 rfl (Nat.le_of_ble_eq_true rfl) ⟨Nat.le_refl _, Nat.le_refl _⟩ dX12_goesRows_26 (fun H locs h => ?_)
      clear hc
      refine lv_iconst (v := (1 : Int32)) hx hb dX12_goesRows_29 (by decide) ?_
      refine lv_isub hx hb dX12_goesRows_30 ?_
      exact wX12_goesRows_31 C hdR h_goesRows g10 a0 (x9 - (1 : Int32)) hf H locs ls h (lv_sub hl [0, 1] rfl)
    · replace hf := if_f hq hf
      clear hq
      refine lv_iconst (v := (0 : Int32)) hx hb dX12_goesRows_21 (by decide) ?_
      refine lv_goto (tgt := 31) hx hb dX12_goesRows_22 (by decide) ?_
      exact wX12_goesRows_31 C hdR h_goesRows g8 a0 (0 : Int32) hf H locs ls h (lv_sub hl [0, 1] rfl)
  · replace hf := if_t hq hf
    clear hq
    refine lv_aload_n hx hb dX12_goesRows_8 rfl (lv_at hl 0 rfl) ?_
    replace hf := bndv_some hf
    obtain ⟨g11, hc, hf⟩ := hf
    refine m_callVv [] C h cv_X12_404 (qX12_sees hc) rfl ⟨rfl, rfl⟩ ⟨by simp only [rM]; omega, by simp only [rM]; omega⟩ (m_recv C h) hl.1 rfl (Nat.le_of_ble_eq_true rfl) ⟨Nat.le_refl _, Nat.le_refl _⟩ dX12_goesRows_9 (fun H locs h => ?_)
    clear hc
    have e1 := Option.some.inj hf
    subst e1
    exact m_vret C h dX12_goesRows_12

theorem qX12_goesRowsD {l : Launch} {D : va_G} {cs : Nat → ClassId} {ad : Nat → Nat} : ∀ (n : Nat) {g g' : MS} {a0 : Int32}, fX12_goesRowsD n g a0 = some g' → GCon l D cs yX12_goesRows cX12_goesRows 4 none (rM (6 + 1 * n)) 0 0 [.ref (ad 48), .int a0] (MW cs ad g) none (MW cs ad g') := by
  intro n
  induction n with
  | zero =>
    intro g g' a0 hf
    exact absurd hf (by simp [fX12_goesRowsD])
  | succ n ih =>
    intro g g' a0 hf
    rw [fX12_goesRowsD] at hf
    exact qX12_goesRowsB (dR := 6 + 1 * (n + 1)) (dd := n) (by omega) ih hf

theorem qX12_goesRows {l : Launch} {D : va_G} {cs : Nat → ClassId} {ad : Nat → Nat} {g g' : MS} {a0 : Int32} (hf : fX12_goesRows g a0 = some g') : GCon l D cs yX12_goesRows cX12_goesRows 4 none (rM 18) 0 0 [.ref (ad 48), .int a0] (MW cs ad g) none (MW cs ad g') := qX12_goesRowsD 12 hf

set_option maxHeartbeats 4000000 in
set_option maxRecDepth 100000 in
theorem qX12_asksRows {l : Launch} {D : va_G} {cs : Nat → ClassId} {ad : Nat → Nat} {g' : MS} {g : MS}  {a0 : Int32} (hf : fX12_asksRows g a0 = some g') : GCon l D cs yX12_asksRows cX12_asksRows 2 none (rM 19) 0 0 [.ref (ad 48), .int a0] (MW cs ad g) none (MW cs ad g') := by
  refine GCon.of (by decide) (Nat.le_of_ble_eq_true rfl) ?_
  intro p e s m args below meth c A ls H locs C h hl
  have hx := C.1
  have hb := C.2.1
  have C : MCx p s m args meth c A RX12 cX12_asksRows 2 none D cs := C
  have hl : lv_has ls 2 [(0, .ref (ad 48)), (1, .int a0)] := hl
  unfold fX12_asksRows at hf
  refine lv_aload_n hx hb dX12_asksRows_0 rfl (lv_at hl 0 rfl) ?_
  refine lv_iload_n hx hb dX12_asksRows_1 rfl (lv_at hl 1 rfl) ?_
  replace hf := bnd_ex hf
  obtain ⟨g1, eg1, hf⟩ := hf
  refine mp_32 C h dX12_asksRows_2 (fun H locs h => ?_)
  rw [← eg1] at h
  clear eg1
  refine lv_aload_n hx hb dX12_asksRows_5 rfl (lv_at hl 0 rfl) ?_
  refine lv_iconst (v := (0 : Int32)) hx hb dX12_asksRows_6 (by decide) ?_
  replace hf := bnd_ex hf
  obtain ⟨g2, eg2, hf⟩ := hf
  refine mp_35 C h dX12_asksRows_7 (fun H locs h => ?_)
  rw [← eg2] at h
  clear eg2
  refine lv_aload_n hx hb dX12_asksRows_10 rfl (lv_at hl 0 rfl) ?_
  refine lv_ldcw hx hb C.2.2.2.1 (C.2.2.2.2.1 _ tb_47_5) dX12_asksRows_11 ?_
  replace hf := bnd_ex hf
  obtain ⟨g3, eg3, hf⟩ := hf
  refine mp_36 C h dX12_asksRows_14 (fun H locs h => ?_)
  rw [← eg3] at h
  clear eg3
  refine lv_aload_n hx hb dX12_asksRows_17 rfl (lv_at hl 0 rfl) ?_
  refine lv_iconst (v := (-1 : Int32)) hx hb dX12_asksRows_18 (by decide) ?_
  replace hf := bnd_ex hf
  obtain ⟨g4, eg4, hf⟩ := hf
  refine mp_37 C h dX12_asksRows_19 (fun H locs h => ?_)
  rw [← eg4] at h
  clear eg4
  refine lv_aload_n hx hb dX12_asksRows_22 rfl (lv_at hl 0 rfl) ?_
  refine lv_iconst (v := (-1 : Int32)) hx hb dX12_asksRows_23 (by decide) ?_
  replace hf := bnd_ex hf
  obtain ⟨g5, eg5, hf⟩ := hf
  refine mp_38 C h dX12_asksRows_24 (fun H locs h => ?_)
  rw [← eg5] at h
  clear eg5
  refine lv_aload_n hx hb dX12_asksRows_27 rfl (lv_at hl 0 rfl) ?_
  replace hf := bndv_some hf
  obtain ⟨g6, hc, hf⟩ := hf
  refine m_callVv [] C h cv_X12_423 (qX12_laysAlong hc) rfl ⟨rfl, rfl⟩ ⟨Nat.le_of_ble_eq_true rfl, Nat.le_of_ble_eq_true rfl⟩ (m_recv C h) hl.1 rfl (Nat.le_of_ble_eq_true rfl) ⟨Nat.le_refl _, Nat.le_refl _⟩ dX12_asksRows_28 (fun H locs h => ?_)
  clear hc
  refine lv_aload_n hx hb dX12_asksRows_31 rfl (lv_at hl 0 rfl) ?_
  refine lv_iconst (v := (0 : Int32)) hx hb dX12_asksRows_32 (by decide) ?_
  replace hf := bndv_some hf
  obtain ⟨g7, hc, hf⟩ := hf
  refine m_callVv [.int (0 : Int32)] C h cv_X12_407 (qX12_goesRows hc) rfl ⟨rfl, rfl⟩ ⟨Nat.le_of_ble_eq_true rfl, Nat.le_of_ble_eq_true rfl⟩ (m_recv C h) hl.1 rfl (Nat.le_of_ble_eq_true rfl) ⟨Nat.le_refl _, Nat.le_refl _⟩ dX12_asksRows_33 (fun H locs h => ?_)
  clear hc
  have e1 := Option.some.inj hf
  subst e1
  exact m_vret C h dX12_asksRows_36

set_option maxHeartbeats 4000000 in
set_option maxRecDepth 100000 in
theorem wX12_lookFault_81 (C : MCx p s m args meth c A RX12 cX12_lookFault 5 (some .int) D cs)  {r : Int32} {g' : MS}  : ∀ (g : MS) (y3 : Int32), fX12_lookFault_81 g y3 = some (r, g') → ∀ (H : Heap) (locs : List Loc) (ls : Array Slot), MH D (MW cs ad g) A s H locs → lv_has ls 5 [(3, .int y3)] → W p l e (rM 3) s m args below meth c H locs 0 0 (MQ below (GPost D (some (.int r)) (MW cs ad g') A) args s 0 0 A) (F0 m 81 ls []) := by
  have hx := C.1
  have hb := C.2.1
  intro g y3 hf H locs ls h hl
  unfold fX12_lookFault_81 at hf
  refine lv_iload_n hx hb dX12_lookFault_81 rfl (lv_at hl 0 rfl) ?_
  refine lv_if_eq (tgt := 89) hx hb dX12_lookFault_82 (by decide) (fun hq => ?_) (fun hq => ?_)
  · replace hf := if_t hq hf
    clear hq
    refine lv_iconst (v := (3 : Int32)) hx hb dX12_lookFault_89 (by decide) ?_
    obtain ⟨e1, e2⟩ := pr_inj hf
    subst e1 e2
    exact m_iret C h dX12_lookFault_90
  · replace hf := if_f hq hf
    clear hq
    refine lv_iconst (v := (0 : Int32)) hx hb dX12_lookFault_85 (by decide) ?_
    refine lv_goto (tgt := 90) hx hb dX12_lookFault_86 (by decide) ?_
    obtain ⟨e1, e2⟩ := pr_inj hf
    subst e1 e2
    exact m_iret C h dX12_lookFault_90

set_option maxHeartbeats 4000000 in
set_option maxRecDepth 100000 in
theorem wX12_lookFault_34 (C : MCx p s m args meth c A RX12 cX12_lookFault 5 (some .int) D cs)  {r : Int32} {g' : MS}  : ∀ (n : Nat) (g : MS) (y1 : Int32) (y3 : Int32) (y4 : Int32), fX12_lookFault_34 n g y1 y3 y4 = some (r, g') → ∀ (H : Heap) (locs : List Loc) (ls : Array Slot), MH D (MW cs ad g) A s H locs → lv_has ls 5 [(0, .ref (ad 48)), (1, .int y1), (3, .int y3), (4, .int y4)] → W p l e (rM 3) s m args below meth c H locs 0 0 (MQ below (GPost D (some (.int r)) (MW cs ad g') A) args s 0 0 A) (F0 m 34 ls []) := by
  have hx := C.1
  have hb := C.2.1
  intro n
  induction n with
  | zero =>
    intro g y1 y3 y4 hf
    exact absurd hf (by simp [fX12_lookFault_34])
  | succ n ih =>
    intro g y1 y3 y4 hf H locs ls h hl
    rw [fX12_lookFault_34] at hf
    refine lv_iload hx hb dX12_lookFault_34 (lv_at hl 3 rfl) ?_
    refine lv_aload_n hx hb dX12_lookFault_36 rfl (lv_at hl 0 rfl) ?_
    refine mg_46 C h dX12_lookFault_37 ?_
    refine lv_iload_n hx hb dX12_lookFault_40 rfl (lv_at hl 1 rfl) ?_
    replace hf := chk_some hf
    obtain ⟨hq, hf⟩ := hf
    refine ml_46 C h hq dX12_lookFault_41 ?_
    clear hq
    refine lv_icmp_ge (tgt := 81) hx hb dX12_lookFault_42 (by decide) (fun hq => ?_) (fun hq => ?_)
    · replace hf := if_t hq hf
      clear hq
      exact wX12_lookFault_81 C g y3 hf H locs ls h (lv_sub hl [2] rfl)
    · replace hf := if_f hq hf
      clear hq
      refine lv_iload_n hx hb dX12_lookFault_45 rfl (lv_at hl 2 rfl) ?_
      refine lv_if_eq (tgt := 81) hx hb dX12_lookFault_46 (by decide) (fun hq => ?_) (fun hq => ?_)
      · replace hf := if_t hq hf
        clear hq
        exact wX12_lookFault_81 C g y3 hf H locs ls h (lv_sub hl [2] rfl)
      · replace hf := if_f hq hf
        clear hq
        refine lv_aload_n hx hb dX12_lookFault_49 rfl (lv_at hl 0 rfl) ?_
        refine mg_47 C h dX12_lookFault_50 ?_
        refine lv_bipush (v := (30 : Int32)) hx hb dX12_lookFault_53 (by decide) ?_
        refine lv_iload_n hx hb dX12_lookFault_55 rfl (lv_at hl 1 rfl) ?_
        refine lv_imul hx hb dX12_lookFault_56 ?_
        refine lv_iload hx hb dX12_lookFault_57 (lv_at hl 3 rfl) ?_
        refine lv_iadd hx hb dX12_lookFault_59 ?_
        replace hf := chk_some hf
        obtain ⟨hq, hf⟩ := hf
        refine ml_47 C h hq dX12_lookFault_60 ?_
        clear hq
        refine lv_ldc2 hx hb C.2.2.2.1 (C.2.2.2.2.1 _ tb_40_21) dX12_lookFault_61 ?_
        refine lv_aload_n hx hb dX12_lookFault_64 rfl (lv_at hl 0 rfl) ?_
        replace hf := bndc_some hf
        obtain ⟨x1, g2, hc, hf⟩ := hf
        refine m_callVi [] C h cv_X12_254 (qX12_size hc) rfl ⟨rfl, rfl⟩ ⟨Nat.le_of_ble_eq_true rfl, Nat.le_of_ble_eq_true rfl⟩ (m_recv C h) hl.1 rfl (Nat.le_of_ble_eq_true rfl) ⟨Nat.le_refl _, Nat.le_refl _⟩ dX12_lookFault_65 (fun H locs h => ?_)
        clear hc
        refine lv_iconst (v := (1 : Int32)) hx hb dX12_lookFault_68 (by decide) ?_
        refine lv_isub hx hb dX12_lookFault_69 ?_
        refine lv_i2l hx hb dX12_lookFault_70 rfl ?_
        replace hf := bndv_some hf
        obtain ⟨x3, hc, hf⟩ := hf
        refine m_callSi [.long (g.2.2 (ix (((30 : Int32) * y1) + y4))), .long (-1 : Int64), .long ((x1 - (1 : Int32)).toInt64)] C h cs_X12_147 (qX12_within hc) rfl ⟨rfl, rfl⟩ ⟨Nat.le_of_ble_eq_true rfl, Nat.le_of_ble_eq_true rfl⟩ hl.1 rfl (Nat.le_of_ble_eq_true rfl) ⟨Nat.le_refl _, Nat.le_refl _⟩ dX12_lookFault_71 (fun H locs h => ?_)
        clear hc
        refine lv_istore_n (lv' := [(3, .int x3), (0, .ref (ad 48)), (1, .int y1), (4, .int y4)]) hx hb dX12_lookFault_74 rfl hl (by decide) rfl (fun ls hl => ?_)
        obtain ⟨x4, ex4⟩ : ∃ z : Int32, z = y4 + (1 : Int32) := ⟨_, rfl⟩
        replace hf := bnd_at ex4 hf
        refine lv_iinc (v := x4) (lv' := [(4, .int x4), (3, .int x3), (0, .ref (ad 48)), (1, .int y1)]) hx hb dX12_lookFault_75 hl (k := 3) rfl (by rw [ex4]; rfl) (by decide) rfl (fun ls hl => ?_)
        clear ex4
        refine lv_goto (tgt := 34) hx hb dX12_lookFault_78 (by decide) ?_
        exact ih g2 y1 x3 x4 hf H locs ls h (lv_sub hl [2, 3, 1, 0] rfl)

set_option maxHeartbeats 4000000 in
set_option maxRecDepth 100000 in
theorem wX12_lookFault_30 (C : MCx p s m args meth c A RX12 cX12_lookFault 5 (some .int) D cs)  {r : Int32} {g' : MS}  : ∀ (g : MS) (y1 : Int32) (t0 : Int32), fX12_lookFault_30 g y1 t0 = some (r, g') → ∀ (H : Heap) (locs : List Loc) (ls : Array Slot), MH D (MW cs ad g) A s H locs → lv_has ls 5 [(0, .ref (ad 48)), (1, .int y1)] → W p l e (rM 3) s m args below meth c H locs 0 0 (MQ below (GPost D (some (.int r)) (MW cs ad g') A) args s 0 0 A) (F0 m 30 ls [.int t0]) := by
  have hx := C.1
  have hb := C.2.1
  intro g y1 t0 hf H locs ls h hl
  unfold fX12_lookFault_30 at hf
  refine lv_istore_n (lv' := [(3, .int t0), (0, .ref (ad 48)), (1, .int y1)]) hx hb dX12_lookFault_30 rfl hl (by decide) rfl (fun ls hl => ?_)
  refine lv_iconst (v := (0 : Int32)) hx hb dX12_lookFault_31 (by decide) ?_
  refine lv_istore (lv' := [(4, .int (0 : Int32)), (3, .int t0), (0, .ref (ad 48)), (1, .int y1)]) hx hb dX12_lookFault_32 hl (by decide) rfl (fun ls hl => ?_)
  exact wX12_lookFault_34 C fuel g y1 t0 (0 : Int32) hf H locs ls h (lv_sub hl [2, 3, 1, 0] rfl)

set_option maxHeartbeats 4000000 in
set_option maxRecDepth 100000 in
theorem qX12_lookFault {l : Launch} {D : va_G} {cs : Nat → ClassId} {ad : Nat → Nat} {r : Int32} {g' : MS} {g : MS}  {a0 : Int32} (hf : fX12_lookFault g a0 = some (r, g')) : GCon l D cs yX12_lookFault cX12_lookFault 5 (some .int) (rM 3) 0 0 [.ref (ad 48), .int a0] (MW cs ad g) (some (.int r)) (MW cs ad g') := by
  refine GCon.of (by decide) (Nat.le_of_ble_eq_true rfl) ?_
  intro p e s m args below meth c A ls H locs C h hl
  have hx := C.1
  have hb := C.2.1
  have C : MCx p s m args meth c A RX12 cX12_lookFault 5 (some .int) D cs := C
  have hl : lv_has ls 5 [(0, .ref (ad 48)), (1, .int a0)] := hl
  unfold fX12_lookFault at hf
  refine lv_aload_n hx hb dX12_lookFault_0 rfl (lv_at hl 0 rfl) ?_
  refine lv_iload_n hx hb dX12_lookFault_1 rfl (lv_at hl 1 rfl) ?_
  replace hf := bndc_some hf
  obtain ⟨x5, g6, hc, hf⟩ := hf
  refine m_callVi [.int a0] C h cv_X12_369 (qX12_trayFault hc) rfl ⟨rfl, rfl⟩ ⟨Nat.le_of_ble_eq_true rfl, Nat.le_of_ble_eq_true rfl⟩ (m_recv C h) hl.1 rfl (Nat.le_of_ble_eq_true rfl) ⟨Nat.le_refl _, Nat.le_refl _⟩ dX12_lookFault_2 (fun H locs h => ?_)
  clear hc
  refine lv_istore_n (lv' := [(2, .int x5), (0, .ref (ad 48)), (1, .int a0)]) hx hb dX12_lookFault_5 rfl hl (by decide) rfl (fun ls hl => ?_)
  refine lv_iload_n hx hb dX12_lookFault_6 rfl (lv_at hl 0 rfl) ?_
  refine lv_if_eq (tgt := 12) hx hb dX12_lookFault_7 (by decide) (fun hq => ?_) (fun hq => ?_)
  · replace hf := if_t hq hf
    clear hq
    refine lv_aload_n hx hb dX12_lookFault_12 rfl (lv_at hl 1 rfl) ?_
    refine mg_46 C h dX12_lookFault_13 ?_
    refine lv_iload_n hx hb dX12_lookFault_16 rfl (lv_at hl 2 rfl) ?_
    replace hf := chk_some hf
    obtain ⟨hq, hf⟩ := hf
    refine ml_46 C h hq dX12_lookFault_17 ?_
    clear hq
    refine lv_aload_n hx hb dX12_lookFault_18 rfl (lv_at hl 1 rfl) ?_
    replace hf := bndc_some hf
    obtain ⟨x7, g8, hc, hf⟩ := hf
    refine m_callVi [] C h cv_X12_254 (qX12_size hc) rfl ⟨rfl, rfl⟩ ⟨Nat.le_of_ble_eq_true rfl, Nat.le_of_ble_eq_true rfl⟩ (m_recv C h) hl.1 rfl (Nat.le_of_ble_eq_true rfl) ⟨Nat.le_refl _, Nat.le_refl _⟩ dX12_lookFault_19 (fun H locs h => ?_)
    clear hc
    refine lv_icmp_ne (tgt := 29) hx hb dX12_lookFault_22 (by decide) (fun hq => ?_) (fun hq => ?_)
    · replace hf := if_tn hq hf
      clear hq
      refine lv_iconst (v := (0 : Int32)) hx hb dX12_lookFault_29 (by decide) ?_
      exact wX12_lookFault_30 C g8 a0 (0 : Int32) hf H locs ls h (lv_sub hl [1, 2] rfl)
    · replace hf := if_t hq hf
      clear hq
      refine lv_iconst (v := (1 : Int32)) hx hb dX12_lookFault_25 (by decide) ?_
      refine lv_goto (tgt := 30) hx hb dX12_lookFault_26 (by decide) ?_
      exact wX12_lookFault_30 C g8 a0 (1 : Int32) hf H locs ls h (lv_sub hl [1, 2] rfl)
  · replace hf := if_f hq hf
    clear hq
    refine lv_iload_n hx hb dX12_lookFault_10 rfl (lv_at hl 0 rfl) ?_
    obtain ⟨e1, e2⟩ := pr_inj hf
    subst e1 e2
    exact m_iret C h dX12_lookFault_11
end
