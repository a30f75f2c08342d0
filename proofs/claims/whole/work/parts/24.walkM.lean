section
variable {p : Program} {l : Launch} {e : Env} {s : State} {m : MethodId} {args : Array Value} {below : List Frame} {meth : Method} {c : Code} {D : va_G} {cs : Nat → ClassId} {ad : Nat → Nat} {A : Nat → Prop}
set_option maxHeartbeats 4000000 in
set_option maxRecDepth 100000 in
theorem wX12_restore_44 (C : MCx p s m args meth c A RX12 cX12_restore 3 none D cs)  {g' : MS}  : ∀ (n : Nat) (g : MS) (y1 : Int32) (y2 : Int32), fX12_restore_44 n g y1 y2 = some g' → ∀ (H : Heap) (locs : List Loc) (ls : Array Slot), MH D (MW cs ad g) A s H locs → lv_has ls 3 [(0, .ref (ad 48)), (1, .int y1), (2, .int y2)] → W p l e (rM 1) s m args below meth c H locs 0 0 (MQ below (GPost D none (MW cs ad g') A) args s 0 0 A) (F0 m 44 ls []) := by
  have hx := C.1
  have hb := C.2.1
  intro n
  induction n with
  | zero =>
    intro g y1 y2 hf
    exact absurd hf (by simp [fX12_restore_44])
  | succ n ih =>
    intro g y1 y2 hf H locs ls h hl
    rw [fX12_restore_44] at hf
    refine lv_iload_n hx hb dX12_restore_44 rfl (lv_at hl 2 rfl) ?_
    refine lv_sipush (v := (2850 : Int32)) hx hb dX12_restore_45 (by decide) ?_
    refine lv_icmp_ge (tgt := 75) hx hb dX12_restore_48 (by decide) (fun hq => ?_) (fun hq => ?_)
    · replace hf := if_t hq hf
      clear hq
      cases hf
      exact m_vret C h dX12_restore_75
    · replace hf := if_f hq hf
      clear hq
      refine lv_aload_n hx hb dX12_restore_51 rfl (lv_at hl 0 rfl) ?_
      refine mg_0 C h dX12_restore_52 ?_
      refine lv_iload_n hx hb dX12_restore_55 rfl (lv_at hl 2 rfl) ?_
      refine lv_aload_n hx hb dX12_restore_56 rfl (lv_at hl 0 rfl) ?_
      refine mg_2 C h dX12_restore_57 ?_
      refine lv_sipush (v := (2850 : Int32)) hx hb dX12_restore_60 (by decide) ?_
      refine lv_iload_n hx hb dX12_restore_63 rfl (lv_at hl 1 rfl) ?_
      refine lv_imul hx hb dX12_restore_64 ?_
      refine lv_iload_n hx hb dX12_restore_65 rfl (lv_at hl 2 rfl) ?_
      refine lv_iadd hx hb dX12_restore_66 ?_
      replace hf := chk_some hf
      obtain ⟨hq, hf⟩ := hf
      refine ml_2 C h hq dX12_restore_67 ?_
      clear hq
      replace hf := chk_some hf
      obtain ⟨hq, hf⟩ := hf
      replace hf := bnd_ex hf
      obtain ⟨g1, eg1, hf⟩ := hf
      refine ms_0 C h hq dX12_restore_68 (fun H locs h => ?_)
      rw [← eg1] at h
      clear hq eg1
      obtain ⟨x2, ex2⟩ : ∃ z : Int32, z = y2 + (1 : Int32) := ⟨_, rfl⟩
      replace hf := bnd_at ex2 hf
      refine lv_iinc (v := x2) (lv' := [(2, .int x2), (0, .ref (ad 48)), (1, .int y1)]) hx hb dX12_restore_69 hl (k := 2) rfl (by rw [ex2]; rfl) (by decide) rfl (fun ls hl => ?_)
      clear ex2
      refine lv_goto (tgt := 44) hx hb dX12_restore_72 (by decide) ?_
      exact ih g1 y1 x2 hf H locs ls h (lv_sub hl [1, 2, 0] rfl)

set_option maxHeartbeats 4000000 in
set_option maxRecDepth 100000 in
theorem wX12_restore_31 (C : MCx p s m args meth c A RX12 cX12_restore 3 none D cs)  {g' : MS}  : ∀ (g : MS) (y1 : Int32) (t1 : Int32), fX12_restore_31 g y1 t1 = some g' → ∀ (H : Heap) (locs : List Loc) (ls : Array Slot), MH D (MW cs ad g) A s H locs → lv_has ls 3 [(0, .ref (ad 48)), (1, .int y1)] → W p l e (rM 1) s m args below meth c H locs 0 0 (MQ below (GPost D none (MW cs ad g') A) args s 0 0 A) (F0 m 31 ls [.int t1, .ref (ad 48)]) := by
  have hx := C.1
  have hb := C.2.1
  intro g y1 t1 hf H locs ls h hl
  unfold fX12_restore_31 at hf
  replace hf := bnd_ex hf
  obtain ⟨g3, eg3, hf⟩ := hf
  refine mp_4 C h dX12_restore_31 (fun H locs h => ?_)
  rw [← eg3] at h
  clear eg3
  refine lv_aload_n hx hb dX12_restore_34 rfl (lv_at hl 0 rfl) ?_
  refine mg_4 C h dX12_restore_35 ?_
  refine lv_if_le (tgt := 42) hx hb dX12_restore_38 (by decide) (fun hq => ?_) (fun hq => ?_)
  · replace hf := if_t hq hf
    clear hq
    refine lv_iconst (v := (0 : Int32)) hx hb dX12_restore_42 (by decide) ?_
    refine lv_istore_n (lv' := [(2, .int (0 : Int32)), (0, .ref (ad 48)), (1, .int y1)]) hx hb dX12_restore_43 rfl hl (by decide) rfl (fun ls hl => ?_)
    exact wX12_restore_44 C fuel g3 y1 (0 : Int32) hf H locs ls h (lv_sub hl [1, 2, 0] rfl)
  · replace hf := if_f hq hf
    clear hq
    cases hf
    exact m_vret C h dX12_restore_41

set_option maxHeartbeats 4000000 in
set_option maxRecDepth 100000 in
theorem qX12_restore {l : Launch} {D : va_G} {cs : Nat → ClassId} {ad : Nat → Nat} {g' : MS} {g : MS}  {a0 : Int32} (hf : fX12_restore g a0 = some g') : GCon l D cs yX12_restore cX12_restore 3 none (rM 1) 0 0 [.ref (ad 48), .int a0] (MW cs ad g) none (MW cs ad g') := by
  refine GCon.of (by decide) (Nat.le_of_ble_eq_true rfl) ?_
  intro p e s m args below meth c A ls H locs C h hl
  have hx := C.1
  have hb := C.2.1
  have C : MCx p s m args meth c A RX12 cX12_restore 3 none D cs := C
  have hl : lv_has ls 3 [(0, .ref (ad 48)), (1, .int a0)] := hl
  unfold fX12_restore at hf
  refine lv_aload_n hx hb dX12_restore_0 rfl (lv_at hl 0 rfl) ?_
  refine lv_iload_n hx hb dX12_restore_1 rfl (lv_at hl 1 rfl) ?_
  refine lv_i2l hx hb dX12_restore_2 rfl ?_
  refine lv_lconst (v := (0 : Int64)) hx hb dX12_restore_3 rfl ?_
  refine lv_ldc2 hx hb C.2.2.2.1 (C.2.2.2.2.1 _ tb_70_6) dX12_restore_4 ?_
  replace hf := bndv_some hf
  obtain ⟨x4, hc, hf⟩ := hf
  refine m_callSi [.long a0.toInt64, .long (0 : Int64), .long (2 : Int64)] C h cs_X12_147 (qX12_within hc) rfl ⟨rfl, rfl⟩ ⟨Nat.le_of_ble_eq_true rfl, Nat.le_of_ble_eq_true rfl⟩ hl.1 rfl (Nat.le_of_ble_eq_true rfl) ⟨Nat.le_refl _, Nat.le_refl _⟩ dX12_restore_7 (fun H locs h => ?_)
  clear hc
  refine lv_if_ne (tgt := 17) hx hb dX12_restore_10 (by decide) (fun hq => ?_) (fun hq => ?_)
  · replace hf := if_tn hq hf
    clear hq
    refine lv_aload_n hx hb dX12_restore_17 rfl (lv_at hl 0 rfl) ?_
    refine mg_3 C h dX12_restore_18 ?_
    refine lv_iload_n hx hb dX12_restore_21 rfl (lv_at hl 1 rfl) ?_
    replace hf := chk_some hf
    obtain ⟨hq, hf⟩ := hf
    refine ml_3 C h hq dX12_restore_22 ?_
    clear hq
    refine lv_if_ne (tgt := 30) hx hb dX12_restore_23 (by decide) (fun hq => ?_) (fun hq => ?_)
    · replace hf := if_tn hq hf
      clear hq
      refine lv_iconst (v := (0 : Int32)) hx hb dX12_restore_30 (by decide) ?_
      exact wX12_restore_31 C g a0 (0 : Int32) hf H locs ls h (lv_sub hl [0, 1] rfl)
    · replace hf := if_t hq hf
      clear hq
      refine lv_iconst (v := (2 : Int32)) hx hb dX12_restore_26 (by decide) ?_
      refine lv_goto (tgt := 31) hx hb dX12_restore_27 (by decide) ?_
      exact wX12_restore_31 C g a0 (2 : Int32) hf H locs ls h (lv_sub hl [0, 1] rfl)
  · replace hf := if_t hq hf
    clear hq
    refine lv_iconst (v := (1 : Int32)) hx hb dX12_restore_13 (by decide) ?_
    refine lv_goto (tgt := 31) hx hb dX12_restore_14 (by decide) ?_
    exact wX12_restore_31 C g a0 (1 : Int32) hf H locs ls h (lv_sub hl [0, 1] rfl)

set_option maxHeartbeats 4000000 in
set_option maxRecDepth 100000 in
theorem wX12_outs_32 (C : MCx p s m args meth c A RX12 cX12_outs 3 (some .int) D cs)  {r : Int32} {g' : MS}  {k4 : MS → Int32 → Int32 → Option (Int32 × MS)} (hk4 : ∀ (g : MS) (y1 : Int32) (y2 : Int32), k4 g y1 y2 = some (r, g') → ∀ (H : Heap) (locs : List Loc) (ls : Array Slot), MH D (MW cs ad g) A s H locs → lv_has ls 3 [(0, .ref (ad 48)), (1, .int y1), (2, .int y2)] → W p l e (rM 1) s m args below meth c H locs 0 0 (MQ below (GPost D (some (.int r)) (MW cs ad g') A) args s 0 0 A) (F0 m 4 ls [])) : ∀ (g : MS) (y2 : Int32) (t0 : Int32) (t1 : Int32), fX12_outs_32 k4 g y2 t0 t1 = some (r, g') → ∀ (H : Heap) (locs : List Loc) (ls : Array Slot), MH D (MW cs ad g) A s H locs → lv_has ls 3 [(0, .ref (ad 48)), (2, .int y2)] → W p l e (rM 1) s m args below meth c H locs 0 0 (MQ below (GPost D (some (.int r)) (MW cs ad g') A) args s 0 0 A) (F0 m 32 ls [.int t1, .int t0]) := by
  have hx := C.1
  have hb := C.2.1
  intro g y2 t0 t1 hf H locs ls h hl
  unfold fX12_outs_32 at hf
  refine lv_ior hx hb dX12_outs_32 ?_
  refine lv_topi (fun x1 ex1 => ?_)
  replace hf := bnd_at ex1 hf
  clear ex1
  refine lv_istore_n (lv' := [(1, .int x1), (0, .ref (ad 48)), (2, .int y2)]) hx hb dX12_outs_33 rfl hl (by decide) rfl (fun ls hl => ?_)
  obtain ⟨x2, ex2⟩ : ∃ z : Int32, z = y2 + (1 : Int32) := ⟨_, rfl⟩
  replace hf := bnd_at ex2 hf
  refine lv_iinc (v := x2) (lv' := [(2, .int x2), (1, .int x1), (0, .ref (ad 48))]) hx hb dX12_outs_34 hl (k := 2) rfl (by rw [ex2]; rfl) (by decide) rfl (fun ls hl => ?_)
  clear ex2
  refine lv_goto (tgt := 4) hx hb dX12_outs_37 (by decide) ?_
  exact hk4 g x1 x2 hf H locs ls h (lv_sub hl [2, 1, 0] rfl)

set_option maxHeartbeats 4000000 in
set_option maxRecDepth 100000 in
theorem wX12_outs_4 (C : MCx p s m args meth c A RX12 cX12_outs 3 (some .int) D cs)  {r : Int32} {g' : MS}  : ∀ (n : Nat) (g : MS) (y1 : Int32) (y2 : Int32), fX12_outs_4 n g y1 y2 = some (r, g') → ∀ (H : Heap) (locs : List Loc) (ls : Array Slot), MH D (MW cs ad g) A s H locs → lv_has ls 3 [(0, .ref (ad 48)), (1, .int y1), (2, .int y2)] → W p l e (rM 1) s m args below meth c H locs 0 0 (MQ below (GPost D (some (.int r)) (MW cs ad g') A) args s 0 0 A) (F0 m 4 ls []) := by
  have hx := C.1
  have hb := C.2.1
  intro n
  induction n with
  | zero =>
    intro g y1 y2 hf
    exact absurd hf (by simp [fX12_outs_4])
  | succ n ih =>
    intro g y1 y2 hf H locs ls h hl
    rw [fX12_outs_4] at hf
    refine lv_iload_n hx hb dX12_outs_4 rfl (lv_at hl 2 rfl) ?_
    refine lv_aload_n hx hb dX12_outs_5 rfl (lv_at hl 0 rfl) ?_
    replace hf := bndc_some hf
    obtain ⟨x3, g4, hc, hf⟩ := hf
    refine m_callVi [] C h cv_X12_254 (qX12_size hc) rfl ⟨rfl, rfl⟩ ⟨Nat.le_of_ble_eq_true rfl, Nat.le_of_ble_eq_true rfl⟩ (m_recv C h) hl.1 rfl (Nat.le_of_ble_eq_true rfl) ⟨Nat.le_refl _, Nat.le_refl _⟩ dX12_outs_6 (fun H locs h => ?_)
    clear hc
    refine lv_icmp_ge (tgt := 40) hx hb dX12_outs_9 (by decide) (fun hq => ?_) (fun hq => ?_)
    · replace hf := if_t hq hf
      clear hq
      refine lv_iload_n hx hb dX12_outs_40 rfl (lv_at hl 1 rfl) ?_
      cases hf
      exact m_iret C h dX12_outs_41
    · replace hf := if_f hq hf
      clear hq
      refine lv_iload_n hx hb dX12_outs_12 rfl (lv_at hl 1 rfl) ?_
      refine lv_aload_n hx hb dX12_outs_13 rfl (lv_at hl 0 rfl) ?_
      refine mg_0 C h dX12_outs_14 ?_
      refine lv_bipush (v := (6 : Int32)) hx hb dX12_outs_17 (by decide) ?_
      refine lv_iload_n hx hb dX12_outs_19 rfl (lv_at hl 2 rfl) ?_
      refine lv_iadd hx hb dX12_outs_20 ?_
      replace hf := chk_some hf
      obtain ⟨hq, hf⟩ := hf
      refine ml_0 C h hq dX12_outs_21 ?_
      clear hq
      refine lv_if_ne (tgt := 31) hx hb dX12_outs_22 (by decide) (fun hq => ?_) (fun hq => ?_)
      · replace hf := if_tn hq hf
        clear hq
        refine lv_iconst (v := (0 : Int32)) hx hb dX12_outs_31 (by decide) ?_
        exact wX12_outs_32 C ih g4 y2 y1 (0 : Int32) hf H locs ls h (lv_sub hl [0, 2] rfl)
      · replace hf := if_t hq hf
        clear hq
        refine lv_iconst (v := (1 : Int32)) hx hb dX12_outs_25 (by decide) ?_
        refine lv_iload_n hx hb dX12_outs_26 rfl (lv_at hl 2 rfl) ?_
        refine x_ishl hx hb dX12_outs_27 ?_
        refine lv_goto (tgt := 32) hx hb dX12_outs_28 (by decide) ?_
        exact wX12_outs_32 C ih g4 y2 y1 (jshl (1 : Int32) y2) hf H locs ls h (lv_sub hl [0, 2] rfl)

set_option maxHeartbeats 4000000 in
set_option maxRecDepth 100000 in
theorem qX12_outs {l : Launch} {D : va_G} {cs : Nat → ClassId} {ad : Nat → Nat} {r : Int32} {g' : MS} {g : MS}  (hf : fX12_outs g = some (r, g')) : GCon l D cs yX12_outs cX12_outs 3 (some .int) (rM 1) 0 0 [.ref (ad 48)] (MW cs ad g) (some (.int r)) (MW cs ad g') := by
  refine GCon.of (by decide) (Nat.le_of_ble_eq_true rfl) ?_
  intro p e s m args below meth c A ls H locs C h hl
  have hx := C.1
  have hb := C.2.1
  have C : MCx p s m args meth c A RX12 cX12_outs 3 (some .int) D cs := C
  have hl : lv_has ls 3 [(0, .ref (ad 48))] := hl
  unfold fX12_outs at hf
  refine lv_iconst (v := (0 : Int32)) hx hb dX12_outs_0 (by decide) ?_
  refine lv_istore_n (lv' := [(1, .int (0 : Int32)), (0, .ref (ad 48))]) hx hb dX12_outs_1 rfl hl (by decide) rfl (fun ls hl => ?_)
  refine lv_iconst (v := (0 : Int32)) hx hb dX12_outs_2 (by decide) ?_
  refine lv_istore_n (lv' := [(2, .int (0 : Int32)), (1, .int (0 : Int32)), (0, .ref (ad 48))]) hx hb dX12_outs_3 rfl hl (by decide) rfl (fun ls hl => ?_)
  exact wX12_outs_4 C fuel g (0 : Int32) (0 : Int32) hf H locs ls h (lv_sub hl [2, 1, 0] rfl)

set_option maxHeartbeats 4000000 in
set_option maxRecDepth 100000 in
theorem wX12_weights_4 (C : MCx p s m args meth c A RX12 cX12_weights 3 (some .int) D cs)  {r : Int32} {g' : MS}  : ∀ (n : Nat) (g : MS) (y1 : Int32) (y2 : Int32), fX12_weights_4 n g y1 y2 = some (r, g') → ∀ (H : Heap) (locs : List Loc) (ls : Array Slot), MH D (MW cs ad g) A s H locs → lv_has ls 3 [(0, .ref (ad 48)), (1, .int y1), (2, .int y2)] → W p l e (rM 1) s m args below meth c H locs 0 0 (MQ below (GPost D (some (.int r)) (MW cs ad g') A) args s 0 0 A) (F0 m 4 ls []) := by
  have hx := C.1
  have hb := C.2.1
  intro n
  induction n with
  | zero =>
    intro g y1 y2 hf
    exact absurd hf (by simp [fX12_weights_4])
  | succ n ih =>
    intro g y1 y2 hf H locs ls h hl
    rw [fX12_weights_4] at hf
    refine lv_iload_n hx hb dX12_weights_4 rfl (lv_at hl 2 rfl) ?_
    refine lv_aload_n hx hb dX12_weights_5 rfl (lv_at hl 0 rfl) ?_
    replace hf := bndc_some hf
    obtain ⟨x1, g2, hc, hf⟩ := hf
    refine m_callVi [] C h cv_X12_254 (qX12_size hc) rfl ⟨rfl, rfl⟩ ⟨Nat.le_of_ble_eq_true rfl, Nat.le_of_ble_eq_true rfl⟩ (m_recv C h) hl.1 rfl (Nat.le_of_ble_eq_true rfl) ⟨Nat.le_refl _, Nat.le_refl _⟩ dX12_weights_6 (fun H locs h => ?_)
    clear hc
    refine lv_icmp_ge (tgt := 30) hx hb dX12_weights_9 (by decide) (fun hq => ?_) (fun hq => ?_)
    · replace hf := if_t hq hf
      clear hq
      refine lv_iload_n hx hb dX12_weights_30 rfl (lv_at hl 1 rfl) ?_
      cases hf
      exact m_iret C h dX12_weights_31
    · replace hf := if_f hq hf
      clear hq
      refine lv_iload_n hx hb dX12_weights_12 rfl (lv_at hl 1 rfl) ?_
      refine lv_aload_n hx hb dX12_weights_13 rfl (lv_at hl 0 rfl) ?_
      refine mg_0 C h dX12_weights_14 ?_
      refine lv_bipush (v := (12 : Int32)) hx hb dX12_weights_17 (by decide) ?_
      refine lv_iload_n hx hb dX12_weights_19 rfl (lv_at hl 2 rfl) ?_
      refine lv_iadd hx hb dX12_weights_20 ?_
      replace hf := chk_some hf
      obtain ⟨hq, hf⟩ := hf
      refine ml_0 C h hq dX12_weights_21 ?_
      clear hq
      refine lv_iadd hx hb dX12_weights_22 ?_
      refine lv_topi (fun x3 ex3 => ?_)
      replace hf := bnd_at ex3 hf
      clear ex3
      refine lv_istore_n (lv' := [(1, .int x3), (0, .ref (ad 48)), (2, .int y2)]) hx hb dX12_weights_23 rfl hl (by decide) rfl (fun ls hl => ?_)
      obtain ⟨x4, ex4⟩ : ∃ z : Int32, z = y2 + (1 : Int32) := ⟨_, rfl⟩
      replace hf := bnd_at ex4 hf
      refine lv_iinc (v := x4) (lv' := [(2, .int x4), (1, .int x3), (0, .ref (ad 48))]) hx hb dX12_weights_24 hl (k := 2) rfl (by rw [ex4]; rfl) (by decide) rfl (fun ls hl => ?_)
      clear ex4
      refine lv_goto (tgt := 4) hx hb dX12_weights_27 (by decide) ?_
      exact ih g2 x3 x4 hf H locs ls h (lv_sub hl [2, 1, 0] rfl)

set_option maxHeartbeats 4000000 in
set_option maxRecDepth 100000 in
theorem qX12_weights {l : Launch} {D : va_G} {cs : Nat → ClassId} {ad : Nat → Nat} {r : Int32} {g' : MS} {g : MS}  (hf : fX12_weights g = some (r, g')) : GCon l D cs yX12_weights cX12_weights 3 (some .int) (rM 1) 0 0 [.ref (ad 48)] (MW cs ad g) (some (.int r)) (MW cs ad g') := by
  refine GCon.of (by decide) (Nat.le_of_ble_eq_true rfl) ?_
  intro p e s m args below meth c A ls H locs C h hl
  have hx := C.1
  have hb := C.2.1
  have C : MCx p s m args meth c A RX12 cX12_weights 3 (some .int) D cs := C
  have hl : lv_has ls 3 [(0, .ref (ad 48))] := hl
  unfold fX12_weights at hf
  refine lv_iconst (v := (0 : Int32)) hx hb dX12_weights_0 (by decide) ?_
  refine lv_istore_n (lv' := [(1, .int (0 : Int32)), (0, .ref (ad 48))]) hx hb dX12_weights_1 rfl hl (by decide) rfl (fun ls hl => ?_)
  refine lv_iconst (v := (0 : Int32)) hx hb dX12_weights_2 (by decide) ?_
  refine lv_istore_n (lv' := [(2, .int (0 : Int32)), (1, .int (0 : Int32)), (0, .ref (ad 48))]) hx hb dX12_weights_3 rfl hl (by decide) rfl (fun ls hl => ?_)
  exact wX12_weights_4 C fuel g (0 : Int32) (0 : Int32) hf H locs ls h (lv_sub hl [2, 1, 0] rfl)

set_option maxHeartbeats 4000000 in
set_option maxRecDepth 100000 in
theorem qX12_count {l : Launch} {D : va_G} {cs : Nat → ClassId} {ad : Nat → Nat} {r : Int32} {g' : MS} {g : MS}  {a0 : Int32} (hf : fX12_count g a0 = some (r, g')) : GCon l D cs yX12_count cX12_count 2 (some .int) (rM 3) 0 0 [.ref (ad 48), .int a0] (MW cs ad g) (some (.int r)) (MW cs ad g') := by
  refine GCon.of (by decide) (Nat.le_of_ble_eq_true rfl) ?_
  intro p e s m args below meth c A ls H locs C h hl
  have hx := C.1
  have hb := C.2.1
  have C : MCx p s m args meth c A RX12 cX12_count 2 (some .int) D cs := C
  have hl : lv_has ls 2 [(0, .ref (ad 48)), (1, .int a0)] := hl
  unfold fX12_count at hf
  refine lv_aload_n hx hb dX12_count_0 rfl (lv_at hl 0 rfl) ?_
  refine lv_iconst (v := (0 : Int32)) hx hb dX12_count_1 (by decide) ?_
  replace hf := bnd_ex hf
  obtain ⟨g1, eg1, hf⟩ := hf
  refine mp_4 C h dX12_count_2 (fun H locs h => ?_)
  rw [← eg1] at h
  clear eg1
  refine lv_aload_n hx hb dX12_count_5 rfl (lv_at hl 0 rfl) ?_
  replace hf := bndv_some hf
  obtain ⟨g2, hc, hf⟩ := hf
  refine m_callVv [] C h cv_X12_310 (qX12_aimsNow hc) rfl ⟨rfl, rfl⟩ ⟨Nat.le_of_ble_eq_true rfl, Nat.le_of_ble_eq_true rfl⟩ (m_recv C h) hl.1 rfl (Nat.le_of_ble_eq_true rfl) ⟨Nat.le_refl _, Nat.le_refl _⟩ dX12_count_6 (fun H locs h => ?_)
  clear hc
  refine lv_iload_n hx hb dX12_count_9 rfl (lv_at hl 1 rfl) ?_
  rcases Decidable.em (a0 = (0 : Int32)) with hq | q0
  · replace hf := if_t hq hf
    subst hq
    refine lv_tableIn (off := 46) (tgt := 56) hx hb dX12_count_10 (by decide) (by decide) (by decide) (by decide) ?_
    refine lv_aload_n hx hb dX12_count_56 rfl (lv_at hl 0 rfl) ?_
    refine mg_0 C h dX12_count_57 ?_
    refine lv_iconst (v := (0 : Int32)) hx hb dX12_count_60 (by decide) ?_
    replace hf := chk_some hf
    obtain ⟨hq, hf⟩ := hf
    refine ml_0 C h hq dX12_count_61 ?_
    clear hq
    cases hf
    exact m_iret C h dX12_count_62
  replace hf := if_f q0 hf
  rcases Decidable.em (a0 = (1 : Int32)) with hq | q1
  · replace hf := if_t hq hf
    subst hq
    refine lv_tableIn (off := 53) (tgt := 63) hx hb dX12_count_10 (by decide) (by decide) (by decide) (by decide) ?_
    refine lv_aload_n hx hb dX12_count_63 rfl (lv_at hl 0 rfl) ?_
    replace hf := bndc_some hf
    obtain ⟨x3, g4, hc, hf⟩ := hf
    refine m_callVi [] C h cv_X12_254 (qX12_size hc) rfl ⟨rfl, rfl⟩ ⟨Nat.le_of_ble_eq_true rfl, Nat.le_of_ble_eq_true rfl⟩ (m_recv C h) hl.1 rfl (Nat.le_of_ble_eq_true rfl) ⟨Nat.le_refl _, Nat.le_refl _⟩ dX12_count_64 (fun H locs h => ?_)
    clear hc
    cases hf
    exact m_iret C h dX12_count_67
  replace hf := if_f q1 hf
  rcases Decidable.em (a0 = (2 : Int32)) with hq | q2
  · replace hf := if_t hq hf
    subst hq
    refine lv_tableIn (off := 58) (tgt := 68) hx hb dX12_count_10 (by decide) (by decide) (by decide) (by decide) ?_
    refine lv_aload_n hx hb dX12_count_68 rfl (lv_at hl 0 rfl) ?_
    refine mg_0 C h dX12_count_69 ?_
    refine lv_bipush (v := (18 : Int32)) hx hb dX12_count_72 (by decide) ?_
    replace hf := chk_some hf
    obtain ⟨hq, hf⟩ := hf
    refine ml_0 C h hq dX12_count_74 ?_
    clear hq
    cases hf
    exact m_iret C h dX12_count_75
  replace hf := if_f q2 hf
  rcases Decidable.em (a0 = (3 : Int32)) with hq | q3
  · replace hf := if_t hq hf
    subst hq
    refine lv_tableIn (off := 66) (tgt := 76) hx hb dX12_count_10 (by decide) (by decide) (by decide) (by decide) ?_
    refine lv_aload_n hx hb dX12_count_76 rfl (lv_at hl 0 rfl) ?_
    replace hf := bndc_some hf
    obtain ⟨x5, g6, hc, hf⟩ := hf
    refine m_callVi [] C h cv_X12_534 (qX12_outs hc) rfl ⟨rfl, rfl⟩ ⟨Nat.le_of_ble_eq_true rfl, Nat.le_of_ble_eq_true rfl⟩ (m_recv C h) hl.1 rfl (Nat.le_of_ble_eq_true rfl) ⟨Nat.le_refl _, Nat.le_refl _⟩ dX12_count_77 (fun H locs h => ?_)
    clear hc
    cases hf
    exact m_iret C h dX12_count_80
  replace hf := if_f q3 hf
  rcases Decidable.em (a0 = (4 : Int32)) with hq | q4
  · replace hf := if_t hq hf
    subst hq
    refine lv_tableIn (off := 71) (tgt := 81) hx hb dX12_count_10 (by decide) (by decide) (by decide) (by decide) ?_
    refine lv_aload_n hx hb dX12_count_81 rfl (lv_at hl 0 rfl) ?_
    replace hf := bndc_some hf
    obtain ⟨x7, g8, hc, hf⟩ := hf
    refine m_callVi [] C h cv_X12_457 (qX12_kneesBy hc) rfl ⟨rfl, rfl⟩ ⟨Nat.le_of_ble_eq_true rfl, Nat.le_of_ble_eq_true rfl⟩ (m_recv C h) hl.1 rfl (Nat.le_of_ble_eq_true rfl) ⟨Nat.le_refl _, Nat.le_refl _⟩ dX12_count_82 (fun H locs h => ?_)
    clear hc
    cases hf
    exact m_iret C h dX12_count_85
  replace hf := if_f q4 hf
  rcases Decidable.em (a0 = (5 : Int32)) with hq | q5
  · replace hf := if_t hq hf
    subst hq
    refine lv_tableIn (off := 76) (tgt := 86) hx hb dX12_count_10 (by decide) (by decide) (by decide) (by decide) ?_
    refine lv_aload_n hx hb dX12_count_86 rfl (lv_at hl 0 rfl) ?_
    replace hf := bndc_some hf
    obtain ⟨x9, g10, hc, hf⟩ := hf
    refine m_callVi [] C h cv_X12_537 (qX12_weights hc) rfl ⟨rfl, rfl⟩ ⟨Nat.le_of_ble_eq_true rfl, Nat.le_of_ble_eq_true rfl⟩ (m_recv C h) hl.1 rfl (Nat.le_of_ble_eq_true rfl) ⟨Nat.le_refl _, Nat.le_refl _⟩ dX12_count_87 (fun H locs h => ?_)
    clear hc
    cases hf
    exact m_iret C h dX12_count_90
  replace hf := if_f q5 hf
  rcases Decidable.em (a0 = (6 : Int32)) with hq | q6
  · replace hf := if_t hq hf
    subst hq
    refine lv_tableIn (off := 81) (tgt := 91) hx hb dX12_count_10 (by decide) (by decide) (by decide) (by decide) ?_
    refine lv_aload_n hx hb dX12_count_91 rfl (lv_at hl 0 rfl) ?_
    refine mg_0 C h dX12_count_92 ?_
    refine lv_iconst (v := (5 : Int32)) hx hb dX12_count_95 (by decide) ?_
    replace hf := chk_some hf
    obtain ⟨hq, hf⟩ := hf
    refine ml_0 C h hq dX12_count_96 ?_
    clear hq
    cases hf
    exact m_iret C h dX12_count_97
  replace hf := if_f q6 hf
  rcases Decidable.em (a0 = (7 : Int32)) with hq | q7
  · replace hf := if_t hq hf
    subst hq
    refine lv_tableIn (off := 88) (tgt := 98) hx hb dX12_count_10 (by decide) (by decide) (by decide) (by decide) ?_
    refine lv_aload_n hx hb dX12_count_98 rfl (lv_at hl 0 rfl) ?_
    refine mg_6 C h dX12_count_99 ?_
    cases hf
    exact m_iret C h dX12_count_102
  replace hf := if_f q7 hf
  refine lv_tableOut (tgt := 103) hx hb dX12_count_10 (by
      have z0 := i32_ne q0
      have z1 := i32_ne q1
      have z2 := i32_ne q2
      have z3 := i32_ne q3
      have z4 := i32_ne q4
      have z5 := i32_ne q5
      have z6 := i32_ne q6
      have z7 := i32_ne q7
      simp only [i32v_0, i32v_1, i32v_2, i32v_3, i32v_4, i32v_5, i32v_6, i32v_7] at z0 z1 z2 z3 z4 z5 z6 z7
      omega) (by decide) ?_
  clear q0 q1 q2 q3 q4 q5 q6 q7
  refine lv_iconst (v := (-1 : Int32)) hx hb dX12_count_103 (by decide) ?_
  cases hf
  exact m_iret C h dX12_count_104
end
