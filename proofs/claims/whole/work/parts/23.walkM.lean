section
variable {p : Program} {l : Launch} {e : Env} {s : State} {m : MethodId} {args : Array Value} {below : List Frame} {meth : Method} {c : Code} {D : va_G} {cs : Nat → ClassId} {ad : Nat → Nat} {A : Nat → Prop}
set_option maxHeartbeats 4000000 in
set_option maxRecDepth 100000 in
theorem wX12_seenAt_25 (C : MCx p s m args meth c A RX12 cX12_seenAt 3 (some .int) D cs) {r : Int32} {g' : MS}  : ∀ (g : MS) (y1 : Int32) (y2 : Int32), fX12_seenAt_25 g y1 y2 = some (r, g') → ∀ (H : Heap) (locs : List Loc) (ls : Array Slot), MH D (MW cs ad g) A s H locs → lv_has ls 3 [(0, .ref (ad 48)), (1, .int y1), (2, .int y2)] → W p l e (rM 8) s m args below meth c H locs 0 0 (MQ below (GPost D (some (.int r)) (MW cs ad g') A) args s 0 0 A) (F0 m 25 ls []) := by
  have hx := C.1
  have hb := C.2.1
  intro g y1 y2 hf H locs ls h hl
  unfold fX12_seenAt_25 at hf
  refine lv_aload_n hx hb dX12_seenAt_25 rfl (lv_at hl 0 rfl) ?_
  refine mg_4 C h dX12_seenAt_26 ?_
  refine lv_if_le (tgt := 34) hx hb dX12_seenAt_29 (by decide) (fun hq => ?_) (fun hq => ?_)
  · replace hf := if_t hq hf
    clear hq
    refine lv_aload_n hx hb dX12_seenAt_34 rfl (lv_at hl 0 rfl) ?_
    refine lv_iload_n hx hb dX12_seenAt_35 rfl (lv_at hl 1 rfl) ?_
    replace hf := bndv_some hf
    obtain ⟨g1, hc, hf⟩ := hf
    refine m_callVv [.int y1] C h cv_X12_508 (qX12_laysSeen hc) rfl ⟨rfl, rfl⟩ ⟨Nat.le_of_ble_eq_true rfl, Nat.le_of_ble_eq_true rfl⟩ (m_recv C h) hl.1 rfl (Nat.le_of_ble_eq_true rfl) ⟨Nat.le_refl _, Nat.le_refl _⟩ dX12_seenAt_36 (fun H locs h => ?_)
    clear hc
    refine lv_iload_n hx hb dX12_seenAt_39 rfl (lv_at hl 2 rfl) ?_
    refine lv_aload_n hx hb dX12_seenAt_40 rfl (lv_at hl 0 rfl) ?_
    refine mg_44 C h dX12_seenAt_41 ?_
    refine lv_icmp_ge (tgt := 56) hx hb dX12_seenAt_44 (by decide) (fun hq => ?_) (fun hq => ?_)
    · replace hf := if_t hq hf
      clear hq
      refine lv_iconst (v := (-1 : Int32)) hx hb dX12_seenAt_56 (by decide) ?_
      cases hf
      exact m_iret C h dX12_seenAt_57
    · replace hf := if_f hq hf
      clear hq
      refine lv_aload_n hx hb dX12_seenAt_47 rfl (lv_at hl 0 rfl) ?_
      refine mg_42 C h dX12_seenAt_48 ?_
      refine lv_iload_n hx hb dX12_seenAt_51 rfl (lv_at hl 2 rfl) ?_
      replace hf := chk_some hf
      obtain ⟨hq, hf⟩ := hf
      refine ml_42 C h hq dX12_seenAt_52 ?_
      clear hq
      refine lv_goto (tgt := 57) hx hb dX12_seenAt_53 (by decide) ?_
      cases hf
      exact m_iret C h dX12_seenAt_57
  · replace hf := if_f hq hf
    clear hq
    refine lv_iconst (v := (0 : Int32)) hx hb dX12_seenAt_32 (by decide) ?_
    cases hf
    exact m_iret C h dX12_seenAt_33

set_option maxHeartbeats 4000000 in
set_option maxRecDepth 100000 in
theorem qX12_seenAt {l : Launch} {D : va_G} {cs : Nat → ClassId} {ad : Nat → Nat} {r : Int32} {g' : MS} {g : MS}  {a0 : Int32} {a1 : Int32} (hf : fX12_seenAt g a0 a1 = some (r, g')) : GCon l D cs yX12_seenAt cX12_seenAt 3 (some .int) (rM 8) 0 0 [.ref (ad 48), .int a0, .int a1] (MW cs ad g) (some (.int r)) (MW cs ad g') := by
  refine GCon.of (by decide) (Nat.le_of_ble_eq_true rfl) ?_
  intro p e s m args below meth c A ls H locs C h hl
  have hx := C.1
  have hb := C.2.1
  have C : MCx p s m args meth c A RX12 cX12_seenAt 3 (some .int) D cs := C
  have hl : lv_has ls 3 [(0, .ref (ad 48)), (1, .int a0), (2, .int a1)] := hl
  unfold fX12_seenAt at hf
  refine lv_aload_n hx hb dX12_seenAt_0 rfl (lv_at hl 0 rfl) ?_
  refine lv_aload_n hx hb dX12_seenAt_1 rfl (lv_at hl 0 rfl) ?_
  refine lv_iload_n hx hb dX12_seenAt_2 rfl (lv_at hl 1 rfl) ?_
  replace hf := bndc_some hf
  obtain ⟨x2, g3, hc, hf⟩ := hf
  refine m_callVi [.int a0] C h cv_X12_468 (qX12_lookFault hc) rfl ⟨rfl, rfl⟩ ⟨Nat.le_of_ble_eq_true rfl, Nat.le_of_ble_eq_true rfl⟩ (m_recv C h) hl.1 rfl (Nat.le_of_ble_eq_true rfl) ⟨Nat.le_refl _, Nat.le_refl _⟩ dX12_seenAt_3 (fun H locs h => ?_)
  clear hc
  replace hf := bnd_ex hf
  obtain ⟨g4, eg4, hf⟩ := hf
  refine mp_4 C h dX12_seenAt_6 (fun H locs h => ?_)
  rw [← eg4] at h
  clear eg4
  refine lv_aload_n hx hb dX12_seenAt_9 rfl (lv_at hl 0 rfl) ?_
  refine mg_4 C h dX12_seenAt_10 ?_
  refine lv_if_ne (tgt := 25) hx hb dX12_seenAt_13 (by decide) (fun hq => ?_) (fun hq => ?_)
  · replace hf := if_tn hq hf
    clear hq
    exact wX12_seenAt_25 C g4 a0 a1 hf H locs ls h (lv_sub hl [0, 1, 2] rfl)
  · replace hf := if_t hq hf
    clear hq
    refine lv_iload_n hx hb dX12_seenAt_16 rfl (lv_at hl 2 rfl) ?_
    refine lv_if_ge (tgt := 25) hx hb dX12_seenAt_17 (by decide) (fun hq => ?_) (fun hq => ?_)
    · replace hf := if_t hq hf
      clear hq
      exact wX12_seenAt_25 C g4 a0 a1 hf H locs ls h (lv_sub hl [0, 1, 2] rfl)
    · replace hf := if_f hq hf
      clear hq
      refine lv_aload_n hx hb dX12_seenAt_20 rfl (lv_at hl 0 rfl) ?_
      refine lv_iconst (v := (3 : Int32)) hx hb dX12_seenAt_21 (by decide) ?_
      replace hf := bnd_ex hf
      obtain ⟨g5, eg5, hf⟩ := hf
      refine mp_4 C h dX12_seenAt_22 (fun H locs h => ?_)
      rw [← eg5] at h
      clear eg5
      exact wX12_seenAt_25 C g5 a0 a1 hf H locs ls h (lv_sub hl [0, 1, 2] rfl)

set_option maxHeartbeats 4000000 in
set_option maxRecDepth 100000 in
theorem wX12_mostAlike_60 (C : MCx p s m args meth c A RX12 cX12_mostAlike 6 (some .int) D cs) {r : Int32} {g' : MS}  {k4 : MS → Int32 → Int32 → Int32 → Option (Int32 × MS)} (hk4 : ∀ (g : MS) (y1 : Int32) (y2 : Int32) (y3 : Int32), k4 g y1 y2 y3 = some (r, g') → ∀ (H : Heap) (locs : List Loc) (ls : Array Slot), MH D (MW cs ad g) A s H locs → lv_has ls 6 [(0, .ref (ad 48)), (1, .int y1), (2, .int y2), (3, .int y3)] → W p l e (rM 1) s m args below meth c H locs 0 0 (MQ below (GPost D (some (.int r)) (MW cs ad g') A) args s 0 0 A) (F0 m 4 ls [])) {k18 : MS → Int32 → Int32 → Int32 → Int32 → Int32 → Option (Int32 × MS)} (hk18 : ∀ (g : MS) (y1 : Int32) (y2 : Int32) (y3 : Int32) (y4 : Int32) (y5 : Int32), k18 g y1 y2 y3 y4 y5 = some (r, g') → ∀ (H : Heap) (locs : List Loc) (ls : Array Slot), MH D (MW cs ad g) A s H locs → lv_has ls 6 [(0, .ref (ad 48)), (1, .int y1), (2, .int y2), (3, .int y3), (4, .int y4), (5, .int y5)] → W p l e (rM 1) s m args below meth c H locs 0 0 (MQ below (GPost D (some (.int r)) (MW cs ad g') A) args s 0 0 A) (F0 m 18 ls [])) : ∀ (g : MS) (y1 : Int32) (y2 : Int32) (y3 : Int32) (y5 : Int32) (t0 : Int32) (t1 : Int32), fX12_mostAlike_60 k4 k18 g y1 y2 y3 y5 t0 t1 = some (r, g') → ∀ (H : Heap) (locs : List Loc) (ls : Array Slot), MH D (MW cs ad g) A s H locs → lv_has ls 6 [(0, .ref (ad 48)), (1, .int y1), (2, .int y2), (3, .int y3), (5, .int y5)] → W p l e (rM 1) s m args below meth c H locs 0 0 (MQ below (GPost D (some (.int r)) (MW cs ad g') A) args s 0 0 A) (F0 m 60 ls [.int t1, .int t0]) := by
  have hx := C.1
  have hb := C.2.1
  intro g y1 y2 y3 y5 t0 t1 hf H locs ls h hl
  unfold fX12_mostAlike_60 at hf
  refine lv_iadd hx hb dX12_mostAlike_60 ?_
  refine lv_topi (fun x1 ex1 => ?_)
  replace hf := bnd_at ex1 hf
  clear ex1
  refine lv_istore (lv' := [(4, .int x1), (0, .ref (ad 48)), (1, .int y1), (2, .int y2), (3, .int y3), (5, .int y5)]) hx hb dX12_mostAlike_61 hl (by decide) rfl (fun ls hl => ?_)
  obtain ⟨x2, ex2⟩ : ∃ z : Int32, z = y5 + (1 : Int32) := ⟨_, rfl⟩
  replace hf := bnd_at ex2 hf
  refine lv_iinc (v := x2) (lv' := [(5, .int x2), (4, .int x1), (0, .ref (ad 48)), (1, .int y1), (2, .int y2), (3, .int y3)]) hx hb dX12_mostAlike_63 hl (k := 5) rfl (by rw [ex2]; rfl) (by decide) rfl (fun ls hl => ?_)
  clear ex2
  refine lv_goto (tgt := 18) hx hb dX12_mostAlike_66 (by decide) ?_
  exact hk18 g y1 y2 y3 x1 x2 hf H locs ls h (lv_sub hl [2, 3, 4, 5, 1, 0] rfl)

set_option maxHeartbeats 4000000 in
set_option maxRecDepth 100000 in
theorem wX12_mostAlike_18 (C : MCx p s m args meth c A RX12 cX12_mostAlike 6 (some .int) D cs) {r : Int32} {g' : MS}  {k4 : MS → Int32 → Int32 → Int32 → Option (Int32 × MS)} (hk4 : ∀ (g : MS) (y1 : Int32) (y2 : Int32) (y3 : Int32), k4 g y1 y2 y3 = some (r, g') → ∀ (H : Heap) (locs : List Loc) (ls : Array Slot), MH D (MW cs ad g) A s H locs → lv_has ls 6 [(0, .ref (ad 48)), (1, .int y1), (2, .int y2), (3, .int y3)] → W p l e (rM 1) s m args below meth c H locs 0 0 (MQ below (GPost D (some (.int r)) (MW cs ad g') A) args s 0 0 A) (F0 m 4 ls [])) : ∀ (n : Nat) (g : MS) (y1 : Int32) (y2 : Int32) (y3 : Int32) (y4 : Int32) (y5 : Int32), fX12_mostAlike_18 k4 n g y1 y2 y3 y4 y5 = some (r, g') → ∀ (H : Heap) (locs : List Loc) (ls : Array Slot), MH D (MW cs ad g) A s H locs → lv_has ls 6 [(0, .ref (ad 48)), (1, .int y1), (2, .int y2), (3, .int y3), (4, .int y4), (5, .int y5)] → W p l e (rM 1) s m args below meth c H locs 0 0 (MQ below (GPost D (some (.int r)) (MW cs ad g') A) args s 0 0 A) (F0 m 18 ls []) := by
  have hx := C.1
  have hb := C.2.1
  intro n
  induction n with
  | zero =>
    intro g y1 y2 y3 y4 y5 hf
    exact absurd hf (by simp [fX12_mostAlike_18])
  | succ n ih =>
    intro g y1 y2 y3 y4 y5 hf H locs ls h hl
    rw [fX12_mostAlike_18] at hf
    refine lv_iload hx hb dX12_mostAlike_18 (lv_at hl 5 rfl) ?_
    refine lv_aload_n hx hb dX12_mostAlike_20 rfl (lv_at hl 0 rfl) ?_
    refine mg_44 C h dX12_mostAlike_21 ?_
    refine lv_icmp_ge (tgt := 69) hx hb dX12_mostAlike_24 (by decide) (fun hq => ?_) (fun hq => ?_)
    · replace hf := if_t hq hf
      clear hq
      refine lv_iload_n hx hb dX12_mostAlike_69 rfl (lv_at hl 2 rfl) ?_
      refine lv_iload hx hb dX12_mostAlike_70 (lv_at hl 4 rfl) ?_
      refine x_max tb_29_21 C hl.1 (Nat.le_of_ble_eq_true rfl) (Nat.le_of_ble_eq_true rfl) (Nat.le_refl _) (Nat.le_refl _) dX12_mostAlike_72 ?_
      refine lv_topi (fun x3 ex3 => ?_)
      replace hf := bnd_at ex3 hf
      clear ex3
      refine lv_istore_n (lv' := [(2, .int x3), (0, .ref (ad 48)), (1, .int y1), (3, .int y3), (4, .int y4), (5, .int y5)]) hx hb dX12_mostAlike_75 rfl hl (by decide) rfl (fun ls hl => ?_)
      obtain ⟨x4, ex4⟩ : ∃ z : Int32, z = y3 + (1 : Int32) := ⟨_, rfl⟩
      replace hf := bnd_at ex4 hf
      refine lv_iinc (v := x4) (lv' := [(3, .int x4), (2, .int x3), (0, .ref (ad 48)), (1, .int y1), (4, .int y4), (5, .int y5)]) hx hb dX12_mostAlike_76 hl (k := 3) rfl (by rw [ex4]; rfl) (by decide) rfl (fun ls hl => ?_)
      clear ex4
      refine lv_goto (tgt := 4) hx hb dX12_mostAlike_79 (by decide) ?_
      exact hk4 g y1 x3 x4 hf H locs ls h (lv_sub hl [2, 3, 1, 0] rfl)
    · replace hf := if_f hq hf
      clear hq
      refine lv_iload hx hb dX12_mostAlike_27 (lv_at hl 4 rfl) ?_
      refine lv_aload_n hx hb dX12_mostAlike_29 rfl (lv_at hl 0 rfl) ?_
      refine mg_43 C h dX12_mostAlike_30 ?_
      refine lv_bipush (v := (6 : Int32)) hx hb dX12_mostAlike_33 (by decide) ?_
      refine lv_iload hx hb dX12_mostAlike_35 (lv_at hl 5 rfl) ?_
      refine lv_imul hx hb dX12_mostAlike_37 ?_
      refine lv_iload_n hx hb dX12_mostAlike_38 rfl (lv_at hl 1 rfl) ?_
      refine lv_iadd hx hb dX12_mostAlike_39 ?_
      replace hf := chk_some hf
      obtain ⟨hq, hf⟩ := hf
      refine ml_43 C h hq dX12_mostAlike_40 ?_
      clear hq
      refine lv_aload_n hx hb dX12_mostAlike_41 rfl (lv_at hl 0 rfl) ?_
      refine mg_43 C h dX12_mostAlike_42 ?_
      refine lv_bipush (v := (6 : Int32)) hx hb dX12_mostAlike_45 (by decide) ?_
      refine lv_iload_n hx hb dX12_mostAlike_47 rfl (lv_at hl 3 rfl) ?_
      refine lv_imul hx hb dX12_mostAlike_48 ?_
      refine lv_iload_n hx hb dX12_mostAlike_49 rfl (lv_at hl 1 rfl) ?_
      refine lv_iadd hx hb dX12_mostAlike_50 ?_
      replace hf := chk_some hf
      obtain ⟨hq, hf⟩ := hf
      refine ml_43 C h hq dX12_mostAlike_51 ?_
      clear hq
      refine lv_icmp_ne (tgt := 59) hx hb dX12_mostAlike_52 (by decide) (fun hq => ?_) (fun hq => ?_)
      · replace hf := if_tn hq hf
        clear hq
        refine lv_iconst (v := (0 : Int32)) hx hb dX12_mostAlike_59 (by decide) ?_
        exact wX12_mostAlike_60 C hk4 ih g y1 y2 y3 y5 y4 (0 : Int32) hf H locs ls h (lv_sub hl [0, 1, 2, 3, 5] rfl)
      · replace hf := if_t hq hf
        clear hq
        refine lv_iconst (v := (1 : Int32)) hx hb dX12_mostAlike_55 (by decide) ?_
        refine lv_goto (tgt := 60) hx hb dX12_mostAlike_56 (by decide) ?_
        exact wX12_mostAlike_60 C hk4 ih g y1 y2 y3 y5 y4 (1 : Int32) hf H locs ls h (lv_sub hl [0, 1, 2, 3, 5] rfl)

set_option maxHeartbeats 4000000 in
set_option maxRecDepth 100000 in
theorem wX12_mostAlike_4 (C : MCx p s m args meth c A RX12 cX12_mostAlike 6 (some .int) D cs) {r : Int32} {g' : MS}  : ∀ (n : Nat) (g : MS) (y1 : Int32) (y2 : Int32) (y3 : Int32), fX12_mostAlike_4 n g y1 y2 y3 = some (r, g') → ∀ (H : Heap) (locs : List Loc) (ls : Array Slot), MH D (MW cs ad g) A s H locs → lv_has ls 6 [(0, .ref (ad 48)), (1, .int y1), (2, .int y2), (3, .int y3)] → W p l e (rM 1) s m args below meth c H locs 0 0 (MQ below (GPost D (some (.int r)) (MW cs ad g') A) args s 0 0 A) (F0 m 4 ls []) := by
  have hx := C.1
  have hb := C.2.1
  intro n
  induction n with
  | zero =>
    intro g y1 y2 y3 hf
    exact absurd hf (by simp [fX12_mostAlike_4])
  | succ n ih =>
    intro g y1 y2 y3 hf H locs ls h hl
    rw [fX12_mostAlike_4] at hf
    refine lv_iload_n hx hb dX12_mostAlike_4 rfl (lv_at hl 3 rfl) ?_
    refine lv_aload_n hx hb dX12_mostAlike_5 rfl (lv_at hl 0 rfl) ?_
    refine mg_44 C h dX12_mostAlike_6 ?_
    refine lv_icmp_ge (tgt := 82) hx hb dX12_mostAlike_9 (by decide) (fun hq => ?_) (fun hq => ?_)
    · replace hf := if_t hq hf
      clear hq
      refine lv_iload_n hx hb dX12_mostAlike_82 rfl (lv_at hl 2 rfl) ?_
      cases hf
      exact m_iret C h dX12_mostAlike_83
    · replace hf := if_f hq hf
      clear hq
      refine lv_iconst (v := (0 : Int32)) hx hb dX12_mostAlike_12 (by decide) ?_
      refine lv_istore (lv' := [(4, .int (0 : Int32)), (0, .ref (ad 48)), (1, .int y1), (2, .int y2), (3, .int y3)]) hx hb dX12_mostAlike_13 hl (by decide) rfl (fun ls hl => ?_)
      refine lv_iconst (v := (0 : Int32)) hx hb dX12_mostAlike_15 (by decide) ?_
      refine lv_istore (lv' := [(5, .int (0 : Int32)), (4, .int (0 : Int32)), (0, .ref (ad 48)), (1, .int y1), (2, .int y2), (3, .int y3)]) hx hb dX12_mostAlike_16 hl (by decide) rfl (fun ls hl => ?_)
      exact wX12_mostAlike_18 C ih fuel g y1 y2 y3 (0 : Int32) (0 : Int32) hf H locs ls h (lv_sub hl [2, 3, 4, 5, 1, 0] rfl)

set_option maxHeartbeats 4000000 in
set_option maxRecDepth 100000 in
theorem qX12_mostAlike {l : Launch} {D : va_G} {cs : Nat → ClassId} {ad : Nat → Nat} {r : Int32} {g' : MS} {g : MS}  {a0 : Int32} (hf : fX12_mostAlike g a0 = some (r, g')) : GCon l D cs yX12_mostAlike cX12_mostAlike 6 (some .int) (rM 1) 0 0 [.ref (ad 48), .int a0] (MW cs ad g) (some (.int r)) (MW cs ad g') := by
  refine GCon.of (by decide) (Nat.le_of_ble_eq_true rfl) ?_
  intro p e s m args below meth c A ls H locs C h hl
  have hx := C.1
  have hb := C.2.1
  have C : MCx p s m args meth c A RX12 cX12_mostAlike 6 (some .int) D cs := C
  have hl : lv_has ls 6 [(0, .ref (ad 48)), (1, .int a0)] := hl
  unfold fX12_mostAlike at hf
  refine lv_iconst (v := (0 : Int32)) hx hb dX12_mostAlike_0 (by decide) ?_
  refine lv_istore_n (lv' := [(2, .int (0 : Int32)), (0, .ref (ad 48)), (1, .int a0)]) hx hb dX12_mostAlike_1 rfl hl (by decide) rfl (fun ls hl => ?_)
  refine lv_iconst (v := (0 : Int32)) hx hb dX12_mostAlike_2 (by decide) ?_
  refine lv_istore_n (lv' := [(3, .int (0 : Int32)), (2, .int (0 : Int32)), (0, .ref (ad 48)), (1, .int a0)]) hx hb dX12_mostAlike_3 rfl hl (by decide) rfl (fun ls hl => ?_)
  exact wX12_mostAlike_4 C fuel g a0 (0 : Int32) (0 : Int32) hf H locs ls h (lv_sub hl [2, 3, 1, 0] rfl)

set_option maxHeartbeats 4000000 in
set_option maxRecDepth 100000 in
theorem wX12_ask_32 (C : MCx p s m args meth c A RX12 cX12_ask 5 (some .int) D cs) {r : Int32} {g' : MS}  : ∀ (n : Nat) (g : MS) (y1 : Int32) (y2 : Int32) (y3 : Int32) (y4 : Int32), fX12_ask_32 n g y1 y2 y3 y4 = some (r, g') → ∀ (H : Heap) (locs : List Loc) (ls : Array Slot), MH D (MW cs ad g) A s H locs → lv_has ls 5 [(0, .ref (ad 48)), (1, .int y1), (2, .int y2), (3, .int y3), (4, .int y4)] → W p l e (rM 8) s m args below meth c H locs 0 0 (MQ below (GPost D (some (.int r)) (MW cs ad g') A) args s 0 0 A) (F0 m 32 ls []) := by
  have hx := C.1
  have hb := C.2.1
  intro n
  induction n with
  | zero =>
    intro g y1 y2 y3 y4 hf
    exact absurd hf (by simp [fX12_ask_32])
  | succ n ih =>
    intro g y1 y2 y3 y4 hf H locs ls h hl
    rw [fX12_ask_32] at hf
    refine lv_iload hx hb dX12_ask_32 (lv_at hl 4 rfl) ?_
    refine lv_aload_n hx hb dX12_ask_34 rfl (lv_at hl 0 rfl) ?_
    replace hf := bndc_some hf
    obtain ⟨x1, g2, hc, hf⟩ := hf
    refine m_callVi [] C h cv_X12_254 (qX12_size hc) rfl ⟨rfl, rfl⟩ ⟨Nat.le_of_ble_eq_true rfl, Nat.le_of_ble_eq_true rfl⟩ (m_recv C h) hl.1 rfl (Nat.le_of_ble_eq_true rfl) ⟨Nat.le_refl _, Nat.le_refl _⟩ dX12_ask_35 (fun H locs h => ?_)
    clear hc
    refine lv_icmp_ge (tgt := 96) hx hb dX12_ask_38 (by decide) (fun hq => ?_) (fun hq => ?_)
    · replace hf := if_t hq hf
      clear hq
      refine lv_iload_n hx hb dX12_ask_96 rfl (lv_at hl 2 rfl) ?_
      cases hf
      exact m_iret C h dX12_ask_97
    · replace hf := if_f hq hf
      clear hq
      refine lv_aload_n hx hb dX12_ask_41 rfl (lv_at hl 0 rfl) ?_
      refine mg_44 C h dX12_ask_42 ?_
      refine lv_if_le (tgt := 96) hx hb dX12_ask_45 (by decide) (fun hq => ?_) (fun hq => ?_)
      · replace hf := if_t hq hf
        clear hq
        refine lv_iload_n hx hb dX12_ask_96 rfl (lv_at hl 2 rfl) ?_
        cases hf
        exact m_iret C h dX12_ask_97
      · replace hf := if_f hq hf
        clear hq
        refine lv_aload_n hx hb dX12_ask_48 rfl (lv_at hl 0 rfl) ?_
        refine mg_47 C h dX12_ask_49 ?_
        refine lv_bipush (v := (30 : Int32)) hx hb dX12_ask_52 (by decide) ?_
        refine lv_iload_n hx hb dX12_ask_54 rfl (lv_at hl 1 rfl) ?_
        refine lv_imul hx hb dX12_ask_55 ?_
        refine lv_iload hx hb dX12_ask_56 (lv_at hl 4 rfl) ?_
        refine lv_iadd hx hb dX12_ask_58 ?_
        replace hf := chk_some hf
        obtain ⟨hq, hf⟩ := hf
        refine ml_47 C h hq dX12_ask_59 ?_
        clear hq
        refine lv_ldc2 hx hb C.2.2.2.1 (C.2.2.2.2.1 _ tb_40_21) dX12_ask_60 ?_
        refine W.lcmp hx hb dX12_ask_63 ?_
        refine lv_if_ne (tgt := 90) hx hb dX12_ask_64 (by decide) (fun hq => ?_) (fun hq => ?_)
        · replace hf := if_tn hq hf
          clear hq
          obtain ⟨x3, ex3⟩ : ∃ z : Int32, z = y4 + (1 : Int32) := ⟨_, rfl⟩
          replace hf := bnd_at ex3 hf
          refine lv_iinc (v := x3) (lv' := [(4, .int x3), (0, .ref (ad 48)), (1, .int y1), (2, .int y2), (3, .int y3)]) hx hb dX12_ask_90 hl (k := 4) rfl (by rw [ex3]; rfl) (by decide) rfl (fun ls hl => ?_)
          clear ex3
          refine lv_goto (tgt := 32) hx hb dX12_ask_93 (by decide) ?_
          exact ih g2 y1 y2 y3 x3 hf H locs ls h (lv_sub hl [1, 2, 3, 4, 0] rfl)
        · replace hf := if_t hq hf
          clear hq
          refine lv_aload_n hx hb dX12_ask_67 rfl (lv_at hl 0 rfl) ?_
          refine lv_iload hx hb dX12_ask_68 (lv_at hl 4 rfl) ?_
          replace hf := bndc_some hf
          obtain ⟨x4, g5, hc, hf⟩ := hf
          refine m_callVi [.int y4] C h cv_X12_511 (qX12_mostAlike hc) rfl ⟨rfl, rfl⟩ ⟨Nat.le_of_ble_eq_true rfl, Nat.le_of_ble_eq_true rfl⟩ (m_recv C h) hl.1 rfl (Nat.le_of_ble_eq_true rfl) ⟨Nat.le_refl _, Nat.le_refl _⟩ dX12_ask_70 (fun H locs h => ?_)
          clear hc
          refine lv_iload_n hx hb dX12_ask_73 rfl (lv_at hl 3 rfl) ?_
          refine lv_icmp_lt (tgt := 80) hx hb dX12_ask_74 (by decide) (fun hq => ?_) (fun hq => ?_)
          · replace hf := if_t hq hf
            clear hq
            refine lv_iload hx hb dX12_ask_80 (lv_at hl 4 rfl) ?_
            refine lv_istore_n (lv' := [(2, .int y4), (0, .ref (ad 48)), (1, .int y1), (3, .int y3), (4, .int y4)]) hx hb dX12_ask_82 rfl hl (by decide) rfl (fun ls hl => ?_)
            refine lv_aload_n hx hb dX12_ask_83 rfl (lv_at hl 1 rfl) ?_
            refine lv_iload hx hb dX12_ask_84 (lv_at hl 4 rfl) ?_
            replace hf := bndc_some hf
            obtain ⟨x6, g7, hc, hf⟩ := hf
            refine m_callVi [.int y4] C h cv_X12_511 (qX12_mostAlike hc) rfl ⟨rfl, rfl⟩ ⟨Nat.le_of_ble_eq_true rfl, Nat.le_of_ble_eq_true rfl⟩ (m_recv C h) hl.1 rfl (Nat.le_of_ble_eq_true rfl) ⟨Nat.le_refl _, Nat.le_refl _⟩ dX12_ask_86 (fun H locs h => ?_)
            clear hc
            refine lv_istore_n (lv' := [(3, .int x6), (2, .int y4), (0, .ref (ad 48)), (1, .int y1), (4, .int y4)]) hx hb dX12_ask_89 rfl hl (by decide) rfl (fun ls hl => ?_)
            obtain ⟨x8, ex8⟩ : ∃ z : Int32, z = y4 + (1 : Int32) := ⟨_, rfl⟩
            replace hf := bnd_at ex8 hf
            refine lv_iinc (v := x8) (lv' := [(4, .int x8), (3, .int x6), (2, .int y4), (0, .ref (ad 48)), (1, .int y1)]) hx hb dX12_ask_90 hl (k := 4) rfl (by rw [ex8]; rfl) (by decide) rfl (fun ls hl => ?_)
            clear ex8
            refine lv_goto (tgt := 32) hx hb dX12_ask_93 (by decide) ?_
            exact ih g7 y1 y4 x6 x8 hf H locs ls h (lv_sub hl [3, 4, 2, 1, 0] rfl)
          · replace hf := if_f hq hf
            clear hq
            refine lv_goto (tgt := 90) hx hb dX12_ask_77 (by decide) ?_
            obtain ⟨x9, ex9⟩ : ∃ z : Int32, z = y4 + (1 : Int32) := ⟨_, rfl⟩
            replace hf := bnd_at ex9 hf
            refine lv_iinc (v := x9) (lv' := [(4, .int x9), (0, .ref (ad 48)), (1, .int y1), (2, .int y2), (3, .int y3)]) hx hb dX12_ask_90 hl (k := 4) rfl (by rw [ex9]; rfl) (by decide) rfl (fun ls hl => ?_)
            clear ex9
            refine lv_goto (tgt := 32) hx hb dX12_ask_93 (by decide) ?_
            exact ih g5 y1 y2 y3 x9 hf H locs ls h (lv_sub hl [1, 2, 3, 4, 0] rfl)

set_option maxHeartbeats 4000000 in
set_option maxRecDepth 100000 in
theorem qX12_ask {l : Launch} {D : va_G} {cs : Nat → ClassId} {ad : Nat → Nat} {r : Int32} {g' : MS} {g : MS}  {a0 : Int32} (hf : fX12_ask g a0 = some (r, g')) : GCon l D cs yX12_ask cX12_ask 5 (some .int) (rM 8) 0 0 [.ref (ad 48), .int a0] (MW cs ad g) (some (.int r)) (MW cs ad g') := by
  refine GCon.of (by decide) (Nat.le_of_ble_eq_true rfl) ?_
  intro p e s m args below meth c A ls H locs C h hl
  have hx := C.1
  have hb := C.2.1
  have C : MCx p s m args meth c A RX12 cX12_ask 5 (some .int) D cs := C
  have hl : lv_has ls 5 [(0, .ref (ad 48)), (1, .int a0)] := hl
  unfold fX12_ask at hf
  refine lv_aload_n hx hb dX12_ask_0 rfl (lv_at hl 0 rfl) ?_
  refine lv_aload_n hx hb dX12_ask_1 rfl (lv_at hl 0 rfl) ?_
  refine lv_iload_n hx hb dX12_ask_2 rfl (lv_at hl 1 rfl) ?_
  replace hf := bndc_some hf
  obtain ⟨x10, g11, hc, hf⟩ := hf
  refine m_callVi [.int a0] C h cv_X12_468 (qX12_lookFault hc) rfl ⟨rfl, rfl⟩ ⟨Nat.le_of_ble_eq_true rfl, Nat.le_of_ble_eq_true rfl⟩ (m_recv C h) hl.1 rfl (Nat.le_of_ble_eq_true rfl) ⟨Nat.le_refl _, Nat.le_refl _⟩ dX12_ask_3 (fun H locs h => ?_)
  clear hc
  replace hf := bnd_ex hf
  obtain ⟨g12, eg12, hf⟩ := hf
  refine mp_4 C h dX12_ask_6 (fun H locs h => ?_)
  rw [← eg12] at h
  clear eg12
  refine lv_aload_n hx hb dX12_ask_9 rfl (lv_at hl 0 rfl) ?_
  refine mg_4 C h dX12_ask_10 ?_
  refine lv_if_le (tgt := 18) hx hb dX12_ask_13 (by decide) (fun hq => ?_) (fun hq => ?_)
  · replace hf := if_t hq hf
    clear hq
    refine lv_aload_n hx hb dX12_ask_18 rfl (lv_at hl 0 rfl) ?_
    refine lv_iload_n hx hb dX12_ask_19 rfl (lv_at hl 1 rfl) ?_
    replace hf := bndv_some hf
    obtain ⟨g13, hc, hf⟩ := hf
    refine m_callVv [.int a0] C h cv_X12_508 (qX12_laysSeen hc) rfl ⟨rfl, rfl⟩ ⟨Nat.le_of_ble_eq_true rfl, Nat.le_of_ble_eq_true rfl⟩ (m_recv C h) hl.1 rfl (Nat.le_of_ble_eq_true rfl) ⟨Nat.le_refl _, Nat.le_refl _⟩ dX12_ask_20 (fun H locs h => ?_)
    clear hc
    refine lv_iconst (v := (-1 : Int32)) hx hb dX12_ask_23 (by decide) ?_
    refine lv_istore_n (lv' := [(2, .int (-1 : Int32)), (0, .ref (ad 48)), (1, .int a0)]) hx hb dX12_ask_24 rfl hl (by decide) rfl (fun ls hl => ?_)
    refine lv_ldcw hx hb C.2.2.2.1 (C.2.2.2.2.1 _ tb_47_5) dX12_ask_25 ?_
    refine lv_istore_n (lv' := [(3, .int (536870912 : Int32)), (2, .int (-1 : Int32)), (0, .ref (ad 48)), (1, .int a0)]) hx hb dX12_ask_28 rfl hl (by decide) rfl (fun ls hl => ?_)
    refine lv_iconst (v := (0 : Int32)) hx hb dX12_ask_29 (by decide) ?_
    refine lv_istore (lv' := [(4, .int (0 : Int32)), (3, .int (536870912 : Int32)), (2, .int (-1 : Int32)), (0, .ref (ad 48)), (1, .int a0)]) hx hb dX12_ask_30 hl (by decide) rfl (fun ls hl => ?_)
    exact wX12_ask_32 C fuel g13 a0 (-1 : Int32) (536870912 : Int32) (0 : Int32) hf H locs ls h (lv_sub hl [3, 4, 2, 1, 0] rfl)
  · replace hf := if_f hq hf
    clear hq
    refine lv_iconst (v := (0 : Int32)) hx hb dX12_ask_16 (by decide) ?_
    cases hf
    exact m_iret C h dX12_ask_17

set_option maxHeartbeats 4000000 in
set_option maxRecDepth 100000 in
theorem wX12_loose_26 (C : MCx p s m args meth c A RX12 cX12_loose 3 (some .int) D cs) {r : Int32} {g' : MS}  {k4 : MS → Int32 → Int32 → Option (Int32 × MS)} (hk4 : ∀ (g : MS) (y1 : Int32) (y2 : Int32), k4 g y1 y2 = some (r, g') → ∀ (H : Heap) (locs : List Loc) (ls : Array Slot), MH D (MW cs ad g) A s H locs → lv_has ls 3 [(0, .ref (ad 48)), (1, .int y1), (2, .int y2)] → W p l e (rM 2) s m args below meth c H locs 0 0 (MQ below (GPost D (some (.int r)) (MW cs ad g') A) args s 0 0 A) (F0 m 4 ls [])) : ∀ (g : MS) (y2 : Int32) (t0 : Int32) (t1 : Int32), fX12_loose_26 k4 g y2 t0 t1 = some (r, g') → ∀ (H : Heap) (locs : List Loc) (ls : Array Slot), MH D (MW cs ad g) A s H locs → lv_has ls 3 [(0, .ref (ad 48)), (2, .int y2)] → W p l e (rM 2) s m args below meth c H locs 0 0 (MQ below (GPost D (some (.int r)) (MW cs ad g') A) args s 0 0 A) (F0 m 26 ls [.int t1, .int t0]) := by
  have hx := C.1
  have hb := C.2.1
  intro g y2 t0 t1 hf H locs ls h hl
  unfold fX12_loose_26 at hf
  refine lv_iadd hx hb dX12_loose_26 ?_
  refine lv_topi (fun x1 ex1 => ?_)
  replace hf := bnd_at ex1 hf
  clear ex1
  refine lv_istore_n (lv' := [(1, .int x1), (0, .ref (ad 48)), (2, .int y2)]) hx hb dX12_loose_27 rfl hl (by decide) rfl (fun ls hl => ?_)
  obtain ⟨x2, ex2⟩ : ∃ z : Int32, z = y2 + (1 : Int32) := ⟨_, rfl⟩
  replace hf := bnd_at ex2 hf
  refine lv_iinc (v := x2) (lv' := [(2, .int x2), (1, .int x1), (0, .ref (ad 48))]) hx hb dX12_loose_28 hl (k := 2) rfl (by rw [ex2]; rfl) (by decide) rfl (fun ls hl => ?_)
  clear ex2
  refine lv_goto (tgt := 4) hx hb dX12_loose_31 (by decide) ?_
  exact hk4 g x1 x2 hf H locs ls h (lv_sub hl [2, 1, 0] rfl)

set_option maxHeartbeats 4000000 in
set_option maxRecDepth 100000 in
theorem wX12_loose_4 (C : MCx p s m args meth c A RX12 cX12_loose 3 (some .int) D cs) {r : Int32} {g' : MS}  : ∀ (n : Nat) (g : MS) (y1 : Int32) (y2 : Int32), fX12_loose_4 n g y1 y2 = some (r, g') → ∀ (H : Heap) (locs : List Loc) (ls : Array Slot), MH D (MW cs ad g) A s H locs → lv_has ls 3 [(0, .ref (ad 48)), (1, .int y1), (2, .int y2)] → W p l e (rM 2) s m args below meth c H locs 0 0 (MQ below (GPost D (some (.int r)) (MW cs ad g') A) args s 0 0 A) (F0 m 4 ls []) := by
  have hx := C.1
  have hb := C.2.1
  intro n
  induction n with
  | zero =>
    intro g y1 y2 hf
    exact absurd hf (by simp [fX12_loose_4])
  | succ n ih =>
    intro g y1 y2 hf H locs ls h hl
    rw [fX12_loose_4] at hf
    refine lv_iload_n hx hb dX12_loose_4 rfl (lv_at hl 2 rfl) ?_
    refine lv_aload_n hx hb dX12_loose_5 rfl (lv_at hl 0 rfl) ?_
    replace hf := bndc_some hf
    obtain ⟨x3, g4, hc, hf⟩ := hf
    refine m_callVi [] C h cv_X12_254 (qX12_size hc) rfl ⟨rfl, rfl⟩ ⟨Nat.le_of_ble_eq_true rfl, Nat.le_of_ble_eq_true rfl⟩ (m_recv C h) hl.1 rfl (Nat.le_of_ble_eq_true rfl) ⟨Nat.le_refl _, Nat.le_refl _⟩ dX12_loose_6 (fun H locs h => ?_)
    clear hc
    refine lv_icmp_ge (tgt := 34) hx hb dX12_loose_9 (by decide) (fun hq => ?_) (fun hq => ?_)
    · replace hf := if_t hq hf
      clear hq
      refine lv_iload_n hx hb dX12_loose_34 rfl (lv_at hl 1 rfl) ?_
      cases hf
      exact m_iret C h dX12_loose_35
    · replace hf := if_f hq hf
      clear hq
      refine lv_iload_n hx hb dX12_loose_12 rfl (lv_at hl 1 rfl) ?_
      refine lv_aload_n hx hb dX12_loose_13 rfl (lv_at hl 0 rfl) ?_
      refine lv_iload_n hx hb dX12_loose_14 rfl (lv_at hl 2 rfl) ?_
      replace hf := bndc_some hf
      obtain ⟨x5, g6, hc, hf⟩ := hf
      refine m_callVi [.int y2] C h cv_X12_287 (qX12_isStuck hc) rfl ⟨rfl, rfl⟩ ⟨Nat.le_of_ble_eq_true rfl, Nat.le_of_ble_eq_true rfl⟩ (m_recv C h) hl.1 rfl (Nat.le_of_ble_eq_true rfl) ⟨Nat.le_refl _, Nat.le_refl _⟩ dX12_loose_15 (fun H locs h => ?_)
      clear hc
      refine lv_if_eq (tgt := 25) hx hb dX12_loose_18 (by decide) (fun hq => ?_) (fun hq => ?_)
      · replace hf := if_t hq hf
        clear hq
        refine lv_iconst (v := (1 : Int32)) hx hb dX12_loose_25 (by decide) ?_
        exact wX12_loose_26 C ih g6 y2 y1 (1 : Int32) hf H locs ls h (lv_sub hl [0, 2] rfl)
      · replace hf := if_f hq hf
        clear hq
        refine lv_iconst (v := (0 : Int32)) hx hb dX12_loose_21 (by decide) ?_
        refine lv_goto (tgt := 26) hx hb dX12_loose_22 (by decide) ?_
        exact wX12_loose_26 C ih g6 y2 y1 (0 : Int32) hf H locs ls h (lv_sub hl [0, 2] rfl)

set_option maxHeartbeats 4000000 in
set_option maxRecDepth 100000 in
theorem qX12_loose {l : Launch} {D : va_G} {cs : Nat → ClassId} {ad : Nat → Nat} {r : Int32} {g' : MS} {g : MS}  (hf : fX12_loose g = some (r, g')) : GCon l D cs yX12_loose cX12_loose 3 (some .int) (rM 2) 0 0 [.ref (ad 48)] (MW cs ad g) (some (.int r)) (MW cs ad g') := by
  refine GCon.of (by decide) (Nat.le_of_ble_eq_true rfl) ?_
  intro p e s m args below meth c A ls H locs C h hl
  have hx := C.1
  have hb := C.2.1
  have C : MCx p s m args meth c A RX12 cX12_loose 3 (some .int) D cs := C
  have hl : lv_has ls 3 [(0, .ref (ad 48))] := hl
  unfold fX12_loose at hf
  refine lv_iconst (v := (0 : Int32)) hx hb dX12_loose_0 (by decide) ?_
  refine lv_istore_n (lv' := [(1, .int (0 : Int32)), (0, .ref (ad 48))]) hx hb dX12_loose_1 rfl hl (by decide) rfl (fun ls hl => ?_)
  refine lv_iconst (v := (0 : Int32)) hx hb dX12_loose_2 (by decide) ?_
  refine lv_istore_n (lv' := [(2, .int (0 : Int32)), (1, .int (0 : Int32)), (0, .ref (ad 48))]) hx hb dX12_loose_3 rfl hl (by decide) rfl (fun ls hl => ?_)
  exact wX12_loose_4 C fuel g (0 : Int32) (0 : Int32) hf H locs ls h (lv_sub hl [2, 1, 0] rfl)

set_option maxHeartbeats 4000000 in
set_option maxRecDepth 100000 in
theorem wX12_common_4 (C : MCx p s m args meth c A RX12 cX12_common 5 (some .int) D cs) {r : Int32}  : ∀ (n : Nat) (y2 : Int32) (y3 : Int32), fX12_common_4 n y2 y3 = some r → ∀ (H : Heap) (locs : List Loc) (ls : Array Slot), MH D [] A s H locs → lv_has ls 5 [(2, .int y2), (3, .int y3)] → W p l e (rM 0) s m args below meth c H locs 0 0 (MQ below (GPost D (some (.int r)) [] A) args s 0 0 A) (F0 m 4 ls []) := by
  have hx := C.1
  have hb := C.2.1
  intro n
  induction n with
  | zero =>
    intro y2 y3 hf
    exact absurd hf (by simp [fX12_common_4])
  | succ n ih =>
    intro y2 y3 hf H locs ls h hl
    rw [fX12_common_4] at hf
    refine lv_iload_n hx hb dX12_common_4 rfl (lv_at hl 1 rfl) ?_
    refine lv_if_eq (tgt := 21) hx hb dX12_common_5 (by decide) (fun hq => ?_) (fun hq => ?_)
    · replace hf := if_t hq hf
      clear hq
      refine lv_iload_n hx hb dX12_common_21 rfl (lv_at hl 0 rfl) ?_
      cases hf
      exact m_iret C h dX12_common_22
    · replace hf := if_f hq hf
      clear hq
      refine lv_iload_n hx hb dX12_common_8 rfl (lv_at hl 0 rfl) ?_
      refine lv_iload_n hx hb dX12_common_9 rfl (lv_at hl 1 rfl) ?_
      replace hf := chk_some hf
      obtain ⟨hq, hf⟩ := hf
      refine x_irem hx hb dX12_common_10 (nz_ne hq) ?_
      clear hq
      refine lv_topi (fun x1 ex1 => ?_)
      replace hf := bnd_at ex1 hf
      clear ex1
      refine lv_istore (lv' := [(4, .int x1), (2, .int y2), (3, .int y3)]) hx hb dX12_common_11 hl (by decide) rfl (fun ls hl => ?_)
      refine lv_iload_n hx hb dX12_common_13 rfl (lv_at hl 2 rfl) ?_
      refine lv_istore_n (lv' := [(2, .int y3), (4, .int x1), (3, .int y3)]) hx hb dX12_common_14 rfl hl (by decide) rfl (fun ls hl => ?_)
      refine lv_iload hx hb dX12_common_15 (lv_at hl 1 rfl) ?_
      refine lv_istore_n (lv' := [(3, .int x1), (2, .int y3), (4, .int x1)]) hx hb dX12_common_17 rfl hl (by decide) rfl (fun ls hl => ?_)
      refine lv_goto (tgt := 4) hx hb dX12_common_18 (by decide) ?_
      exact ih y3 x1 hf H locs ls h (lv_sub hl [1, 0] rfl)

set_option maxHeartbeats 4000000 in
set_option maxRecDepth 100000 in
theorem qX12_common {l : Launch} {D : va_G} {cs : Nat → ClassId} {r : Int32}  {a0 : Int32} {a1 : Int32} (hf : fX12_common a0 a1 = some r) : GCon l D cs yX12_common cX12_common 5 (some .int) (rM 0) 0 0 [.int a0, .int a1] [] (some (.int r)) [] := by
  refine GCon.of (by decide) (Nat.le_of_ble_eq_true rfl) ?_
  intro p e s m args below meth c A ls H locs C h hl
  have hx := C.1
  have hb := C.2.1
  have C : MCx p s m args meth c A RX12 cX12_common 5 (some .int) D cs := C
  have hl : lv_has ls 5 [(0, .int a0), (1, .int a1)] := hl
  unfold fX12_common at hf
  refine lv_iload_n hx hb dX12_common_0 rfl (lv_at hl 0 rfl) ?_
  refine lv_istore_n (lv' := [(2, .int a0), (0, .int a0), (1, .int a1)]) hx hb dX12_common_1 rfl hl (by decide) rfl (fun ls hl => ?_)
  refine lv_iload_n hx hb dX12_common_2 rfl (lv_at hl 2 rfl) ?_
  refine lv_istore_n (lv' := [(3, .int a1), (2, .int a0), (0, .int a0), (1, .int a1)]) hx hb dX12_common_3 rfl hl (by decide) rfl (fun ls hl => ?_)
  exact wX12_common_4 C fuel a0 a1 hf H locs ls h (lv_sub hl [1, 0] rfl)

set_option maxHeartbeats 4000000 in
set_option maxRecDepth 100000 in
theorem wX12_tray_69 (C : MCx p s m args meth c A RX12 cX12_tray 5 none D cs) {g' : MS}  : ∀ (n : Nat) (g : MS) (y1 : Int32) (y4 : Int32), fX12_tray_69 n g y1 y4 = some g' → ∀ (H : Heap) (locs : List Loc) (ls : Array Slot), MH D (MW cs ad g) A s H locs → lv_has ls 5 [(0, .ref (ad 48)), (1, .int y1), (4, .int y4)] → W p l e (rM 2) s m args below meth c H locs 0 0 (MQ below (GPost D none (MW cs ad g') A) args s 0 0 A) (F0 m 69 ls []) := by
  have hx := C.1
  have hb := C.2.1
  intro n
  induction n with
  | zero =>
    intro g y1 y4 hf
    exact absurd hf (by simp [fX12_tray_69])
  | succ n ih =>
    intro g y1 y4 hf H locs ls h hl
    rw [fX12_tray_69] at hf
    refine lv_iload hx hb dX12_tray_69 (lv_at hl 2 rfl) ?_
    refine lv_bipush (v := (30 : Int32)) hx hb dX12_tray_71 (by decide) ?_
    refine lv_icmp_ge (tgt := 95) hx hb dX12_tray_73 (by decide) (fun hq => ?_) (fun hq => ?_)
    · replace hf := if_t hq hf
      clear hq
      cases hf
      exact m_vret C h dX12_tray_95
    · replace hf := if_f hq hf
      clear hq
      refine lv_aload_n hx hb dX12_tray_76 rfl (lv_at hl 0 rfl) ?_
      refine mg_47 C h dX12_tray_77 ?_
      refine lv_bipush (v := (30 : Int32)) hx hb dX12_tray_80 (by decide) ?_
      refine lv_iload_n hx hb dX12_tray_82 rfl (lv_at hl 1 rfl) ?_
      refine lv_imul hx hb dX12_tray_83 ?_
      refine lv_iload hx hb dX12_tray_84 (lv_at hl 2 rfl) ?_
      refine lv_iadd hx hb dX12_tray_86 ?_
      refine lv_lconst (v := (0 : Int64)) hx hb dX12_tray_87 rfl ?_
      replace hf := chk_some hf
      obtain ⟨hq, hf⟩ := hf
      replace hf := bnd_ex hf
      obtain ⟨g1, eg1, hf⟩ := hf
      refine ms_47 C h hq dX12_tray_88 (fun H locs h => ?_)
      rw [← eg1] at h
      clear hq eg1
      obtain ⟨x2, ex2⟩ : ∃ z : Int32, z = y4 + (1 : Int32) := ⟨_, rfl⟩
      replace hf := bnd_at ex2 hf
      refine lv_iinc (v := x2) (lv' := [(4, .int x2), (0, .ref (ad 48)), (1, .int y1)]) hx hb dX12_tray_89 hl (k := 2) rfl (by rw [ex2]; rfl) (by decide) rfl (fun ls hl => ?_)
      clear ex2
      refine lv_goto (tgt := 69) hx hb dX12_tray_92 (by decide) ?_
      exact ih g1 y1 x2 hf H locs ls h (lv_sub hl [1, 2, 0] rfl)

set_option maxHeartbeats 4000000 in
set_option maxRecDepth 100000 in
theorem wX12_tray_41 (C : MCx p s m args meth c A RX12 cX12_tray 5 none D cs) {g' : MS}  : ∀ (g : MS) (y1 : Int32) (y2 : Int32) (y3 : Int32) (t1 : Int32), fX12_tray_41 g y1 y2 y3 t1 = some g' → ∀ (H : Heap) (locs : List Loc) (ls : Array Slot), MH D (MW cs ad g) A s H locs → lv_has ls 5 [(0, .ref (ad 48)), (1, .int y1), (2, .int y2), (3, .int y3)] → W p l e (rM 2) s m args below meth c H locs 0 0 (MQ below (GPost D none (MW cs ad g') A) args s 0 0 A) (F0 m 41 ls [.int t1, .ref (ad 48)]) := by
  have hx := C.1
  have hb := C.2.1
  intro g y1 y2 y3 t1 hf H locs ls h hl
  unfold fX12_tray_41 at hf
  replace hf := bnd_ex hf
  obtain ⟨g3, eg3, hf⟩ := hf
  refine mp_4 C h dX12_tray_41 (fun H locs h => ?_)
  rw [← eg3] at h
  clear eg3
  refine lv_aload_n hx hb dX12_tray_44 rfl (lv_at hl 0 rfl) ?_
  refine mg_4 C h dX12_tray_45 ?_
  refine lv_if_le (tgt := 52) hx hb dX12_tray_48 (by decide) (fun hq => ?_) (fun hq => ?_)
  · replace hf := if_t hq hf
    clear hq
    refine lv_aload_n hx hb dX12_tray_52 rfl (lv_at hl 0 rfl) ?_
    refine mg_45 C h dX12_tray_53 ?_
    refine lv_iload_n hx hb dX12_tray_56 rfl (lv_at hl 1 rfl) ?_
    refine lv_iload_n hx hb dX12_tray_57 rfl (lv_at hl 2 rfl) ?_
    replace hf := chk_some hf
    obtain ⟨hq, hf⟩ := hf
    replace hf := bnd_ex hf
    obtain ⟨g4, eg4, hf⟩ := hf
    refine ms_45 C h hq dX12_tray_58 (fun H locs h => ?_)
    rw [← eg4] at h
    clear hq eg4
    refine lv_aload_n hx hb dX12_tray_59 rfl (lv_at hl 0 rfl) ?_
    refine mg_46 C h dX12_tray_60 ?_
    refine lv_iload_n hx hb dX12_tray_63 rfl (lv_at hl 1 rfl) ?_
    refine lv_iload_n hx hb dX12_tray_64 rfl (lv_at hl 3 rfl) ?_
    replace hf := chk_some hf
    obtain ⟨hq, hf⟩ := hf
    replace hf := bnd_ex hf
    obtain ⟨g5, eg5, hf⟩ := hf
    refine ms_46 C h hq dX12_tray_65 (fun H locs h => ?_)
    rw [← eg5] at h
    clear hq eg5
    refine lv_iconst (v := (0 : Int32)) hx hb dX12_tray_66 (by decide) ?_
    refine lv_istore (lv' := [(4, .int (0 : Int32)), (0, .ref (ad 48)), (1, .int y1), (2, .int y2), (3, .int y3)]) hx hb dX12_tray_67 hl (by decide) rfl (fun ls hl => ?_)
    exact wX12_tray_69 C fuel g5 y1 (0 : Int32) hf H locs ls h (lv_sub hl [1, 2, 0] rfl)
  · replace hf := if_f hq hf
    clear hq
    cases hf
    exact m_vret C h dX12_tray_51

set_option maxHeartbeats 4000000 in
set_option maxRecDepth 100000 in
theorem wX12_tray_36 (C : MCx p s m args meth c A RX12 cX12_tray 5 none D cs) {g' : MS}  : ∀ (g : MS) (y1 : Int32) (y2 : Int32) (y3 : Int32), fX12_tray_36 g y1 y2 y3 = some g' → ∀ (H : Heap) (locs : List Loc) (ls : Array Slot), MH D (MW cs ad g) A s H locs → lv_has ls 5 [(0, .ref (ad 48)), (1, .int y1), (2, .int y2), (3, .int y3)] → W p l e (rM 2) s m args below meth c H locs 0 0 (MQ below (GPost D none (MW cs ad g') A) args s 0 0 A) (F0 m 36 ls [.ref (ad 48)]) := by
  have hx := C.1
  have hb := C.2.1
  intro g y1 y2 y3 hf H locs ls h hl
  unfold fX12_tray_36 at hf
  refine lv_iconst (v := (2 : Int32)) hx hb dX12_tray_36 (by decide) ?_
  refine lv_goto (tgt := 41) hx hb dX12_tray_37 (by decide) ?_
  exact wX12_tray_41 C g y1 y2 y3 (2 : Int32) hf H locs ls h (lv_sub hl [0, 1, 2, 3] rfl)

set_option maxHeartbeats 4000000 in
set_option maxRecDepth 100000 in
theorem qX12_tray {l : Launch} {D : va_G} {cs : Nat → ClassId} {ad : Nat → Nat} {g' : MS} {g : MS}  {a0 : Int32} {a1 : Int32} {a2 : Int32} (hf : fX12_tray g a0 a1 a2 = some g') : GCon l D cs yX12_tray cX12_tray 5 none (rM 2) 0 0 [.ref (ad 48), .int a0, .int a1, .int a2] (MW cs ad g) none (MW cs ad g') := by
  refine GCon.of (by decide) (Nat.le_of_ble_eq_true rfl) ?_
  intro p e s m args below meth c A ls H locs C h hl
  have hx := C.1
  have hb := C.2.1
  have C : MCx p s m args meth c A RX12 cX12_tray 5 none D cs := C
  have hl : lv_has ls 5 [(0, .ref (ad 48)), (1, .int a0), (2, .int a1), (3, .int a2)] := hl
  unfold fX12_tray at hf
  refine lv_aload_n hx hb dX12_tray_0 rfl (lv_at hl 0 rfl) ?_
  refine lv_iload_n hx hb dX12_tray_1 rfl (lv_at hl 1 rfl) ?_
  replace hf := bndv_some hf
  obtain ⟨x6, hc, hf⟩ := hf
  refine m_callSi [.int a0] C h cs_X12_356 (qX12_isTray hc) rfl ⟨rfl, rfl⟩ ⟨Nat.le_of_ble_eq_true rfl, Nat.le_of_ble_eq_true rfl⟩ hl.1 rfl (Nat.le_of_ble_eq_true rfl) ⟨Nat.le_refl _, Nat.le_refl _⟩ dX12_tray_2 (fun H locs h => ?_)
  clear hc
  refine lv_if_ne (tgt := 12) hx hb dX12_tray_5 (by decide) (fun hq => ?_) (fun hq => ?_)
  · replace hf := if_tn hq hf
    clear hq
    refine lv_iload_n hx hb dX12_tray_12 rfl (lv_at hl 2 rfl) ?_
    refine lv_i2l hx hb dX12_tray_13 rfl ?_
    refine lv_lconst (v := (0 : Int64)) hx hb dX12_tray_14 rfl ?_
    refine lv_ldc2 hx hb C.2.2.2.1 (C.2.2.2.2.1 _ tb_40_5) dX12_tray_15 ?_
    replace hf := bndv_some hf
    obtain ⟨x7, hc, hf⟩ := hf
    refine m_callSi [.long a1.toInt64, .long (0 : Int64), .long (3 : Int64)] C h cs_X12_147 (qX12_within hc) rfl ⟨rfl, rfl⟩ ⟨Nat.le_of_ble_eq_true rfl, Nat.le_of_ble_eq_true rfl⟩ hl.1 rfl (Nat.le_of_ble_eq_true rfl) ⟨Nat.le_refl _, Nat.le_refl _⟩ dX12_tray_18 (fun H locs h => ?_)
    clear hc
    refine lv_if_eq (tgt := 36) hx hb dX12_tray_21 (by decide) (fun hq => ?_) (fun hq => ?_)
    · replace hf := if_t hq hf
      clear hq
      exact wX12_tray_36 C g a0 a1 a2 hf H locs ls h (lv_sub hl [0, 1, 2, 3] rfl)
    · replace hf := if_f hq hf
      clear hq
      refine lv_iload_n hx hb dX12_tray_24 rfl (lv_at hl 3 rfl) ?_
      refine lv_i2l hx hb dX12_tray_25 rfl ?_
      refine lv_lconst (v := (0 : Int64)) hx hb dX12_tray_26 rfl ?_
      refine lv_ldc2 hx hb C.2.2.2.1 (C.2.2.2.2.1 _ tb_42_17) dX12_tray_27 ?_
      replace hf := bndv_some hf
      obtain ⟨x8, hc, hf⟩ := hf
      refine m_callSi [.long a2.toInt64, .long (0 : Int64), .long (30 : Int64)] C h cs_X12_147 (qX12_within hc) rfl ⟨rfl, rfl⟩ ⟨Nat.le_of_ble_eq_true rfl, Nat.le_of_ble_eq_true rfl⟩ hl.1 rfl (Nat.le_of_ble_eq_true rfl) ⟨Nat.le_refl _, Nat.le_refl _⟩ dX12_tray_30 (fun H locs h => ?_)
      clear hc
      refine lv_if_ne (tgt := 40) hx hb dX12_tray_33 (by decide) (fun hq => ?_) (fun hq => ?_)
      · replace hf := if_tn hq hf
        clear hq
        refine lv_iconst (v := (0 : Int32)) hx hb dX12_tray_40 (by decide) ?_
        exact wX12_tray_41 C g a0 a1 a2 (0 : Int32) hf H locs ls h (lv_sub hl [0, 1, 2, 3] rfl)
      · replace hf := if_t hq hf
        clear hq
        exact wX12_tray_36 C g a0 a1 a2 hf H locs ls h (lv_sub hl [0, 1, 2, 3] rfl)
  · replace hf := if_t hq hf
    clear hq
    refine lv_iconst (v := (1 : Int32)) hx hb dX12_tray_8 (by decide) ?_
    refine lv_goto (tgt := 41) hx hb dX12_tray_9 (by decide) ?_
    exact wX12_tray_41 C g a0 a1 a2 (1 : Int32) hf H locs ls h (lv_sub hl [0, 1, 2, 3] rfl)

set_option maxHeartbeats 4000000 in
set_option maxRecDepth 100000 in
theorem qX12_cut {l : Launch} {D : va_G} {cs : Nat → ClassId} {ad : Nat → Nat} {r : Int64} {g' : MS} {g : MS}  {a0 : Int32} {a1 : Int32} {a2 : Int64} (hf : fX12_cut g a0 a1 a2 = some (r, g')) : GCon l D cs yX12_cut cX12_cut 6 (some .long) (rM 0) 0 0 [.ref (ad 48), .int a0, .int a1, .long a2] (MW cs ad g) (some (.long r)) (MW cs ad g') := by
  refine GCon.of (by decide) (Nat.le_of_ble_eq_true rfl) ?_
  intro p e s m args below meth c A ls H locs C h hl
  have hx := C.1
  have hb := C.2.1
  have C : MCx p s m args meth c A RX12 cX12_cut 6 (some .long) D cs := C
  have hl : lv_has ls 6 [(0, .ref (ad 48)), (1, .int a0), (2, .int a1), (3, .long a2)] := hl
  unfold fX12_cut at hf
  refine lv_bipush (v := (64 : Int32)) hx hb dX12_cut_0 (by decide) ?_
  refine lv_bipush (v := (8 : Int32)) hx hb dX12_cut_2 (by decide) ?_
  refine lv_aload_n hx hb dX12_cut_4 rfl (lv_at hl 0 rfl) ?_
  refine mg_45 C h dX12_cut_5 ?_
  refine lv_iload_n hx hb dX12_cut_8 rfl (lv_at hl 1 rfl) ?_
  replace hf := chk_some hf
  obtain ⟨hq, hf⟩ := hf
  refine ml_45 C h hq dX12_cut_9 ?_
  clear hq
  refine x_ishl hx hb dX12_cut_10 ?_
  refine lv_isub hx hb dX12_cut_11 ?_
  refine lv_topi (fun x1 ex1 => ?_)
  replace hf := bnd_at ex1 hf
  clear ex1
  refine lv_istore (lv' := [(5, .int x1), (0, .ref (ad 48)), (1, .int a0), (2, .int a1), (3, .long a2)]) hx hb dX12_cut_12 hl (by decide) rfl (fun ls hl => ?_)
  refine lv_aload_n hx hb dX12_cut_14 rfl (lv_at hl 1 rfl) ?_
  refine mg_47 C h dX12_cut_15 ?_
  refine lv_bipush (v := (30 : Int32)) hx hb dX12_cut_18 (by decide) ?_
  refine lv_iload_n hx hb dX12_cut_20 rfl (lv_at hl 2 rfl) ?_
  refine lv_imul hx hb dX12_cut_21 ?_
  refine lv_iload_n hx hb dX12_cut_22 rfl (lv_at hl 3 rfl) ?_
  refine lv_iadd hx hb dX12_cut_23 ?_
  refine lv_lload_n hx hb dX12_cut_24 rfl (lv_at hl 4 rfl) ?_
  refine lv_iload hx hb dX12_cut_25 (lv_at hl 0 rfl) ?_
  refine x_lshl hx hb dX12_cut_27 ?_
  refine lv_iload hx hb dX12_cut_28 (lv_at hl 0 rfl) ?_
  refine x_lshr hx hb dX12_cut_30 ?_
  replace hf := chk_some hf
  obtain ⟨hq, hf⟩ := hf
  replace hf := bnd_ex hf
  obtain ⟨g2, eg2, hf⟩ := hf
  refine ms_47 C h hq dX12_cut_31 (fun H locs h => ?_)
  rw [← eg2] at h
  clear hq eg2
  refine lv_aload_n hx hb dX12_cut_32 rfl (lv_at hl 1 rfl) ?_
  refine mg_47 C h dX12_cut_33 ?_
  refine lv_bipush (v := (30 : Int32)) hx hb dX12_cut_36 (by decide) ?_
  refine lv_iload_n hx hb dX12_cut_38 rfl (lv_at hl 2 rfl) ?_
  refine lv_imul hx hb dX12_cut_39 ?_
  refine lv_iload_n hx hb dX12_cut_40 rfl (lv_at hl 3 rfl) ?_
  refine lv_iadd hx hb dX12_cut_41 ?_
  replace hf := chk_some hf
  obtain ⟨hq, hf⟩ := hf
  refine ml_47 C h hq dX12_cut_42 ?_
  clear hq
  cases hf
  exact m_lret C h dX12_cut_43

set_option maxHeartbeats 4000000 in
set_option maxRecDepth 100000 in
theorem qX12_write {l : Launch} {D : va_G} {cs : Nat → ClassId} {ad : Nat → Nat} {r : Int64} {g' : MS} {g : MS}  {a0 : Int32} {a1 : Int32} {a2 : Int64} (hf : fX12_write g a0 a1 a2 = some (r, g')) : GCon l D cs yX12_write cX12_write 5 (some .long) (rM 3) 0 0 [.ref (ad 48), .int a0, .int a1, .long a2] (MW cs ad g) (some (.long r)) (MW cs ad g') := by
  refine GCon.of (by decide) (Nat.le_of_ble_eq_true rfl) ?_
  intro p e s m args below meth c A ls H locs C h hl
  have hx := C.1
  have hb := C.2.1
  have C : MCx p s m args meth c A RX12 cX12_write 5 (some .long) D cs := C
  have hl : lv_has ls 5 [(0, .ref (ad 48)), (1, .int a0), (2, .int a1), (3, .long a2)] := hl
  unfold fX12_write at hf
  refine lv_aload_n hx hb dX12_write_0 rfl (lv_at hl 0 rfl) ?_
  refine lv_aload_n hx hb dX12_write_1 rfl (lv_at hl 0 rfl) ?_
  refine lv_iload_n hx hb dX12_write_2 rfl (lv_at hl 1 rfl) ?_
  replace hf := bndc_some hf
  obtain ⟨x1, g2, hc, hf⟩ := hf
  refine m_callVi [.int a0] C h cv_X12_369 (qX12_trayFault hc) rfl ⟨rfl, rfl⟩ ⟨Nat.le_of_ble_eq_true rfl, Nat.le_of_ble_eq_true rfl⟩ (m_recv C h) hl.1 rfl (Nat.le_of_ble_eq_true rfl) ⟨Nat.le_refl _, Nat.le_refl _⟩ dX12_write_3 (fun H locs h => ?_)
  clear hc
  replace hf := bnd_ex hf
  obtain ⟨g3, eg3, hf⟩ := hf
  refine mp_4 C h dX12_write_6 (fun H locs h => ?_)
  rw [← eg3] at h
  clear eg3
  refine lv_aload_n hx hb dX12_write_9 rfl (lv_at hl 0 rfl) ?_
  refine mg_4 C h dX12_write_10 ?_
  refine lv_if_le (tgt := 18) hx hb dX12_write_13 (by decide) (fun hq => ?_) (fun hq => ?_)
  · replace hf := if_t hq hf
    clear hq
    refine lv_iload_n hx hb dX12_write_18 rfl (lv_at hl 2 rfl) ?_
    refine lv_i2l hx hb dX12_write_19 rfl ?_
    refine lv_lconst (v := (0 : Int64)) hx hb dX12_write_20 rfl ?_
    refine lv_aload_n hx hb dX12_write_21 rfl (lv_at hl 0 rfl) ?_
    refine mg_46 C h dX12_write_22 ?_
    refine lv_iload_n hx hb dX12_write_25 rfl (lv_at hl 1 rfl) ?_
    replace hf := chk_some hf
    obtain ⟨hq, hf⟩ := hf
    refine ml_46 C h hq dX12_write_26 ?_
    clear hq
    refine lv_iconst (v := (1 : Int32)) hx hb dX12_write_27 (by decide) ?_
    refine lv_isub hx hb dX12_write_28 ?_
    refine lv_i2l hx hb dX12_write_29 rfl ?_
    replace hf := bndv_some hf
    obtain ⟨x4, hc, hf⟩ := hf
    refine m_callSi [.long a1.toInt64, .long (0 : Int64), .long (((g3.2.1 46 (ix a0)) - (1 : Int32)).toInt64)] C h cs_X12_147 (qX12_within hc) rfl ⟨rfl, rfl⟩ ⟨Nat.le_of_ble_eq_true rfl, Nat.le_of_ble_eq_true rfl⟩ hl.1 rfl (Nat.le_of_ble_eq_true rfl) ⟨Nat.le_refl _, Nat.le_refl _⟩ dX12_write_30 (fun H locs h => ?_)
    clear hc
    refine lv_if_eq (tgt := 46) hx hb dX12_write_33 (by decide) (fun hq => ?_) (fun hq => ?_)
    · replace hf := if_t hq hf
      clear hq
      refine lv_aload_n hx hb dX12_write_46 rfl (lv_at hl 0 rfl) ?_
      refine lv_iconst (v := (3 : Int32)) hx hb dX12_write_47 (by decide) ?_
      replace hf := bndc_some hf
      obtain ⟨x5, g6, hc, hf⟩ := hf
      refine m_callVi [.int (3 : Int32)] C h cv_X12_239 (qX12_fails hc) rfl ⟨rfl, rfl⟩ ⟨Nat.le_of_ble_eq_true rfl, Nat.le_of_ble_eq_true rfl⟩ (m_recv C h) hl.1 rfl (Nat.le_of_ble_eq_true rfl) ⟨Nat.le_refl _, Nat.le_refl _⟩ dX12_write_48 (fun H locs h => ?_)
      clear hc
      refine lv_i2l hx hb dX12_write_51 rfl ?_
      cases hf
      exact m_lret C h dX12_write_52
    · replace hf := if_f hq hf
      clear hq
      refine lv_aload_n hx hb dX12_write_36 rfl (lv_at hl 0 rfl) ?_
      refine lv_iload_n hx hb dX12_write_37 rfl (lv_at hl 1 rfl) ?_
      refine lv_iload_n hx hb dX12_write_38 rfl (lv_at hl 2 rfl) ?_
      refine lv_lload_n hx hb dX12_write_39 rfl (lv_at hl 3 rfl) ?_
      replace hf := bndc_some hf
      obtain ⟨x7, g8, hc, hf⟩ := hf
      refine m_callVl [.int a0, .int a1, .long a2] C h cv_X12_528 (qX12_cut hc) rfl ⟨rfl, rfl⟩ ⟨Nat.le_of_ble_eq_true rfl, Nat.le_of_ble_eq_true rfl⟩ (m_recv C h) hl.1 rfl (Nat.le_of_ble_eq_true rfl) ⟨Nat.le_refl _, Nat.le_refl _⟩ dX12_write_40 (fun H locs h => ?_)
      clear hc
      refine lv_goto (tgt := 52) hx hb dX12_write_43 (by decide) ?_
      cases hf
      exact m_lret C h dX12_write_52
  · replace hf := if_f hq hf
    clear hq
    refine lv_lconst (v := (0 : Int64)) hx hb dX12_write_16 rfl ?_
    cases hf
    exact m_lret C h dX12_write_17

set_option maxHeartbeats 4000000 in
set_option maxRecDepth 100000 in
theorem wX12_copy_59 (C : MCx p s m args meth c A RX12 cX12_copy 5 (some .int) D cs) {r : Int32} {g' : MS}  : ∀ (n : Nat) (g : MS) (y1 : Int32) (y3 : Int32) (y4 : Int32), fX12_copy_59 n g y1 y3 y4 = some (r, g') → ∀ (H : Heap) (locs : List Loc) (ls : Array Slot), MH D (MW cs ad g) A s H locs → lv_has ls 5 [(0, .ref (ad 48)), (1, .int y1), (3, .int y3), (4, .int y4)] → W p l e (rM 8) s m args below meth c H locs 0 0 (MQ below (GPost D (some (.int r)) (MW cs ad g') A) args s 0 0 A) (F0 m 59 ls []) := by
  have hx := C.1
  have hb := C.2.1
  intro n
  induction n with
  | zero =>
    intro g y1 y3 y4 hf
    exact absurd hf (by simp [fX12_copy_59])
  | succ n ih =>
    intro g y1 y3 y4 hf H locs ls h hl
    rw [fX12_copy_59] at hf
    refine lv_iload hx hb dX12_copy_59 (lv_at hl 3 rfl) ?_
    refine lv_iload_n hx hb dX12_copy_61 rfl (lv_at hl 2 rfl) ?_
    refine lv_icmp_ge (tgt := 87) hx hb dX12_copy_62 (by decide) (fun hq => ?_) (fun hq => ?_)
    · replace hf := if_t hq hf
      clear hq
      refine lv_iload_n hx hb dX12_copy_87 rfl (lv_at hl 2 rfl) ?_
      cases hf
      exact m_iret C h dX12_copy_88
    · replace hf := if_f hq hf
      clear hq
      refine lv_aload_n hx hb dX12_copy_65 rfl (lv_at hl 0 rfl) ?_
      refine lv_iload_n hx hb dX12_copy_66 rfl (lv_at hl 1 rfl) ?_
      refine lv_iload hx hb dX12_copy_67 (lv_at hl 3 rfl) ?_
      refine lv_aload_n hx hb dX12_copy_69 rfl (lv_at hl 0 rfl) ?_
      refine mg_21 C h dX12_copy_70 ?_
      refine lv_iload hx hb dX12_copy_73 (lv_at hl 3 rfl) ?_
      replace hf := chk_some hf
      obtain ⟨hq, hf⟩ := hf
      refine ml_21 C h hq dX12_copy_75 ?_
      clear hq
      refine lv_i2l hx hb dX12_copy_76 rfl ?_
      replace hf := bndc_some hf
      obtain ⟨x1, g2, hc, hf⟩ := hf
      refine m_callVl [.int y1, .int y4, .long ((g.2.1 21 (ix y4)).toInt64)] C h cv_X12_528 (qX12_cut hc) rfl ⟨rfl, rfl⟩ ⟨Nat.le_of_ble_eq_true rfl, Nat.le_of_ble_eq_true rfl⟩ (m_recv C h) hl.1 rfl (Nat.le_of_ble_eq_true rfl) ⟨Nat.le_refl _, Nat.le_refl _⟩ dX12_copy_77 (fun H locs h => ?_)
      clear hc
      refine lv_pop2_2 hx hb dX12_copy_80 rfl ?_
      obtain ⟨x3, ex3⟩ : ∃ z : Int32, z = y4 + (1 : Int32) := ⟨_, rfl⟩
      replace hf := bnd_at ex3 hf
      refine lv_iinc (v := x3) (lv' := [(4, .int x3), (0, .ref (ad 48)), (1, .int y1), (3, .int y3)]) hx hb dX12_copy_81 hl (k := 3) rfl (by rw [ex3]; rfl) (by decide) rfl (fun ls hl => ?_)
      clear ex3
      refine lv_goto (tgt := 59) hx hb dX12_copy_84 (by decide) ?_
      exact ih g2 y1 y3 x3 hf H locs ls h (lv_sub hl [1, 2, 3, 0] rfl)

set_option maxHeartbeats 4000000 in
set_option maxRecDepth 100000 in
theorem wX12_copy_28 (C : MCx p s m args meth c A RX12 cX12_copy 5 (some .int) D cs) {r : Int32} {g' : MS}  : ∀ (g : MS) (y1 : Int32) (y2 : Int32), fX12_copy_28 g y1 y2 = some (r, g') → ∀ (H : Heap) (locs : List Loc) (ls : Array Slot), MH D (MW cs ad g) A s H locs → lv_has ls 5 [(0, .ref (ad 48)), (1, .int y1), (2, .int y2)] → W p l e (rM 8) s m args below meth c H locs 0 0 (MQ below (GPost D (some (.int r)) (MW cs ad g') A) args s 0 0 A) (F0 m 28 ls []) := by
  have hx := C.1
  have hb := C.2.1
  intro g y1 y2 hf H locs ls h hl
  unfold fX12_copy_28 at hf
  refine lv_aload_n hx hb dX12_copy_28 rfl (lv_at hl 0 rfl) ?_
  refine mg_4 C h dX12_copy_29 ?_
  refine lv_if_le (tgt := 37) hx hb dX12_copy_32 (by decide) (fun hq => ?_) (fun hq => ?_)
  · replace hf := if_t hq hf
    clear hq
    refine lv_aload_n hx hb dX12_copy_37 rfl (lv_at hl 0 rfl) ?_
    refine lv_iload_n hx hb dX12_copy_38 rfl (lv_at hl 2 rfl) ?_
    replace hf := bndv_some hf
    obtain ⟨g4, hc, hf⟩ := hf
    refine m_callVv [.int y2] C h cv_X12_500 (qX12_aimsIn hc) rfl ⟨rfl, rfl⟩ ⟨Nat.le_of_ble_eq_true rfl, Nat.le_of_ble_eq_true rfl⟩ (m_recv C h) hl.1 rfl (Nat.le_of_ble_eq_true rfl) ⟨Nat.le_refl _, Nat.le_refl _⟩ dX12_copy_39 (fun H locs h => ?_)
    clear hc
    refine lv_aload_n hx hb dX12_copy_42 rfl (lv_at hl 0 rfl) ?_
    refine mg_46 C h dX12_copy_43 ?_
    refine lv_iload_n hx hb dX12_copy_46 rfl (lv_at hl 1 rfl) ?_
    replace hf := chk_some hf
    obtain ⟨hq, hf⟩ := hf
    refine ml_46 C h hq dX12_copy_47 ?_
    clear hq
    refine lv_aload_n hx hb dX12_copy_48 rfl (lv_at hl 0 rfl) ?_
    replace hf := bndc_some hf
    obtain ⟨x5, g6, hc, hf⟩ := hf
    refine m_callVi [] C h cv_X12_254 (qX12_size hc) rfl ⟨rfl, rfl⟩ ⟨Nat.le_of_ble_eq_true rfl, Nat.le_of_ble_eq_true rfl⟩ (m_recv C h) hl.1 rfl (Nat.le_of_ble_eq_true rfl) ⟨Nat.le_refl _, Nat.le_refl _⟩ dX12_copy_49 (fun H locs h => ?_)
    clear hc
    refine x_min tb_29_20 C hl.1 (Nat.le_of_ble_eq_true rfl) (Nat.le_of_ble_eq_true rfl) (Nat.le_refl _) (Nat.le_refl _) dX12_copy_52 ?_
    refine lv_topi (fun x7 ex7 => ?_)
    replace hf := bnd_at ex7 hf
    clear ex7
    refine lv_istore_n (lv' := [(3, .int x7), (0, .ref (ad 48)), (1, .int y1), (2, .int y2)]) hx hb dX12_copy_55 rfl hl (by decide) rfl (fun ls hl => ?_)
    refine lv_iconst (v := (0 : Int32)) hx hb dX12_copy_56 (by decide) ?_
    refine lv_istore (lv' := [(4, .int (0 : Int32)), (3, .int x7), (0, .ref (ad 48)), (1, .int y1), (2, .int y2)]) hx hb dX12_copy_57 hl (by decide) rfl (fun ls hl => ?_)
    exact wX12_copy_59 C fuel g6 y1 x7 (0 : Int32) hf H locs ls h (lv_sub hl [2, 3, 1, 0] rfl)
  · replace hf := if_f hq hf
    clear hq
    refine lv_iconst (v := (0 : Int32)) hx hb dX12_copy_35 (by decide) ?_
    cases hf
    exact m_iret C h dX12_copy_36

set_option maxHeartbeats 4000000 in
set_option maxRecDepth 100000 in
theorem qX12_copy {l : Launch} {D : va_G} {cs : Nat → ClassId} {ad : Nat → Nat} {r : Int32} {g' : MS} {g : MS}  {a0 : Int32} {a1 : Int32} (hf : fX12_copy g a0 a1 = some (r, g')) : GCon l D cs yX12_copy cX12_copy 5 (some .int) (rM 8) 0 0 [.ref (ad 48), .int a0, .int a1] (MW cs ad g) (some (.int r)) (MW cs ad g') := by
  refine GCon.of (by decide) (Nat.le_of_ble_eq_true rfl) ?_
  intro p e s m args below meth c A ls H locs C h hl
  have hx := C.1
  have hb := C.2.1
  have C : MCx p s m args meth c A RX12 cX12_copy 5 (some .int) D cs := C
  have hl : lv_has ls 5 [(0, .ref (ad 48)), (1, .int a0), (2, .int a1)] := hl
  unfold fX12_copy at hf
  refine lv_aload_n hx hb dX12_copy_0 rfl (lv_at hl 0 rfl) ?_
  refine lv_aload_n hx hb dX12_copy_1 rfl (lv_at hl 0 rfl) ?_
  refine lv_iload_n hx hb dX12_copy_2 rfl (lv_at hl 1 rfl) ?_
  replace hf := bndc_some hf
  obtain ⟨x8, g9, hc, hf⟩ := hf
  refine m_callVi [.int a0] C h cv_X12_369 (qX12_trayFault hc) rfl ⟨rfl, rfl⟩ ⟨Nat.le_of_ble_eq_true rfl, Nat.le_of_ble_eq_true rfl⟩ (m_recv C h) hl.1 rfl (Nat.le_of_ble_eq_true rfl) ⟨Nat.le_refl _, Nat.le_refl _⟩ dX12_copy_3 (fun H locs h => ?_)
  clear hc
  replace hf := bnd_ex hf
  obtain ⟨g10, eg10, hf⟩ := hf
  refine mp_4 C h dX12_copy_6 (fun H locs h => ?_)
  rw [← eg10] at h
  clear eg10
  refine lv_aload_n hx hb dX12_copy_9 rfl (lv_at hl 0 rfl) ?_
  refine mg_4 C h dX12_copy_10 ?_
  refine lv_if_ne (tgt := 28) hx hb dX12_copy_13 (by decide) (fun hq => ?_) (fun hq => ?_)
  · replace hf := if_tn hq hf
    clear hq
    exact wX12_copy_28 C g10 a0 a1 hf H locs ls h (lv_sub hl [0, 1, 2] rfl)
  · replace hf := if_t hq hf
    clear hq
    refine lv_iload_n hx hb dX12_copy_16 rfl (lv_at hl 2 rfl) ?_
    replace hf := bndv_some hf
    obtain ⟨x11, hc, hf⟩ := hf
    refine m_callSi [.int a1] C h cs_X12_497 (qX12_isFar hc) rfl ⟨rfl, rfl⟩ ⟨Nat.le_of_ble_eq_true rfl, Nat.le_of_ble_eq_true rfl⟩ hl.1 rfl (Nat.le_of_ble_eq_true rfl) ⟨Nat.le_refl _, Nat.le_refl _⟩ dX12_copy_17 (fun H locs h => ?_)
    clear hc
    refine lv_if_ne (tgt := 28) hx hb dX12_copy_20 (by decide) (fun hq => ?_) (fun hq => ?_)
    · replace hf := if_tn hq hf
      clear hq
      exact wX12_copy_28 C g10 a0 a1 hf H locs ls h (lv_sub hl [0, 1, 2] rfl)
    · replace hf := if_t hq hf
      clear hq
      refine lv_aload_n hx hb dX12_copy_23 rfl (lv_at hl 0 rfl) ?_
      refine lv_iconst (v := (3 : Int32)) hx hb dX12_copy_24 (by decide) ?_
      replace hf := bnd_ex hf
      obtain ⟨g12, eg12, hf⟩ := hf
      refine mp_4 C h dX12_copy_25 (fun H locs h => ?_)
      rw [← eg12] at h
      clear eg12
      exact wX12_copy_28 C g12 a0 a1 hf H locs ls h (lv_sub hl [0, 1, 2] rfl)

set_option maxHeartbeats 4000000 in
set_option maxRecDepth 100000 in
theorem wX12_image_38 (C : MCx p s m args meth c A RX12 cX12_image 3 none D cs) {g' : MS}  : ∀ (n : Nat) (g : MS) (y1 : Int32) (y2 : Int32), fX12_image_38 n g y1 y2 = some g' → ∀ (H : Heap) (locs : List Loc) (ls : Array Slot), MH D (MW cs ad g) A s H locs → lv_has ls 3 [(0, .ref (ad 48)), (1, .int y1), (2, .int y2)] → W p l e (rM 1) s m args below meth c H locs 0 0 (MQ below (GPost D none (MW cs ad g') A) args s 0 0 A) (F0 m 38 ls []) := by
  have hx := C.1
  have hb := C.2.1
  intro n
  induction n with
  | zero =>
    intro g y1 y2 hf
    exact absurd hf (by simp [fX12_image_38])
  | succ n ih =>
    intro g y1 y2 hf H locs ls h hl
    rw [fX12_image_38] at hf
    refine lv_iload_n hx hb dX12_image_38 rfl (lv_at hl 2 rfl) ?_
    refine lv_sipush (v := (2850 : Int32)) hx hb dX12_image_39 (by decide) ?_
    refine lv_icmp_ge (tgt := 69) hx hb dX12_image_42 (by decide) (fun hq => ?_) (fun hq => ?_)
    · replace hf := if_t hq hf
      clear hq
      cases hf
      exact m_vret C h dX12_image_69
    · replace hf := if_f hq hf
      clear hq
      refine lv_aload_n hx hb dX12_image_45 rfl (lv_at hl 0 rfl) ?_
      refine mg_2 C h dX12_image_46 ?_
      refine lv_sipush (v := (2850 : Int32)) hx hb dX12_image_49 (by decide) ?_
      refine lv_iload_n hx hb dX12_image_52 rfl (lv_at hl 1 rfl) ?_
      refine lv_imul hx hb dX12_image_53 ?_
      refine lv_iload_n hx hb dX12_image_54 rfl (lv_at hl 2 rfl) ?_
      refine lv_iadd hx hb dX12_image_55 ?_
      refine lv_aload_n hx hb dX12_image_56 rfl (lv_at hl 0 rfl) ?_
      refine mg_0 C h dX12_image_57 ?_
      refine lv_iload_n hx hb dX12_image_60 rfl (lv_at hl 2 rfl) ?_
      replace hf := chk_some hf
      obtain ⟨hq, hf⟩ := hf
      refine ml_0 C h hq dX12_image_61 ?_
      clear hq
      replace hf := chk_some hf
      obtain ⟨hq, hf⟩ := hf
      replace hf := bnd_ex hf
      obtain ⟨g1, eg1, hf⟩ := hf
      refine ms_2 C h hq dX12_image_62 (fun H locs h => ?_)
      rw [← eg1] at h
      clear hq eg1
      obtain ⟨x2, ex2⟩ : ∃ z : Int32, z = y2 + (1 : Int32) := ⟨_, rfl⟩
      replace hf := bnd_at ex2 hf
      refine lv_iinc (v := x2) (lv' := [(2, .int x2), (0, .ref (ad 48)), (1, .int y1)]) hx hb dX12_image_63 hl (k := 2) rfl (by rw [ex2]; rfl) (by decide) rfl (fun ls hl => ?_)
      clear ex2
      refine lv_goto (tgt := 38) hx hb dX12_image_66 (by decide) ?_
      exact ih g1 y1 x2 hf H locs ls h (lv_sub hl [1, 2, 0] rfl)

set_option maxHeartbeats 4000000 in
set_option maxRecDepth 100000 in
theorem wX12_image_18 (C : MCx p s m args meth c A RX12 cX12_image 3 none D cs) {g' : MS}  : ∀ (g : MS) (y1 : Int32) (t1 : Int32), fX12_image_18 g y1 t1 = some g' → ∀ (H : Heap) (locs : List Loc) (ls : Array Slot), MH D (MW cs ad g) A s H locs → lv_has ls 3 [(0, .ref (ad 48)), (1, .int y1)] → W p l e (rM 1) s m args below meth c H locs 0 0 (MQ below (GPost D none (MW cs ad g') A) args s 0 0 A) (F0 m 18 ls [.int t1, .ref (ad 48)]) := by
  have hx := C.1
  have hb := C.2.1
  intro g y1 t1 hf H locs ls h hl
  unfold fX12_image_18 at hf
  replace hf := bnd_ex hf
  obtain ⟨g3, eg3, hf⟩ := hf
  refine mp_4 C h dX12_image_18 (fun H locs h => ?_)
  rw [← eg3] at h
  clear eg3
  refine lv_aload_n hx hb dX12_image_21 rfl (lv_at hl 0 rfl) ?_
  refine mg_4 C h dX12_image_22 ?_
  refine lv_if_le (tgt := 29) hx hb dX12_image_25 (by decide) (fun hq => ?_) (fun hq => ?_)
  · replace hf := if_t hq hf
    clear hq
    refine lv_aload_n hx hb dX12_image_29 rfl (lv_at hl 0 rfl) ?_
    refine mg_3 C h dX12_image_30 ?_
    refine lv_iload_n hx hb dX12_image_33 rfl (lv_at hl 1 rfl) ?_
    refine lv_iconst (v := (1 : Int32)) hx hb dX12_image_34 (by decide) ?_
    replace hf := chk_some hf
    obtain ⟨hq, hf⟩ := hf
    replace hf := bnd_ex hf
    obtain ⟨g4, eg4, hf⟩ := hf
    refine ms_3 C h hq rfl dX12_image_35 (fun H locs h => ?_)
    rw [← eg4] at h
    clear hq eg4
    refine lv_iconst (v := (0 : Int32)) hx hb dX12_image_36 (by decide) ?_
    refine lv_istore_n (lv' := [(2, .int (0 : Int32)), (0, .ref (ad 48)), (1, .int y1)]) hx hb dX12_image_37 rfl hl (by decide) rfl (fun ls hl => ?_)
    exact wX12_image_38 C fuel g4 y1 (0 : Int32) hf H locs ls h (lv_sub hl [1, 2, 0] rfl)
  · replace hf := if_f hq hf
    clear hq
    cases hf
    exact m_vret C h dX12_image_28

set_option maxHeartbeats 4000000 in
set_option maxRecDepth 100000 in
theorem qX12_image {l : Launch} {D : va_G} {cs : Nat → ClassId} {ad : Nat → Nat} {g' : MS} {g : MS}  {a0 : Int32} (hf : fX12_image g a0 = some g') : GCon l D cs yX12_image cX12_image 3 none (rM 1) 0 0 [.ref (ad 48), .int a0] (MW cs ad g) none (MW cs ad g') := by
  refine GCon.of (by decide) (Nat.le_of_ble_eq_true rfl) ?_
  intro p e s m args below meth c A ls H locs C h hl
  have hx := C.1
  have hb := C.2.1
  have C : MCx p s m args meth c A RX12 cX12_image 3 none D cs := C
  have hl : lv_has ls 3 [(0, .ref (ad 48)), (1, .int a0)] := hl
  unfold fX12_image at hf
  refine lv_aload_n hx hb dX12_image_0 rfl (lv_at hl 0 rfl) ?_
  refine lv_iload_n hx hb dX12_image_1 rfl (lv_at hl 1 rfl) ?_
  refine lv_i2l hx hb dX12_image_2 rfl ?_
  refine lv_lconst (v := (0 : Int64)) hx hb dX12_image_3 rfl ?_
  refine lv_ldc2 hx hb C.2.2.2.1 (C.2.2.2.2.1 _ tb_70_6) dX12_image_4 ?_
  replace hf := bndv_some hf
  obtain ⟨x5, hc, hf⟩ := hf
  refine m_callSi [.long a0.toInt64, .long (0 : Int64), .long (2 : Int64)] C h cs_X12_147 (qX12_within hc) rfl ⟨rfl, rfl⟩ ⟨Nat.le_of_ble_eq_true rfl, Nat.le_of_ble_eq_true rfl⟩ hl.1 rfl (Nat.le_of_ble_eq_true rfl) ⟨Nat.le_refl _, Nat.le_refl _⟩ dX12_image_7 (fun H locs h => ?_)
  clear hc
  refine lv_if_eq (tgt := 17) hx hb dX12_image_10 (by decide) (fun hq => ?_) (fun hq => ?_)
  · replace hf := if_t hq hf
    clear hq
    refine lv_iconst (v := (1 : Int32)) hx hb dX12_image_17 (by decide) ?_
    exact wX12_image_18 C g a0 (1 : Int32) hf H locs ls h (lv_sub hl [0, 1] rfl)
  · replace hf := if_f hq hf
    clear hq
    refine lv_iconst (v := (0 : Int32)) hx hb dX12_image_13 (by decide) ?_
    refine lv_goto (tgt := 18) hx hb dX12_image_14 (by decide) ?_
    exact wX12_image_18 C g a0 (0 : Int32) hf H locs ls h (lv_sub hl [0, 1] rfl)

set_option maxHeartbeats 4000000 in
set_option maxRecDepth 100000 in
theorem wX12_restore_44 (C : MCx p s m args meth c A RX12 cX12_restore 3 none D cs) {g' : MS}  : ∀ (n : Nat) (g : MS) (y1 : Int32) (y2 : Int32), fX12_restore_44 n g y1 y2 = some g' → ∀ (H : Heap) (locs : List Loc) (ls : Array Slot), MH D (MW cs ad g) A s H locs → lv_has ls 3 [(0, .ref (ad 48)), (1, .int y1), (2, .int y2)] → W p l e (rM 1) s m args below meth c H locs 0 0 (MQ below (GPost D none (MW cs ad g') A) args s 0 0 A) (F0 m 44 ls []) := by
  have hx := C.1
  have hb := C.2.1
  intro n
  induction n with
  | zero =>
    intro g y1 y2 hf
    exact absurd hf (by simp [fX12_restore_44])
  | succ n ih =>
    intro g y1 y2 hf H locs ls h hl
    rw [fX12_restore_44] at hf
    refine lv_iload_n hx hb dX12_restore_44 rfl (lv_at hl 2 rfl) ?_
    refine lv_sipush (v := (2850 : Int32)) hx hb dX12_restore_45 (by decide) ?_
    refine lv_icmp_ge (tgt := 75) hx hb dX12_restore_48 (by decide) (fun hq => ?_) (fun hq => ?_)
    · replace hf := if_t hq hf
      clear hq
      cases hf
      exact m_vret C h dX12_restore_75
    · replace hf := if_f hq hf
      clear hq
      refine lv_aload_n hx hb dX12_restore_51 rfl (lv_at hl 0 rfl) ?_
      refine mg_0 C h dX12_restore_52 ?_
      refine lv_iload_n hx hb dX12_restore_55 rfl (lv_at hl 2 rfl) ?_
      refine lv_aload_n hx hb dX12_restore_56 rfl (lv_at hl 0 rfl) ?_
      refine mg_2 C h dX12_restore_57 ?_
      refine lv_sipush (v := (2850 : Int32)) hx hb dX12_restore_60 (by decide) ?_
      refine lv_iload_n hx hb dX12_restore_63 rfl (lv_at hl 1 rfl) ?_
      refine lv_imul hx hb dX12_restore_64 ?_
      refine lv_iload_n hx hb dX12_restore_65 rfl (lv_at hl 2 rfl) ?_
      refine lv_iadd hx hb dX12_restore_66 ?_
      replace hf := chk_some hf
      obtain ⟨hq, hf⟩ := hf
      refine ml_2 C h hq dX12_restore_67 ?_
      clear hq
      replace hf := chk_some hf
      obtain ⟨hq, hf⟩ := hf
      replace hf := bnd_ex hf
      obtain ⟨g1, eg1, hf⟩ := hf
      refine ms_0 C h hq dX12_restore_68 (fun H locs h => ?_)
      rw [← eg1] at h
      clear hq eg1
      obtain ⟨x2, ex2⟩ : ∃ z : Int32, z = y2 + (1 : Int32) := ⟨_, rfl⟩
      replace hf := bnd_at ex2 hf
      refine lv_iinc (v := x2) (lv' := [(2, .int x2), (0, .ref (ad 48)), (1, .int y1)]) hx hb dX12_restore_69 hl (k := 2) rfl (by rw [ex2]; rfl) (by decide) rfl (fun ls hl => ?_)
      clear ex2
      refine lv_goto (tgt := 44) hx hb dX12_restore_72 (by decide) ?_
      exact ih g1 y1 x2 hf H locs ls h (lv_sub hl [1, 2, 0] rfl)

set_option maxHeartbeats 4000000 in
set_option maxRecDepth 100000 in
theorem wX12_restore_31 (C : MCx p s m args meth c A RX12 cX12_restore 3 none D cs) {g' : MS}  : ∀ (g : MS) (y1 : Int32) (t1 : Int32), fX12_restore_31 g y1 t1 = some g' → ∀ (H : Heap) (locs : List Loc) (ls : Array Slot), MH D (MW cs ad g) A s H locs → lv_has ls 3 [(0, .ref (ad 48)), (1, .int y1)] → W p l e (rM 1) s m args below meth c H locs 0 0 (MQ below (GPost D none (MW cs ad g') A) args s 0 0 A) (F0 m 31 ls [.int t1, .ref (ad 48)]) := by
  have hx := C.1
  have hb := C.2.1
  intro g y1 t1 hf H locs ls h hl
  unfold fX12_restore_31 at hf
  replace hf := bnd_ex hf
  obtain ⟨g3, eg3, hf⟩ := hf
  refine mp_4 C h dX12_restore_31 (fun H locs h => ?_)
  rw [← eg3] at h
  clear eg3
  refine lv_aload_n hx hb dX12_restore_34 rfl (lv_at hl 0 rfl) ?_
  refine mg_4 C h dX12_restore_35 ?_
  refine lv_if_le (tgt := 42) hx hb dX12_restore_38 (by decide) (fun hq => ?_) (fun hq => ?_)
  · replace hf := if_t hq hf
    clear hq
    refine lv_iconst (v := (0 : Int32)) hx hb dX12_restore_42 (by decide) ?_
    refine lv_istore_n (lv' := [(2, .int (0 : Int32)), (0, .ref (ad 48)), (1, .int y1)]) hx hb dX12_restore_43 rfl hl (by decide) rfl (fun ls hl => ?_)
    exact wX12_restore_44 C fuel g3 y1 (0 : Int32) hf H locs ls h (lv_sub hl [1, 2, 0] rfl)
  · replace hf := if_f hq hf
    clear hq
    cases hf
    exact m_vret C h dX12_restore_41

set_option maxHeartbeats 4000000 in
set_option maxRecDepth 100000 in
theorem qX12_restore {l : Launch} {D : va_G} {cs : Nat → ClassId} {ad : Nat → Nat} {g' : MS} {g : MS}  {a0 : Int32} (hf : fX12_restore g a0 = some g') : GCon l D cs yX12_restore cX12_restore 3 none (rM 1) 0 0 [.ref (ad 48), .int a0] (MW cs ad g) none (MW cs ad g') := by
  refine GCon.of (by decide) (Nat.le_of_ble_eq_true rfl) ?_
  intro p e s m args below meth c A ls H locs C h hl
  have hx := C.1
  have hb := C.2.1
  have C : MCx p s m args meth c A RX12 cX12_restore 3 none D cs := C
  have hl : lv_has ls 3 [(0, .ref (ad 48)), (1, .int a0)] := hl
  unfold fX12_restore at hf
  refine lv_aload_n hx hb dX12_restore_0 rfl (lv_at hl 0 rfl) ?_
  refine lv_iload_n hx hb dX12_restore_1 rfl (lv_at hl 1 rfl) ?_
  refine lv_i2l hx hb dX12_restore_2 rfl ?_
  refine lv_lconst (v := (0 : Int64)) hx hb dX12_restore_3 rfl ?_
  refine lv_ldc2 hx hb C.2.2.2.1 (C.2.2.2.2.1 _ tb_70_6) dX12_restore_4 ?_
  replace hf := bndv_some hf
  obtain ⟨x4, hc, hf⟩ := hf
  refine m_callSi [.long a0.toInt64, .long (0 : Int64), .long (2 : Int64)] C h cs_X12_147 (qX12_within hc) rfl ⟨rfl, rfl⟩ ⟨Nat.le_of_ble_eq_true rfl, Nat.le_of_ble_eq_true rfl⟩ hl.1 rfl (Nat.le_of_ble_eq_true rfl) ⟨Nat.le_refl _, Nat.le_refl _⟩ dX12_restore_7 (fun H locs h => ?_)
  clear hc
  refine lv_if_ne (tgt := 17) hx hb dX12_restore_10 (by decide) (fun hq => ?_) (fun hq => ?_)
  · replace hf := if_tn hq hf
    clear hq
    refine lv_aload_n hx hb dX12_restore_17 rfl (lv_at hl 0 rfl) ?_
    refine mg_3 C h dX12_restore_18 ?_
    refine lv_iload_n hx hb dX12_restore_21 rfl (lv_at hl 1 rfl) ?_
    replace hf := chk_some hf
    obtain ⟨hq, hf⟩ := hf
    refine ml_3 C h hq dX12_restore_22 ?_
    clear hq
    refine lv_if_ne (tgt := 30) hx hb dX12_restore_23 (by decide) (fun hq => ?_) (fun hq => ?_)
    · replace hf := if_tn hq hf
      clear hq
      refine lv_iconst (v := (0 : Int32)) hx hb dX12_restore_30 (by decide) ?_
      exact wX12_restore_31 C g a0 (0 : Int32) hf H locs ls h (lv_sub hl [0, 1] rfl)
    · replace hf := if_t hq hf
      clear hq
      refine lv_iconst (v := (2 : Int32)) hx hb dX12_restore_26 (by decide) ?_
      refine lv_goto (tgt := 31) hx hb dX12_restore_27 (by decide) ?_
      exact wX12_restore_31 C g a0 (2 : Int32) hf H locs ls h (lv_sub hl [0, 1] rfl)
  · replace hf := if_t hq hf
    clear hq
    refine lv_iconst (v := (1 : Int32)) hx hb dX12_restore_13 (by decide) ?_
    refine lv_goto (tgt := 31) hx hb dX12_restore_14 (by decide) ?_
    exact wX12_restore_31 C g a0 (1 : Int32) hf H locs ls h (lv_sub hl [0, 1] rfl)

set_option maxHeartbeats 4000000 in
set_option maxRecDepth 100000 in
theorem wX12_outs_32 (C : MCx p s m args meth c A RX12 cX12_outs 3 (some .int) D cs) {r : Int32} {g' : MS}  {k4 : MS → Int32 → Int32 → Option (Int32 × MS)} (hk4 : ∀ (g : MS) (y1 : Int32) (y2 : Int32), k4 g y1 y2 = some (r, g') → ∀ (H : Heap) (locs : List Loc) (ls : Array Slot), MH D (MW cs ad g) A s H locs → lv_has ls 3 [(0, .ref (ad 48)), (1, .int y1), (2, .int y2)] → W p l e (rM 1) s m args below meth c H locs 0 0 (MQ below (GPost D (some (.int r)) (MW cs ad g') A) args s 0 0 A) (F0 m 4 ls [])) : ∀ (g : MS) (y2 : Int32) (t0 : Int32) (t1 : Int32), fX12_outs_32 k4 g y2 t0 t1 = some (r, g') → ∀ (H : Heap) (locs : List Loc) (ls : Array Slot), MH D (MW cs ad g) A s H locs → lv_has ls 3 [(0, .ref (ad 48)), (2, .int y2)] → W p l e (rM 1) s m args below meth c H locs 0 0 (MQ below (GPost D (some (.int r)) (MW cs ad g') A) args s 0 0 A) (F0 m 32 ls [.int t1, .int t0]) := by
  have hx := C.1
  have hb := C.2.1
  intro g y2 t0 t1 hf H locs ls h hl
  unfold fX12_outs_32 at hf
  refine lv_ior hx hb dX12_outs_32 ?_
  refine lv_topi (fun x1 ex1 => ?_)
  replace hf := bnd_at ex1 hf
  clear ex1
  refine lv_istore_n (lv' := [(1, .int x1), (0, .ref (ad 48)), (2, .int y2)]) hx hb dX12_outs_33 rfl hl (by decide) rfl (fun ls hl => ?_)
  obtain ⟨x2, ex2⟩ : ∃ z : Int32, z = y2 + (1 : Int32) := ⟨_, rfl⟩
  replace hf := bnd_at ex2 hf
  refine lv_iinc (v := x2) (lv' := [(2, .int x2), (1, .int x1), (0, .ref (ad 48))]) hx hb dX12_outs_34 hl (k := 2) rfl (by rw [ex2]; rfl) (by decide) rfl (fun ls hl => ?_)
  clear ex2
  refine lv_goto (tgt := 4) hx hb dX12_outs_37 (by decide) ?_
  exact hk4 g x1 x2 hf H locs ls h (lv_sub hl [2, 1, 0] rfl)

set_option maxHeartbeats 4000000 in
set_option maxRecDepth 100000 in
theorem wX12_outs_4 (C : MCx p s m args meth c A RX12 cX12_outs 3 (some .int) D cs) {r : Int32} {g' : MS}  : ∀ (n : Nat) (g : MS) (y1 : Int32) (y2 : Int32), fX12_outs_4 n g y1 y2 = some (r, g') → ∀ (H : Heap) (locs : List Loc) (ls : Array Slot), MH D (MW cs ad g) A s H locs → lv_has ls 3 [(0, .ref (ad 48)), (1, .int y1), (2, .int y2)] → W p l e (rM 1) s m args below meth c H locs 0 0 (MQ below (GPost D (some (.int r)) (MW cs ad g') A) args s 0 0 A) (F0 m 4 ls []) := by
  have hx := C.1
  have hb := C.2.1
  intro n
  induction n with
  | zero =>
    intro g y1 y2 hf
    exact absurd hf (by simp [fX12_outs_4])
  | succ n ih =>
    intro g y1 y2 hf H locs ls h hl
    rw [fX12_outs_4] at hf
    refine lv_iload_n hx hb dX12_outs_4 rfl (lv_at hl 2 rfl) ?_
    refine lv_aload_n hx hb dX12_outs_5 rfl (lv_at hl 0 rfl) ?_
    replace hf := bndc_some hf
    obtain ⟨x3, g4, hc, hf⟩ := hf
    refine m_callVi [] C h cv_X12_254 (qX12_size hc) rfl ⟨rfl, rfl⟩ ⟨Nat.le_of_ble_eq_true rfl, Nat.le_of_ble_eq_true rfl⟩ (m_recv C h) hl.1 rfl (Nat.le_of_ble_eq_true rfl) ⟨Nat.le_refl _, Nat.le_refl _⟩ dX12_outs_6 (fun H locs h => ?_)
    clear hc
    refine lv_icmp_ge (tgt := 40) hx hb dX12_outs_9 (by decide) (fun hq => ?_) (fun hq => ?_)
    · replace hf := if_t hq hf
      clear hq
      refine lv_iload_n hx hb dX12_outs_40 rfl (lv_at hl 1 rfl) ?_
      cases hf
      exact m_iret C h dX12_outs_41
    · replace hf := if_f hq hf
      clear hq
      refine lv_iload_n hx hb dX12_outs_12 rfl (lv_at hl 1 rfl) ?_
      refine lv_aload_n hx hb dX12_outs_13 rfl (lv_at hl 0 rfl) ?_
      refine mg_0 C h dX12_outs_14 ?_
      refine lv_bipush (v := (6 : Int32)) hx hb dX12_outs_17 (by decide) ?_
      refine lv_iload_n hx hb dX12_outs_19 rfl (lv_at hl 2 rfl) ?_
      refine lv_iadd hx hb dX12_outs_20 ?_
      replace hf := chk_some hf
      obtain ⟨hq, hf⟩ := hf
      refine ml_0 C h hq dX12_outs_21 ?_
      clear hq
      refine lv_if_ne (tgt := 31) hx hb dX12_outs_22 (by decide) (fun hq => ?_) (fun hq => ?_)
      · replace hf := if_tn hq hf
        clear hq
        refine lv_iconst (v := (0 : Int32)) hx hb dX12_outs_31 (by decide) ?_
        exact wX12_outs_32 C ih g4 y2 y1 (0 : Int32) hf H locs ls h (lv_sub hl [0, 2] rfl)
      · replace hf := if_t hq hf
        clear hq
        refine lv_iconst (v := (1 : Int32)) hx hb dX12_outs_25 (by decide) ?_
        refine lv_iload_n hx hb dX12_outs_26 rfl (lv_at hl 2 rfl) ?_
        refine x_ishl hx hb dX12_outs_27 ?_
        refine lv_goto (tgt := 32) hx hb dX12_outs_28 (by decide) ?_
        exact wX12_outs_32 C ih g4 y2 y1 (jshl (1 : Int32) y2) hf H locs ls h (lv_sub hl [0, 2] rfl)

set_option maxHeartbeats 4000000 in
set_option maxRecDepth 100000 in
theorem qX12_outs {l : Launch} {D : va_G} {cs : Nat → ClassId} {ad : Nat → Nat} {r : Int32} {g' : MS} {g : MS}  (hf : fX12_outs g = some (r, g')) : GCon l D cs yX12_outs cX12_outs 3 (some .int) (rM 1) 0 0 [.ref (ad 48)] (MW cs ad g) (some (.int r)) (MW cs ad g') := by
  refine GCon.of (by decide) (Nat.le_of_ble_eq_true rfl) ?_
  intro p e s m args below meth c A ls H locs C h hl
  have hx := C.1
  have hb := C.2.1
  have C : MCx p s m args meth c A RX12 cX12_outs 3 (some .int) D cs := C
  have hl : lv_has ls 3 [(0, .ref (ad 48))] := hl
  unfold fX12_outs at hf
  refine lv_iconst (v := (0 : Int32)) hx hb dX12_outs_0 (by decide) ?_
  refine lv_istore_n (lv' := [(1, .int (0 : Int32)), (0, .ref (ad 48))]) hx hb dX12_outs_1 rfl hl (by decide) rfl (fun ls hl => ?_)
  refine lv_iconst (v := (0 : Int32)) hx hb dX12_outs_2 (by decide) ?_
  refine lv_istore_n (lv' := [(2, .int (0 : Int32)), (1, .int (0 : Int32)), (0, .ref (ad 48))]) hx hb dX12_outs_3 rfl hl (by decide) rfl (fun ls hl => ?_)
  exact wX12_outs_4 C fuel g (0 : Int32) (0 : Int32) hf H locs ls h (lv_sub hl [2, 1, 0] rfl)

set_option maxHeartbeats 4000000 in
set_option maxRecDepth 100000 in
theorem wX12_weights_4 (C : MCx p s m args meth c A RX12 cX12_weights 3 (some .int) D cs) {r : Int32} {g' : MS}  : ∀ (n : Nat) (g : MS) (y1 : Int32) (y2 : Int32), fX12_weights_4 n g y1 y2 = some (r, g') → ∀ (H : Heap) (locs : List Loc) (ls : Array Slot), MH D (MW cs ad g) A s H locs → lv_has ls 3 [(0, .ref (ad 48)), (1, .int y1), (2, .int y2)] → W p l e (rM 1) s m args below meth c H locs 0 0 (MQ below (GPost D (some (.int r)) (MW cs ad g') A) args s 0 0 A) (F0 m 4 ls []) := by
  have hx := C.1
  have hb := C.2.1
  intro n
  induction n with
  | zero =>
    intro g y1 y2 hf
    exact absurd hf (by simp [fX12_weights_4])
  | succ n ih =>
    intro g y1 y2 hf H locs ls h hl
    rw [fX12_weights_4] at hf
    refine lv_iload_n hx hb dX12_weights_4 rfl (lv_at hl 2 rfl) ?_
    refine lv_aload_n hx hb dX12_weights_5 rfl (lv_at hl 0 rfl) ?_
    replace hf := bndc_some hf
    obtain ⟨x1, g2, hc, hf⟩ := hf
    refine m_callVi [] C h cv_X12_254 (qX12_size hc) rfl ⟨rfl, rfl⟩ ⟨Nat.le_of_ble_eq_true rfl, Nat.le_of_ble_eq_true rfl⟩ (m_recv C h) hl.1 rfl (Nat.le_of_ble_eq_true rfl) ⟨Nat.le_refl _, Nat.le_refl _⟩ dX12_weights_6 (fun H locs h => ?_)
    clear hc
    refine lv_icmp_ge (tgt := 30) hx hb dX12_weights_9 (by decide) (fun hq => ?_) (fun hq => ?_)
    · replace hf := if_t hq hf
      clear hq
      refine lv_iload_n hx hb dX12_weights_30 rfl (lv_at hl 1 rfl) ?_
      cases hf
      exact m_iret C h dX12_weights_31
    · replace hf := if_f hq hf
      clear hq
      refine lv_iload_n hx hb dX12_weights_12 rfl (lv_at hl 1 rfl) ?_
      refine lv_aload_n hx hb dX12_weights_13 rfl (lv_at hl 0 rfl) ?_
      refine mg_0 C h dX12_weights_14 ?_
      refine lv_bipush (v := (12 : Int32)) hx hb dX12_weights_17 (by decide) ?_
      refine lv_iload_n hx hb dX12_weights_19 rfl (lv_at hl 2 rfl) ?_
      refine lv_iadd hx hb dX12_weights_20 ?_
      replace hf := chk_some hf
      obtain ⟨hq, hf⟩ := hf
      refine ml_0 C h hq dX12_weights_21 ?_
      clear hq
      refine lv_iadd hx hb dX12_weights_22 ?_
      refine lv_topi (fun x3 ex3 => ?_)
      replace hf := bnd_at ex3 hf
      clear ex3
      refine lv_istore_n (lv' := [(1, .int x3), (0, .ref (ad 48)), (2, .int y2)]) hx hb dX12_weights_23 rfl hl (by decide) rfl (fun ls hl => ?_)
      obtain ⟨x4, ex4⟩ : ∃ z : Int32, z = y2 + (1 : Int32) := ⟨_, rfl⟩
      replace hf := bnd_at ex4 hf
      refine lv_iinc (v := x4) (lv' := [(2, .int x4), (1, .int x3), (0, .ref (ad 48))]) hx hb dX12_weights_24 hl (k := 2) rfl (by rw [ex4]; rfl) (by decide) rfl (fun ls hl => ?_)
      clear ex4
      refine lv_goto (tgt := 4) hx hb dX12_weights_27 (by decide) ?_
      exact ih g2 x3 x4 hf H locs ls h (lv_sub hl [2, 1, 0] rfl)

set_option maxHeartbeats 4000000 in
set_option maxRecDepth 100000 in
theorem qX12_weights {l : Launch} {D : va_G} {cs : Nat → ClassId} {ad : Nat → Nat} {r : Int32} {g' : MS} {g : MS}  (hf : fX12_weights g = some (r, g')) : GCon l D cs yX12_weights cX12_weights 3 (some .int) (rM 1) 0 0 [.ref (ad 48)] (MW cs ad g) (some (.int r)) (MW cs ad g') := by
  refine GCon.of (by decide) (Nat.le_of_ble_eq_true rfl) ?_
  intro p e s m args below meth c A ls H locs C h hl
  have hx := C.1
  have hb := C.2.1
  have C : MCx p s m args meth c A RX12 cX12_weights 3 (some .int) D cs := C
  have hl : lv_has ls 3 [(0, .ref (ad 48))] := hl
  unfold fX12_weights at hf
  refine lv_iconst (v := (0 : Int32)) hx hb dX12_weights_0 (by decide) ?_
  refine lv_istore_n (lv' := [(1, .int (0 : Int32)), (0, .ref (ad 48))]) hx hb dX12_weights_1 rfl hl (by decide) rfl (fun ls hl => ?_)
  refine lv_iconst (v := (0 : Int32)) hx hb dX12_weights_2 (by decide) ?_
  refine lv_istore_n (lv' := [(2, .int (0 : Int32)), (1, .int (0 : Int32)), (0, .ref (ad 48))]) hx hb dX12_weights_3 rfl hl (by decide) rfl (fun ls hl => ?_)
  exact wX12_weights_4 C fuel g (0 : Int32) (0 : Int32) hf H locs ls h (lv_sub hl [2, 1, 0] rfl)

set_option maxHeartbeats 4000000 in
set_option maxRecDepth 100000 in
theorem qX12_count {l : Launch} {D : va_G} {cs : Nat → ClassId} {ad : Nat → Nat} {r : Int32} {g' : MS} {g : MS}  {a0 : Int32} (hf : fX12_count g a0 = some (r, g')) : GCon l D cs yX12_count cX12_count 2 (some .int) (rM 3) 0 0 [.ref (ad 48), .int a0] (MW cs ad g) (some (.int r)) (MW cs ad g') := by
  refine GCon.of (by decide) (Nat.le_of_ble_eq_true rfl) ?_
  intro p e s m args below meth c A ls H locs C h hl
  have hx := C.1
  have hb := C.2.1
  have C : MCx p s m args meth c A RX12 cX12_count 2 (some .int) D cs := C
  have hl : lv_has ls 2 [(0, .ref (ad 48)), (1, .int a0)] := hl
  unfold fX12_count at hf
  refine lv_aload_n hx hb dX12_count_0 rfl (lv_at hl 0 rfl) ?_
  refine lv_iconst (v := (0 : Int32)) hx hb dX12_count_1 (by decide) ?_
  replace hf := bnd_ex hf
  obtain ⟨g1, eg1, hf⟩ := hf
  refine mp_4 C h dX12_count_2 (fun H locs h => ?_)
  rw [← eg1] at h
  clear eg1
  refine lv_aload_n hx hb dX12_count_5 rfl (lv_at hl 0 rfl) ?_
  replace hf := bndv_some hf
  obtain ⟨g2, hc, hf⟩ := hf
  refine m_callVv [] C h cv_X12_310 (qX12_aimsNow hc) rfl ⟨rfl, rfl⟩ ⟨Nat.le_of_ble_eq_true rfl, Nat.le_of_ble_eq_true rfl⟩ (m_recv C h) hl.1 rfl (Nat.le_of_ble_eq_true rfl) ⟨Nat.le_refl _, Nat.le_refl _⟩ dX12_count_6 (fun H locs h => ?_)
  clear hc
  refine lv_iload_n hx hb dX12_count_9 rfl (lv_at hl 1 rfl) ?_
  rcases Decidable.em (a0 = (0 : Int32)) with hq | q0
  · replace hf := if_t hq hf
    subst hq
    refine lv_tableIn (off := 46) (tgt := 56) hx hb dX12_count_10 (by decide) (by decide) (by decide) (by decide) ?_
    refine lv_aload_n hx hb dX12_count_56 rfl (lv_at hl 0 rfl) ?_
    refine mg_0 C h dX12_count_57 ?_
    refine lv_iconst (v := (0 : Int32)) hx hb dX12_count_60 (by decide) ?_
    replace hf := chk_some hf
    obtain ⟨hq, hf⟩ := hf
    refine ml_0 C h hq dX12_count_61 ?_
    clear hq
    cases hf
    exact m_iret C h dX12_count_62
  replace hf := if_f q0 hf
  rcases Decidable.em (a0 = (1 : Int32)) with hq | q1
  · replace hf := if_t hq hf
    subst hq
    refine lv_tableIn (off := 53) (tgt := 63) hx hb dX12_count_10 (by decide) (by decide) (by decide) (by decide) ?_
    refine lv_aload_n hx hb dX12_count_63 rfl (lv_at hl 0 rfl) ?_
    replace hf := bndc_some hf
    obtain ⟨x3, g4, hc, hf⟩ := hf
    refine m_callVi [] C h cv_X12_254 (qX12_size hc) rfl ⟨rfl, rfl⟩ ⟨Nat.le_of_ble_eq_true rfl, Nat.le_of_ble_eq_true rfl⟩ (m_recv C h) hl.1 rfl (Nat.le_of_ble_eq_true rfl) ⟨Nat.le_refl _, Nat.le_refl _⟩ dX12_count_64 (fun H locs h => ?_)
    clear hc
    cases hf
    exact m_iret C h dX12_count_67
  replace hf := if_f q1 hf
  rcases Decidable.em (a0 = (2 : Int32)) with hq | q2
  · replace hf := if_t hq hf
    subst hq
    refine lv_tableIn (off := 58) (tgt := 68) hx hb dX12_count_10 (by decide) (by decide) (by decide) (by decide) ?_
    refine lv_aload_n hx hb dX12_count_68 rfl (lv_at hl 0 rfl) ?_
    refine mg_0 C h dX12_count_69 ?_
    refine lv_bipush (v := (18 : Int32)) hx hb dX12_count_72 (by decide) ?_
    replace hf := chk_some hf
    obtain ⟨hq, hf⟩ := hf
    refine ml_0 C h hq dX12_count_74 ?_
    clear hq
    cases hf
    exact m_iret C h dX12_count_75
  replace hf := if_f q2 hf
  rcases Decidable.em (a0 = (3 : Int32)) with hq | q3
  · replace hf := if_t hq hf
    subst hq
    refine lv_tableIn (off := 66) (tgt := 76) hx hb dX12_count_10 (by decide) (by decide) (by decide) (by decide) ?_
    refine lv_aload_n hx hb dX12_count_76 rfl (lv_at hl 0 rfl) ?_
    replace hf := bndc_some hf
    obtain ⟨x5, g6, hc, hf⟩ := hf
    refine m_callVi [] C h cv_X12_534 (qX12_outs hc) rfl ⟨rfl, rfl⟩ ⟨Nat.le_of_ble_eq_true rfl, Nat.le_of_ble_eq_true rfl⟩ (m_recv C h) hl.1 rfl (Nat.le_of_ble_eq_true rfl) ⟨Nat.le_refl _, Nat.le_refl _⟩ dX12_count_77 (fun H locs h => ?_)
    clear hc
    cases hf
    exact m_iret C h dX12_count_80
  replace hf := if_f q3 hf
  rcases Decidable.em (a0 = (4 : Int32)) with hq | q4
  · replace hf := if_t hq hf
    subst hq
    refine lv_tableIn (off := 71) (tgt := 81) hx hb dX12_count_10 (by decide) (by decide) (by decide) (by decide) ?_
    refine lv_aload_n hx hb dX12_count_81 rfl (lv_at hl 0 rfl) ?_
    replace hf := bndc_some hf
    obtain ⟨x7, g8, hc, hf⟩ := hf
    refine m_callVi [] C h cv_X12_457 (qX12_kneesBy hc) rfl ⟨rfl, rfl⟩ ⟨Nat.le_of_ble_eq_true rfl, Nat.le_of_ble_eq_true rfl⟩ (m_recv C h) hl.1 rfl (Nat.le_of_ble_eq_true rfl) ⟨Nat.le_refl _, Nat.le_refl _⟩ dX12_count_82 (fun H locs h => ?_)
    clear hc
    cases hf
    exact m_iret C h dX12_count_85
  replace hf := if_f q4 hf
  rcases Decidable.em (a0 = (5 : Int32)) with hq | q5
  · replace hf := if_t hq hf
    subst hq
    refine lv_tableIn (off := 76) (tgt := 86) hx hb dX12_count_10 (by decide) (by decide) (by decide) (by decide) ?_
    refine lv_aload_n hx hb dX12_count_86 rfl (lv_at hl 0 rfl) ?_
    replace hf := bndc_some hf
    obtain ⟨x9, g10, hc, hf⟩ := hf
    refine m_callVi [] C h cv_X12_537 (qX12_weights hc) rfl ⟨rfl, rfl⟩ ⟨Nat.le_of_ble_eq_true rfl, Nat.le_of_ble_eq_true rfl⟩ (m_recv C h) hl.1 rfl (Nat.le_of_ble_eq_true rfl) ⟨Nat.le_refl _, Nat.le_refl _⟩ dX12_count_87 (fun H locs h => ?_)
    clear hc
    cases hf
    exact m_iret C h dX12_count_90
  replace hf := if_f q5 hf
  rcases Decidable.em (a0 = (6 : Int32)) with hq | q6
  · replace hf := if_t hq hf
    subst hq
    refine lv_tableIn (off := 81) (tgt := 91) hx hb dX12_count_10 (by decide) (by decide) (by decide) (by decide) ?_
    refine lv_aload_n hx hb dX12_count_91 rfl (lv_at hl 0 rfl) ?_
    refine mg_0 C h dX12_count_92 ?_
    refine lv_iconst (v := (5 : Int32)) hx hb dX12_count_95 (by decide) ?_
    replace hf := chk_some hf
    obtain ⟨hq, hf⟩ := hf
    refine ml_0 C h hq dX12_count_96 ?_
    clear hq
    cases hf
    exact m_iret C h dX12_count_97
  replace hf := if_f q6 hf
  rcases Decidable.em (a0 = (7 : Int32)) with hq | q7
  · replace hf := if_t hq hf
    subst hq
    refine lv_tableIn (off := 88) (tgt := 98) hx hb dX12_count_10 (by decide) (by decide) (by decide) (by decide) ?_
    refine lv_aload_n hx hb dX12_count_98 rfl (lv_at hl 0 rfl) ?_
    refine mg_6 C h dX12_count_99 ?_
    cases hf
    exact m_iret C h dX12_count_102
  replace hf := if_f q7 hf
  refine lv_tableOut (tgt := 103) hx hb dX12_count_10 (by
      have z0 := i32_ne q0
      have z1 := i32_ne q1
      have z2 := i32_ne q2
      have z3 := i32_ne q3
      have z4 := i32_ne q4
      have z5 := i32_ne q5
      have z6 := i32_ne q6
      have z7 := i32_ne q7
      simp only [i32v_0, i32v_1, i32v_2, i32v_3, i32v_4, i32v_5, i32v_6, i32v_7] at z0 z1 z2 z3 z4 z5 z6 z7
      omega) (by decide) ?_
  clear q0 q1 q2 q3 q4 q5 q6 q7
  refine lv_iconst (v := (-1 : Int32)) hx hb dX12_count_103 (by decide) ?_
  cases hf
  exact m_iret C h dX12_count_104
end
