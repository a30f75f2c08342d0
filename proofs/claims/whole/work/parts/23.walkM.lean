section
variable {p : Program} {l : Launch} {e : Env} {s : State} {m : MethodId} {args : Array Value} {below : List Frame} {meth : Method} {c : Code} {D : va_G} {cs : Nat → ClassId} {ad : Nat → Nat} {A : Nat → Prop}
set_option maxHeartbeats 4000000 in
set_option maxRecDepth 100000 in
theorem wX12_knees_23 (C : MCx p s m args meth c A RX12 cX12_knees 2 (some .int) D cs)  {r : Int32} {g' : MS}  : ∀ (g : MS) (y1 : Int32), fX12_knees_23 g y1 = some (r, g') → ∀ (H : Heap) (locs : List Loc) (ls : Array Slot), MH D (MW cs ad g) A s H locs → lv_has ls 2 [(0, .ref (ad 48)), (1, .int y1)] → W p l e (rM 20) s m args below meth c H locs 0 0 (MQ below (GPost D (some (.int r)) (MW cs ad g') A) args s 0 0 A) (F0 m 23 ls []) := by
  have hx := C.1
  have hb := C.2.1
  intro g y1 hf H locs ls h hl
  unfold fX12_knees_23 at hf
  refine lv_aload_n hx hb dX12_knees_23 rfl (lv_at hl 0 rfl) ?_
  refine lv_iconst (v := (2 : Int32)) hx hb dX12_knees_24 (by decide) ?_
  replace hf := bndv_some hf
  obtain ⟨g1, hc, hf⟩ := hf
  refine m_callVv [.int (2 : Int32)] C h cv_X12_474 (qX12_asksRows hc) rfl ⟨rfl, rfl⟩ ⟨Nat.le_of_ble_eq_true rfl, Nat.le_of_ble_eq_true rfl⟩ (m_recv C h) hl.1 rfl (Nat.le_of_ble_eq_true rfl) ⟨Nat.le_refl _, Nat.le_refl _⟩ dX12_knees_25 (fun H locs h => ?_)
  clear hc
  refine lv_iload_n hx hb dX12_knees_28 rfl (lv_at hl 1 rfl) ?_
  refine lv_if_ne (tgt := 39) hx hb dX12_knees_29 (by decide) (fun hq => ?_) (fun hq => ?_)
  · replace hf := if_tn hq hf
    clear hq
    refine lv_iload_n hx hb dX12_knees_39 rfl (lv_at hl 1 rfl) ?_
    refine lv_iconst (v := (1 : Int32)) hx hb dX12_knees_40 (by decide) ?_
    refine lv_icmp_ne (tgt := 51) hx hb dX12_knees_41 (by decide) (fun hq => ?_) (fun hq => ?_)
    · replace hf := if_tn hq hf
      clear hq
      refine lv_aload_n hx hb dX12_knees_51 rfl (lv_at hl 0 rfl) ?_
      refine mg_29 C h dX12_knees_52 ?_
      refine lv_iload_n hx hb dX12_knees_55 rfl (lv_at hl 1 rfl) ?_
      refine lv_bipush (v := (10 : Int32)) hx hb dX12_knees_56 (by decide) ?_
      refine lv_isub hx hb dX12_knees_58 ?_
      replace hf := chk_some hf
      obtain ⟨hq, hf⟩ := hf
      refine ml_29 C h hq dX12_knees_59 ?_
      clear hq
      cases hf
      exact m_iret C h dX12_knees_60
    · replace hf := if_t hq hf
      clear hq
      refine lv_aload_n hx hb dX12_knees_44 rfl (lv_at hl 0 rfl) ?_
      refine mg_36 C h dX12_knees_45 ?_
      refine lv_goto (tgt := 60) hx hb dX12_knees_48 (by decide) ?_
      cases hf
      exact m_iret C h dX12_knees_60
  · replace hf := if_t hq hf
    clear hq
    refine lv_aload_n hx hb dX12_knees_32 rfl (lv_at hl 0 rfl) ?_
    refine mg_37 C h dX12_knees_33 ?_
    refine lv_goto (tgt := 60) hx hb dX12_knees_36 (by decide) ?_
    cases hf
    exact m_iret C h dX12_knees_60

set_option maxHeartbeats 4000000 in
set_option maxRecDepth 100000 in
theorem qX12_knees {l : Launch} {D : va_G} {cs : Nat → ClassId} {ad : Nat → Nat} {r : Int32} {g' : MS} {g : MS}  {a0 : Int32} (hf : fX12_knees g a0 = some (r, g')) : GCon l D cs yX12_knees cX12_knees 2 (some .int) (rM 20) 0 0 [.ref (ad 48), .int a0] (MW cs ad g) (some (.int r)) (MW cs ad g') := by
  refine GCon.of (by decide) (Nat.le_of_ble_eq_true rfl) ?_
  intro p e s m args below meth c A ls H locs C h hl
  have hx := C.1
  have hb := C.2.1
  have C : MCx p s m args meth c A RX12 cX12_knees 2 (some .int) D cs := C
  have hl : lv_has ls 2 [(0, .ref (ad 48)), (1, .int a0)] := hl
  unfold fX12_knees at hf
  refine lv_aload_n hx hb dX12_knees_0 rfl (lv_at hl 0 rfl) ?_
  refine lv_iconst (v := (0 : Int32)) hx hb dX12_knees_1 (by decide) ?_
  replace hf := bnd_ex hf
  obtain ⟨g2, eg2, hf⟩ := hf
  refine mp_4 C h dX12_knees_2 (fun H locs h => ?_)
  rw [← eg2] at h
  clear eg2
  refine lv_iload_n hx hb dX12_knees_5 rfl (lv_at hl 1 rfl) ?_
  refine lv_iconst (v := (1 : Int32)) hx hb dX12_knees_6 (by decide) ?_
  refine lv_icmp_eq (tgt := 23) hx hb dX12_knees_7 (by decide) (fun hq => ?_) (fun hq => ?_)
  · replace hf := if_t hq hf
    clear hq
    exact wX12_knees_23 C g2 a0 hf H locs ls h (lv_sub hl [0, 1] rfl)
  · replace hf := if_f hq hf
    clear hq
    refine lv_iload_n hx hb dX12_knees_10 rfl (lv_at hl 1 rfl) ?_
    replace hf := bndv_some hf
    obtain ⟨x3, hc, hf⟩ := hf
    refine m_callSi [.int a0] C h cs_X12_471 (qX12_isWhat hc) rfl ⟨rfl, rfl⟩ ⟨Nat.le_of_ble_eq_true rfl, Nat.le_of_ble_eq_true rfl⟩ hl.1 rfl (Nat.le_of_ble_eq_true rfl) ⟨Nat.le_refl _, Nat.le_refl _⟩ dX12_knees_11 (fun H locs h => ?_)
    clear hc
    refine lv_if_ne (tgt := 23) hx hb dX12_knees_14 (by decide) (fun hq => ?_) (fun hq => ?_)
    · replace hf := if_tn hq hf
      clear hq
      exact wX12_knees_23 C g2 a0 hf H locs ls h (lv_sub hl [0, 1] rfl)
    · replace hf := if_t hq hf
      clear hq
      refine lv_aload_n hx hb dX12_knees_17 rfl (lv_at hl 0 rfl) ?_
      refine lv_iconst (v := (1 : Int32)) hx hb dX12_knees_18 (by decide) ?_
      replace hf := bndc_some hf
      obtain ⟨x4, g5, hc, hf⟩ := hf
      refine m_callVi [.int (1 : Int32)] C h cv_X12_239 (qX12_fails hc) rfl ⟨rfl, rfl⟩ ⟨Nat.le_of_ble_eq_true rfl, Nat.le_of_ble_eq_true rfl⟩ (m_recv C h) hl.1 rfl (Nat.le_of_ble_eq_true rfl) ⟨Nat.le_refl _, Nat.le_refl _⟩ dX12_knees_19 (fun H locs h => ?_)
      clear hc
      cases hf
      exact m_iret C h dX12_knees_22

set_option maxHeartbeats 4000000 in
set_option maxRecDepth 100000 in
theorem wX12_laysRound_27 (C : MCx p s m args meth c A RX12 cX12_laysRound 2 none D cs)  {g' : MS}  : ∀ (n : Nat) (g : MS) (y1 : Int32), fX12_laysRound_27 n g y1 = some g' → ∀ (H : Heap) (locs : List Loc) (ls : Array Slot), MH D (MW cs ad g) A s H locs → lv_has ls 2 [(0, .ref (ad 48)), (1, .int y1)] → W p l e (rM 6) s m args below meth c H locs 0 0 (MQ below (GPost D none (MW cs ad g') A) args s 0 0 A) (F0 m 27 ls []) := by
  have hx := C.1
  have hb := C.2.1
  intro n
  induction n with
  | zero =>
    intro g y1 hf
    exact absurd hf (by simp [fX12_laysRound_27])
  | succ n ih =>
    intro g y1 hf H locs ls h hl
    rw [fX12_laysRound_27] at hf
    refine lv_aload_n hx hb dX12_laysRound_27 rfl (lv_at hl 0 rfl) ?_
    refine mg_39 C h dX12_laysRound_28 ?_
    refine lv_aload_n hx hb dX12_laysRound_31 rfl (lv_at hl 0 rfl) ?_
    replace hf := bndc_some hf
    obtain ⟨x1, g2, hc, hf⟩ := hf
    refine m_callVi [] C h cv_X12_460 (qX12_lookCode hc) rfl ⟨rfl, rfl⟩ ⟨Nat.le_of_ble_eq_true rfl, Nat.le_of_ble_eq_true rfl⟩ (m_recv C h) hl.1 rfl (Nat.le_of_ble_eq_true rfl) ⟨Nat.le_refl _, Nat.le_refl _⟩ dX12_laysRound_32 (fun H locs h => ?_)
    clear hc
    replace hf := chk_some hf
    obtain ⟨hq, hf⟩ := hf
    refine ml_39 C h hq dX12_laysRound_35 ?_
    clear hq
    refine lv_iconst (v := (-1 : Int32)) hx hb dX12_laysRound_36 (by decide) ?_
    refine lv_icmp_ne (tgt := 60) hx hb dX12_laysRound_37 (by decide) (fun hq => ?_) (fun hq => ?_)
    · replace hf := if_tn hq hf
      clear hq
      refine lv_aload_n hx hb dX12_laysRound_60 rfl (lv_at hl 0 rfl) ?_
      refine lv_aload_n hx hb dX12_laysRound_61 rfl (lv_at hl 0 rfl) ?_
      refine mg_39 C h dX12_laysRound_62 ?_
      refine lv_aload_n hx hb dX12_laysRound_65 rfl (lv_at hl 0 rfl) ?_
      replace hf := bndc_some hf
      obtain ⟨x3, g4, hc, hf⟩ := hf
      refine m_callVi [] C h cv_X12_460 (qX12_lookCode hc) rfl ⟨rfl, rfl⟩ ⟨Nat.le_of_ble_eq_true rfl, Nat.le_of_ble_eq_true rfl⟩ (m_recv C h) hl.1 rfl (Nat.le_of_ble_eq_true rfl) ⟨Nat.le_refl _, Nat.le_refl _⟩ dX12_laysRound_66 (fun H locs h => ?_)
      clear hc
      replace hf := chk_some hf
      obtain ⟨hq, hf⟩ := hf
      refine ml_39 C h hq dX12_laysRound_69 ?_
      clear hq
      replace hf := bnd_ex hf
      obtain ⟨g5, eg5, hf⟩ := hf
      refine mp_40 C h dX12_laysRound_70 (fun H locs h => ?_)
      rw [← eg5] at h
      clear eg5
      refine lv_aload_n hx hb dX12_laysRound_73 rfl (lv_at hl 0 rfl) ?_
      refine lv_iload_n hx hb dX12_laysRound_74 rfl (lv_at hl 1 rfl) ?_
      refine lv_aload_n hx hb dX12_laysRound_75 rfl (lv_at hl 0 rfl) ?_
      refine mg_40 C h dX12_laysRound_76 ?_
      refine lv_isub hx hb dX12_laysRound_79 ?_
      replace hf := bnd_ex hf
      obtain ⟨g6, eg6, hf⟩ := hf
      refine mp_41 C h dX12_laysRound_80 (fun H locs h => ?_)
      rw [← eg6] at h
      clear eg6
      cases hf
      exact m_vret C h dX12_laysRound_83
    · replace hf := if_t hq hf
      clear hq
      refine lv_aload_n hx hb dX12_laysRound_40 rfl (lv_at hl 0 rfl) ?_
      refine mg_39 C h dX12_laysRound_41 ?_
      refine lv_aload_n hx hb dX12_laysRound_44 rfl (lv_at hl 0 rfl) ?_
      replace hf := bndc_some hf
      obtain ⟨x7, g8, hc, hf⟩ := hf
      refine m_callVi [] C h cv_X12_460 (qX12_lookCode hc) rfl ⟨rfl, rfl⟩ ⟨Nat.le_of_ble_eq_true rfl, Nat.le_of_ble_eq_true rfl⟩ (m_recv C h) hl.1 rfl (Nat.le_of_ble_eq_true rfl) ⟨Nat.le_refl _, Nat.le_refl _⟩ dX12_laysRound_45 (fun H locs h => ?_)
      clear hc
      refine lv_iload_n hx hb dX12_laysRound_48 rfl (lv_at hl 1 rfl) ?_
      replace hf := chk_some hf
      obtain ⟨hq, hf⟩ := hf
      replace hf := bnd_ex hf
      obtain ⟨g9, eg9, hf⟩ := hf
      refine ms_39 C h hq dX12_laysRound_49 (fun H locs h => ?_)
      rw [← eg9] at h
      clear hq eg9
      refine lv_aload_n hx hb dX12_laysRound_50 rfl (lv_at hl 0 rfl) ?_
      replace hf := bndv_some hf
      obtain ⟨g10, hc, hf⟩ := hf
      refine m_callVv [] C h cv_X12_334 (qX12_minute hc) rfl ⟨rfl, rfl⟩ ⟨Nat.le_of_ble_eq_true rfl, Nat.le_of_ble_eq_true rfl⟩ (m_recv C h) hl.1 rfl (Nat.le_of_ble_eq_true rfl) ⟨Nat.le_refl _, Nat.le_refl _⟩ dX12_laysRound_51 (fun H locs h => ?_)
      clear hc
      obtain ⟨x11, ex11⟩ : ∃ z : Int32, z = y1 + (1 : Int32) := ⟨_, rfl⟩
      replace hf := bnd_at ex11 hf
      refine lv_iinc (v := x11) (lv' := [(1, .int x11), (0, .ref (ad 48))]) hx hb dX12_laysRound_54 hl (k := 1) rfl (by rw [ex11]; rfl) (by decide) rfl (fun ls hl => ?_)
      clear ex11
      refine lv_goto (tgt := 27) hx hb dX12_laysRound_57 (by decide) ?_
      exact ih g10 x11 hf H locs ls h (lv_sub hl [1, 0] rfl)

set_option maxHeartbeats 4000000 in
set_option maxRecDepth 100000 in
theorem wX12_laysRound_2 (C : MCx p s m args meth c A RX12 cX12_laysRound 2 none D cs)  {g' : MS}  : ∀ (n : Nat) (g : MS) (y1 : Int32), fX12_laysRound_2 n g y1 = some g' → ∀ (H : Heap) (locs : List Loc) (ls : Array Slot), MH D (MW cs ad g) A s H locs → lv_has ls 2 [(0, .ref (ad 48)), (1, .int y1)] → W p l e (rM 6) s m args below meth c H locs 0 0 (MQ below (GPost D none (MW cs ad g') A) args s 0 0 A) (F0 m 2 ls []) := by
  have hx := C.1
  have hb := C.2.1
  intro n
  induction n with
  | zero =>
    intro g y1 hf
    exact absurd hf (by simp [fX12_laysRound_2])
  | succ n ih =>
    intro g y1 hf H locs ls h hl
    rw [fX12_laysRound_2] at hf
    refine lv_iload_n hx hb dX12_laysRound_2 rfl (lv_at hl 1 rfl) ?_
    refine lv_ldc hx hb C.2.2.2.1 (C.2.2.2.2.1 _ tb_7_20) dX12_laysRound_3 ?_
    refine lv_icmp_ge (tgt := 21) hx hb dX12_laysRound_5 (by decide) (fun hq => ?_) (fun hq => ?_)
    · replace hf := if_t hq hf
      clear hq
      refine lv_aload_n hx hb dX12_laysRound_21 rfl (lv_at hl 0 rfl) ?_
      replace hf := bndv_some hf
      obtain ⟨g12, hc, hf⟩ := hf
      refine m_callVv [] C h cv_X12_310 (qX12_aimsNow hc) rfl ⟨rfl, rfl⟩ ⟨Nat.le_of_ble_eq_true rfl, Nat.le_of_ble_eq_true rfl⟩ (m_recv C h) hl.1 rfl (Nat.le_of_ble_eq_true rfl) ⟨Nat.le_refl _, Nat.le_refl _⟩ dX12_laysRound_22 (fun H locs h => ?_)
      clear hc
      refine lv_iconst (v := (0 : Int32)) hx hb dX12_laysRound_25 (by decide) ?_
      refine lv_istore_n (lv' := [(1, .int (0 : Int32)), (0, .ref (ad 48))]) hx hb dX12_laysRound_26 rfl hl (by decide) rfl (fun ls hl => ?_)
      exact wX12_laysRound_27 C fuel g12 (0 : Int32) hf H locs ls h (lv_sub hl [1, 0] rfl)
    · replace hf := if_f hq hf
      clear hq
      refine lv_aload_n hx hb dX12_laysRound_8 rfl (lv_at hl 0 rfl) ?_
      refine mg_39 C h dX12_laysRound_9 ?_
      refine lv_iload_n hx hb dX12_laysRound_12 rfl (lv_at hl 1 rfl) ?_
      refine lv_iconst (v := (-1 : Int32)) hx hb dX12_laysRound_13 (by decide) ?_
      replace hf := chk_some hf
      obtain ⟨hq, hf⟩ := hf
      replace hf := bnd_ex hf
      obtain ⟨g13, eg13, hf⟩ := hf
      refine ms_39 C h hq dX12_laysRound_14 (fun H locs h => ?_)
      rw [← eg13] at h
      clear hq eg13
      obtain ⟨x14, ex14⟩ : ∃ z : Int32, z = y1 + (1 : Int32) := ⟨_, rfl⟩
      replace hf := bnd_at ex14 hf
      refine lv_iinc (v := x14) (lv' := [(1, .int x14), (0, .ref (ad 48))]) hx hb dX12_laysRound_15 hl (k := 1) rfl (by rw [ex14]; rfl) (by decide) rfl (fun ls hl => ?_)
      clear ex14
      refine lv_goto (tgt := 2) hx hb dX12_laysRound_18 (by decide) ?_
      exact ih g13 x14 hf H locs ls h (lv_sub hl [1, 0] rfl)

set_option maxHeartbeats 4000000 in
set_option maxRecDepth 100000 in
theorem qX12_laysRound {l : Launch} {D : va_G} {cs : Nat → ClassId} {ad : Nat → Nat} {g' : MS} {g : MS}  (hf : fX12_laysRound g = some g') : GCon l D cs yX12_laysRound cX12_laysRound 2 none (rM 6) 0 0 [.ref (ad 48)] (MW cs ad g) none (MW cs ad g') := by
  refine GCon.of (by decide) (Nat.le_of_ble_eq_true rfl) ?_
  intro p e s m args below meth c A ls H locs C h hl
  have hx := C.1
  have hb := C.2.1
  have C : MCx p s m args meth c A RX12 cX12_laysRound 2 none D cs := C
  have hl : lv_has ls 2 [(0, .ref (ad 48))] := hl
  unfold fX12_laysRound at hf
  refine lv_iconst (v := (0 : Int32)) hx hb dX12_laysRound_0 (by decide) ?_
  refine lv_istore_n (lv' := [(1, .int (0 : Int32)), (0, .ref (ad 48))]) hx hb dX12_laysRound_1 rfl hl (by decide) rfl (fun ls hl => ?_)
  exact wX12_laysRound_2 C fuel g (0 : Int32) hf H locs ls h (lv_sub hl [1, 0] rfl)

set_option maxHeartbeats 4000000 in
set_option maxRecDepth 100000 in
theorem wX12_aimsIn_39 (C : MCx p s m args meth c A RX12 cX12_aimsIn 4 none D cs)  {g' : MS}  : ∀ (n : Nat) (g : MS) (y2 : Int32) (y3 : Int32), fX12_aimsIn_39 n g y2 y3 = some g' → ∀ (H : Heap) (locs : List Loc) (ls : Array Slot), MH D (MW cs ad g) A s H locs → lv_has ls 4 [(0, .ref (ad 48)), (2, .int y2), (3, .int y3)] → W p l e (rM 7) s m args below meth c H locs 0 0 (MQ below (GPost D none (MW cs ad g') A) args s 0 0 A) (F0 m 39 ls []) := by
  have hx := C.1
  have hb := C.2.1
  intro n
  induction n with
  | zero =>
    intro g y2 y3 hf
    exact absurd hf (by simp [fX12_aimsIn_39])
  | succ n ih =>
    intro g y2 y3 hf H locs ls h hl
    rw [fX12_aimsIn_39] at hf
    refine lv_iload_n hx hb dX12_aimsIn_39 rfl (lv_at hl 2 rfl) ?_
    refine lv_iload_n hx hb dX12_aimsIn_40 rfl (lv_at hl 1 rfl) ?_
    refine lv_icmp_ge (tgt := 54) hx hb dX12_aimsIn_41 (by decide) (fun hq => ?_) (fun hq => ?_)
    · replace hf := if_t hq hf
      clear hq
      cases hf
      exact m_vret C h dX12_aimsIn_54
    · replace hf := if_f hq hf
      clear hq
      refine lv_aload_n hx hb dX12_aimsIn_44 rfl (lv_at hl 0 rfl) ?_
      replace hf := bndv_some hf
      obtain ⟨g1, hc, hf⟩ := hf
      refine m_callVv [] C h cv_X12_334 (qX12_minute hc) rfl ⟨rfl, rfl⟩ ⟨Nat.le_of_ble_eq_true rfl, Nat.le_of_ble_eq_true rfl⟩ (m_recv C h) hl.1 rfl (Nat.le_of_ble_eq_true rfl) ⟨Nat.le_refl _, Nat.le_refl _⟩ dX12_aimsIn_45 (fun H locs h => ?_)
      clear hc
      obtain ⟨x2, ex2⟩ : ∃ z : Int32, z = y3 + (1 : Int32) := ⟨_, rfl⟩
      replace hf := bnd_at ex2 hf
      refine lv_iinc (v := x2) (lv' := [(3, .int x2), (0, .ref (ad 48)), (2, .int y2)]) hx hb dX12_aimsIn_48 hl (k := 2) rfl (by rw [ex2]; rfl) (by decide) rfl (fun ls hl => ?_)
      clear ex2
      refine lv_goto (tgt := 39) hx hb dX12_aimsIn_51 (by decide) ?_
      exact ih g1 y2 x2 hf H locs ls h (lv_sub hl [1, 2, 0] rfl)

set_option maxHeartbeats 4000000 in
set_option maxRecDepth 100000 in
theorem wX12_aimsIn_32 (C : MCx p s m args meth c A RX12 cX12_aimsIn 4 none D cs)  {g' : MS}  : ∀ (g : MS) (t0 : Int32), fX12_aimsIn_32 g t0 = some g' → ∀ (H : Heap) (locs : List Loc) (ls : Array Slot), MH D (MW cs ad g) A s H locs → lv_has ls 4 [(0, .ref (ad 48))] → W p l e (rM 7) s m args below meth c H locs 0 0 (MQ below (GPost D none (MW cs ad g') A) args s 0 0 A) (F0 m 32 ls [.int t0]) := by
  have hx := C.1
  have hb := C.2.1
  intro g t0 hf H locs ls h hl
  unfold fX12_aimsIn_32 at hf
  refine lv_istore_n (lv' := [(2, .int t0), (0, .ref (ad 48))]) hx hb dX12_aimsIn_32 rfl hl (by decide) rfl (fun ls hl => ?_)
  refine lv_aload_n hx hb dX12_aimsIn_33 rfl (lv_at hl 1 rfl) ?_
  replace hf := bndv_some hf
  obtain ⟨g3, hc, hf⟩ := hf
  refine m_callVv [] C h cv_X12_310 (qX12_aimsNow hc) rfl ⟨rfl, rfl⟩ ⟨Nat.le_of_ble_eq_true rfl, Nat.le_of_ble_eq_true rfl⟩ (m_recv C h) hl.1 rfl (Nat.le_of_ble_eq_true rfl) ⟨Nat.le_refl _, Nat.le_refl _⟩ dX12_aimsIn_34 (fun H locs h => ?_)
  clear hc
  refine lv_iconst (v := (0 : Int32)) hx hb dX12_aimsIn_37 (by decide) ?_
  refine lv_istore_n (lv' := [(3, .int (0 : Int32)), (2, .int t0), (0, .ref (ad 48))]) hx hb dX12_aimsIn_38 rfl hl (by decide) rfl (fun ls hl => ?_)
  exact wX12_aimsIn_39 C fuel g3 t0 (0 : Int32) hf H locs ls h (lv_sub hl [2, 1, 0] rfl)

set_option maxHeartbeats 4000000 in
set_option maxRecDepth 100000 in
theorem qX12_aimsIn {l : Launch} {D : va_G} {cs : Nat → ClassId} {ad : Nat → Nat} {g' : MS} {g : MS}  {a0 : Int32} (hf : fX12_aimsIn g a0 = some g') : GCon l D cs yX12_aimsIn cX12_aimsIn 4 none (rM 7) 0 0 [.ref (ad 48), .int a0] (MW cs ad g) none (MW cs ad g') := by
  refine GCon.of (by decide) (Nat.le_of_ble_eq_true rfl) ?_
  intro p e s m args below meth c A ls H locs C h hl
  have hx := C.1
  have hb := C.2.1
  have C : MCx p s m args meth c A RX12 cX12_aimsIn 4 none D cs := C
  have hl : lv_has ls 4 [(0, .ref (ad 48)), (1, .int a0)] := hl
  unfold fX12_aimsIn at hf
  refine lv_aload_n hx hb dX12_aimsIn_0 rfl (lv_at hl 0 rfl) ?_
  replace hf := bndv_some hf
  obtain ⟨g4, hc, hf⟩ := hf
  refine m_callVv [] C h cv_X12_492 (qX12_laysRound hc) rfl ⟨rfl, rfl⟩ ⟨Nat.le_of_ble_eq_true rfl, Nat.le_of_ble_eq_true rfl⟩ (m_recv C h) hl.1 rfl (Nat.le_of_ble_eq_true rfl) ⟨Nat.le_refl _, Nat.le_refl _⟩ dX12_aimsIn_1 (fun H locs h => ?_)
  clear hc
  refine lv_iload_n hx hb dX12_aimsIn_4 rfl (lv_at hl 1 rfl) ?_
  refine lv_aload_n hx hb dX12_aimsIn_5 rfl (lv_at hl 0 rfl) ?_
  refine mg_40 C h dX12_aimsIn_6 ?_
  refine lv_icmp_ge (tgt := 16) hx hb dX12_aimsIn_9 (by decide) (fun hq => ?_) (fun hq => ?_)
  · replace hf := if_t hq hf
    clear hq
    refine lv_aload_n hx hb dX12_aimsIn_16 rfl (lv_at hl 0 rfl) ?_
    refine mg_40 C h dX12_aimsIn_17 ?_
    refine lv_iload_n hx hb dX12_aimsIn_20 rfl (lv_at hl 1 rfl) ?_
    refine lv_aload_n hx hb dX12_aimsIn_21 rfl (lv_at hl 0 rfl) ?_
    refine mg_40 C h dX12_aimsIn_22 ?_
    refine lv_isub hx hb dX12_aimsIn_25 ?_
    refine lv_aload_n hx hb dX12_aimsIn_26 rfl (lv_at hl 0 rfl) ?_
    refine mg_41 C h dX12_aimsIn_27 ?_
    replace hf := chk_some hf
    obtain ⟨hq, hf⟩ := hf
    refine x_irem hx hb dX12_aimsIn_30 (nz_ne hq) ?_
    clear hq
    refine lv_iadd hx hb dX12_aimsIn_31 ?_
    exact wX12_aimsIn_32 C g4 ((g4.1 40) + (jrem (a0 - (g4.1 40)) (g4.1 41))) hf H locs ls h (lv_sub hl [0] rfl)
  · replace hf := if_f hq hf
    clear hq
    refine lv_iload_n hx hb dX12_aimsIn_12 rfl (lv_at hl 1 rfl) ?_
    refine lv_goto (tgt := 32) hx hb dX12_aimsIn_13 (by decide) ?_
    exact wX12_aimsIn_32 C g4 a0 hf H locs ls h (lv_sub hl [0] rfl)

set_option maxHeartbeats 4000000 in
set_option maxRecDepth 100000 in
theorem qX12_settles {l : Launch} {D : va_G} {cs : Nat → ClassId} {ad : Nat → Nat} {r : Int32} {g' : MS} {g : MS}  {a0 : Int32} (hf : fX12_settles g a0 = some (r, g')) : GCon l D cs yX12_settles cX12_settles 2 (some .int) (rM 7) 0 0 [.ref (ad 48), .int a0] (MW cs ad g) (some (.int r)) (MW cs ad g') := by
  refine GCon.of (by decide) (Nat.le_of_ble_eq_true rfl) ?_
  intro p e s m args below meth c A ls H locs C h hl
  have hx := C.1
  have hb := C.2.1
  have C : MCx p s m args meth c A RX12 cX12_settles 2 (some .int) D cs := C
  have hl : lv_has ls 2 [(0, .ref (ad 48)), (1, .int a0)] := hl
  unfold fX12_settles at hf
  refine lv_aload_n hx hb dX12_settles_0 rfl (lv_at hl 0 rfl) ?_
  refine lv_iconst (v := (0 : Int32)) hx hb dX12_settles_1 (by decide) ?_
  replace hf := bnd_ex hf
  obtain ⟨g1, eg1, hf⟩ := hf
  refine mp_4 C h dX12_settles_2 (fun H locs h => ?_)
  rw [← eg1] at h
  clear eg1
  refine lv_iload_n hx hb dX12_settles_5 rfl (lv_at hl 1 rfl) ?_
  refine lv_i2l hx hb dX12_settles_6 rfl ?_
  refine lv_lconst (v := (0 : Int64)) hx hb dX12_settles_7 rfl ?_
  refine lv_lconst (v := (1 : Int64)) hx hb dX12_settles_8 rfl ?_
  replace hf := bndv_some hf
  obtain ⟨x2, hc, hf⟩ := hf
  refine m_callSi [.long a0.toInt64, .long (0 : Int64), .long (1 : Int64)] C h cs_X12_147 (qX12_within hc) rfl ⟨rfl, rfl⟩ ⟨Nat.le_of_ble_eq_true rfl, Nat.le_of_ble_eq_true rfl⟩ hl.1 rfl (Nat.le_of_ble_eq_true rfl) ⟨Nat.le_refl _, Nat.le_refl _⟩ dX12_settles_9 (fun H locs h => ?_)
  clear hc
  refine lv_if_ne (tgt := 21) hx hb dX12_settles_12 (by decide) (fun hq => ?_) (fun hq => ?_)
  · replace hf := if_tn hq hf
    clear hq
    refine lv_aload_n hx hb dX12_settles_21 rfl (lv_at hl 0 rfl) ?_
    replace hf := bndv_some hf
    obtain ⟨g3, hc, hf⟩ := hf
    refine m_callVv [] C h cv_X12_492 (qX12_laysRound hc) rfl ⟨rfl, rfl⟩ ⟨Nat.le_of_ble_eq_true rfl, Nat.le_of_ble_eq_true rfl⟩ (m_recv C h) hl.1 rfl (Nat.le_of_ble_eq_true rfl) ⟨Nat.le_refl _, Nat.le_refl _⟩ dX12_settles_22 (fun H locs h => ?_)
    clear hc
    refine lv_iload_n hx hb dX12_settles_25 rfl (lv_at hl 1 rfl) ?_
    refine lv_if_ne (tgt := 36) hx hb dX12_settles_26 (by decide) (fun hq => ?_) (fun hq => ?_)
    · replace hf := if_tn hq hf
      clear hq
      refine lv_aload_n hx hb dX12_settles_36 rfl (lv_at hl 0 rfl) ?_
      refine mg_41 C h dX12_settles_37 ?_
      cases hf
      exact m_iret C h dX12_settles_40
    · replace hf := if_t hq hf
      clear hq
      refine lv_aload_n hx hb dX12_settles_29 rfl (lv_at hl 0 rfl) ?_
      refine mg_40 C h dX12_settles_30 ?_
      refine lv_goto (tgt := 40) hx hb dX12_settles_33 (by decide) ?_
      cases hf
      exact m_iret C h dX12_settles_40
  · replace hf := if_t hq hf
    clear hq
    refine lv_aload_n hx hb dX12_settles_15 rfl (lv_at hl 0 rfl) ?_
    refine lv_iconst (v := (1 : Int32)) hx hb dX12_settles_16 (by decide) ?_
    replace hf := bndc_some hf
    obtain ⟨x4, g5, hc, hf⟩ := hf
    refine m_callVi [.int (1 : Int32)] C h cv_X12_239 (qX12_fails hc) rfl ⟨rfl, rfl⟩ ⟨Nat.le_of_ble_eq_true rfl, Nat.le_of_ble_eq_true rfl⟩ (m_recv C h) hl.1 rfl (Nat.le_of_ble_eq_true rfl) ⟨Nat.le_refl _, Nat.le_refl _⟩ dX12_settles_17 (fun H locs h => ?_)
    clear hc
    cases hf
    exact m_iret C h dX12_settles_20

set_option maxHeartbeats 4000000 in
set_option maxRecDepth 100000 in
theorem qX12_isFar {l : Launch} {D : va_G} {cs : Nat → ClassId} {r : Int32}  {a0 : Int32} (hf : fX12_isFar a0 = some r) : GCon l D cs yX12_isFar cX12_isFar 1 (some .boolean) (rM 1) 0 0 [.int a0] [] (some (.int r)) [] := by
  refine GCon.of (by decide) (Nat.le_of_ble_eq_true rfl) ?_
  intro p e s m args below meth c A ls H locs C h hl
  have hx := C.1
  have hb := C.2.1
  have C : MCx p s m args meth c A RX12 cX12_isFar 1 (some .boolean) D cs := C
  have hl : lv_has ls 1 [(0, .int a0)] := hl
  unfold fX12_isFar at hf
  refine lv_iload_n hx hb dX12_isFar_0 rfl (lv_at hl 0 rfl) ?_
  refine lv_i2l hx hb dX12_isFar_1 rfl ?_
  refine lv_lconst (v := (0 : Int64)) hx hb dX12_isFar_2 rfl ?_
  refine lv_ldc2 hx hb C.2.2.2.1 (C.2.2.2.2.1 _ tb_60_16) dX12_isFar_3 ?_
  replace hf := bndv_some hf
  obtain ⟨x1, hc, hf⟩ := hf
  refine m_callSi [.long a0.toInt64, .long (0 : Int64), .long (99999 : Int64)] C h cs_X12_147 (qX12_within hc) rfl ⟨rfl, rfl⟩ ⟨Nat.le_of_ble_eq_true rfl, Nat.le_of_ble_eq_true rfl⟩ hl.1 rfl (Nat.le_of_ble_eq_true rfl) ⟨Nat.le_refl _, Nat.le_refl _⟩ dX12_isFar_6 (fun H locs h => ?_)
  clear hc
  replace hf := chk_some hf
  obtain ⟨hq, hf⟩ := hf
  cases hf
  exact m_zret C h hq dX12_isFar_9

set_option maxHeartbeats 4000000 in
set_option maxRecDepth 100000 in
theorem qX12_chairIn {l : Launch} {D : va_G} {cs : Nat → ClassId} {ad : Nat → Nat} {r : Int32} {g' : MS} {g : MS}  {a0 : Int32} (hf : fX12_chairIn g a0 = some (r, g')) : GCon l D cs yX12_chairIn cX12_chairIn 2 (some .int) (rM 8) 0 0 [.ref (ad 48), .int a0] (MW cs ad g) (some (.int r)) (MW cs ad g') := by
  refine GCon.of (by decide) (Nat.le_of_ble_eq_true rfl) ?_
  intro p e s m args below meth c A ls H locs C h hl
  have hx := C.1
  have hb := C.2.1
  have C : MCx p s m args meth c A RX12 cX12_chairIn 2 (some .int) D cs := C
  have hl : lv_has ls 2 [(0, .ref (ad 48)), (1, .int a0)] := hl
  unfold fX12_chairIn at hf
  refine lv_aload_n hx hb dX12_chairIn_0 rfl (lv_at hl 0 rfl) ?_
  refine lv_iconst (v := (0 : Int32)) hx hb dX12_chairIn_1 (by decide) ?_
  replace hf := bnd_ex hf
  obtain ⟨g1, eg1, hf⟩ := hf
  refine mp_4 C h dX12_chairIn_2 (fun H locs h => ?_)
  rw [← eg1] at h
  clear eg1
  refine lv_iload_n hx hb dX12_chairIn_5 rfl (lv_at hl 1 rfl) ?_
  replace hf := bndv_some hf
  obtain ⟨x2, hc, hf⟩ := hf
  refine m_callSi [.int a0] C h cs_X12_497 (qX12_isFar hc) rfl ⟨rfl, rfl⟩ ⟨Nat.le_of_ble_eq_true rfl, Nat.le_of_ble_eq_true rfl⟩ hl.1 rfl (Nat.le_of_ble_eq_true rfl) ⟨Nat.le_refl _, Nat.le_refl _⟩ dX12_chairIn_6 (fun H locs h => ?_)
  clear hc
  refine lv_if_ne (tgt := 18) hx hb dX12_chairIn_9 (by decide) (fun hq => ?_) (fun hq => ?_)
  · replace hf := if_tn hq hf
    clear hq
    refine lv_aload_n hx hb dX12_chairIn_18 rfl (lv_at hl 0 rfl) ?_
    refine lv_iload_n hx hb dX12_chairIn_19 rfl (lv_at hl 1 rfl) ?_
    replace hf := bndv_some hf
    obtain ⟨g3, hc, hf⟩ := hf
    refine m_callVv [.int a0] C h cv_X12_500 (qX12_aimsIn hc) rfl ⟨rfl, rfl⟩ ⟨Nat.le_of_ble_eq_true rfl, Nat.le_of_ble_eq_true rfl⟩ (m_recv C h) hl.1 rfl (Nat.le_of_ble_eq_true rfl) ⟨Nat.le_refl _, Nat.le_refl _⟩ dX12_chairIn_20 (fun H locs h => ?_)
    clear hc
    refine lv_aload_n hx hb dX12_chairIn_23 rfl (lv_at hl 0 rfl) ?_
    replace hf := bndc_some hf
    obtain ⟨x4, g5, hc, hf⟩ := hf
    refine m_callVi [] C h cv_X12_313 (qX12_chairBy hc) rfl ⟨rfl, rfl⟩ ⟨Nat.le_of_ble_eq_true rfl, Nat.le_of_ble_eq_true rfl⟩ (m_recv C h) hl.1 rfl (Nat.le_of_ble_eq_true rfl) ⟨Nat.le_refl _, Nat.le_refl _⟩ dX12_chairIn_24 (fun H locs h => ?_)
    clear hc
    cases hf
    exact m_iret C h dX12_chairIn_27
  · replace hf := if_t hq hf
    clear hq
    refine lv_aload_n hx hb dX12_chairIn_12 rfl (lv_at hl 0 rfl) ?_
    refine lv_iconst (v := (1 : Int32)) hx hb dX12_chairIn_13 (by decide) ?_
    replace hf := bndc_some hf
    obtain ⟨x6, g7, hc, hf⟩ := hf
    refine m_callVi [.int (1 : Int32)] C h cv_X12_239 (qX12_fails hc) rfl ⟨rfl, rfl⟩ ⟨Nat.le_of_ble_eq_true rfl, Nat.le_of_ble_eq_true rfl⟩ (m_recv C h) hl.1 rfl (Nat.le_of_ble_eq_true rfl) ⟨Nat.le_refl _, Nat.le_refl _⟩ dX12_chairIn_14 (fun H locs h => ?_)
    clear hc
    cases hf
    exact m_iret C h dX12_chairIn_17

set_option maxHeartbeats 4000000 in
set_option maxRecDepth 100000 in
theorem wX12_aimIn_26 (C : MCx p s m args meth c A RX12 cX12_aimIn 3 (some .int) D cs)  {r : Int32} {g' : MS}  : ∀ (g : MS) (y1 : Int32) (y2 : Int32) (t1 : Int32), fX12_aimIn_26 g y1 y2 t1 = some (r, g') → ∀ (H : Heap) (locs : List Loc) (ls : Array Slot), MH D (MW cs ad g) A s H locs → lv_has ls 3 [(0, .ref (ad 48)), (1, .int y1), (2, .int y2)] → W p l e (rM 8) s m args below meth c H locs 0 0 (MQ below (GPost D (some (.int r)) (MW cs ad g') A) args s 0 0 A) (F0 m 26 ls [.int t1, .ref (ad 48)]) := by
  have hx := C.1
  have hb := C.2.1
  intro g y1 y2 t1 hf H locs ls h hl
  unfold fX12_aimIn_26 at hf
  replace hf := bnd_ex hf
  obtain ⟨g1, eg1, hf⟩ := hf
  refine mp_4 C h dX12_aimIn_26 (fun H locs h => ?_)
  rw [← eg1] at h
  clear eg1
  refine lv_aload_n hx hb dX12_aimIn_29 rfl (lv_at hl 0 rfl) ?_
  refine mg_4 C h dX12_aimIn_30 ?_
  refine lv_if_le (tgt := 38) hx hb dX12_aimIn_33 (by decide) (fun hq => ?_) (fun hq => ?_)
  · replace hf := if_t hq hf
    clear hq
    refine lv_aload_n hx hb dX12_aimIn_38 rfl (lv_at hl 0 rfl) ?_
    refine lv_iload_n hx hb dX12_aimIn_39 rfl (lv_at hl 2 rfl) ?_
    replace hf := bndv_some hf
    obtain ⟨g2, hc, hf⟩ := hf
    refine m_callVv [.int y2] C h cv_X12_500 (qX12_aimsIn hc) rfl ⟨rfl, rfl⟩ ⟨Nat.le_of_ble_eq_true rfl, Nat.le_of_ble_eq_true rfl⟩ (m_recv C h) hl.1 rfl (Nat.le_of_ble_eq_true rfl) ⟨Nat.le_refl _, Nat.le_refl _⟩ dX12_aimIn_40 (fun H locs h => ?_)
    clear hc
    refine lv_aload_n hx hb dX12_aimIn_43 rfl (lv_at hl 0 rfl) ?_
    refine mg_21 C h dX12_aimIn_44 ?_
    refine lv_iload_n hx hb dX12_aimIn_47 rfl (lv_at hl 1 rfl) ?_
    replace hf := chk_some hf
    obtain ⟨hq, hf⟩ := hf
    refine ml_21 C h hq dX12_aimIn_48 ?_
    clear hq
    cases hf
    exact m_iret C h dX12_aimIn_49
  · replace hf := if_f hq hf
    clear hq
    refine lv_iconst (v := (0 : Int32)) hx hb dX12_aimIn_36 (by decide) ?_
    cases hf
    exact m_iret C h dX12_aimIn_37

set_option maxHeartbeats 4000000 in
set_option maxRecDepth 100000 in
theorem qX12_aimIn {l : Launch} {D : va_G} {cs : Nat → ClassId} {ad : Nat → Nat} {r : Int32} {g' : MS} {g : MS}  {a0 : Int32} {a1 : Int32} (hf : fX12_aimIn g a0 a1 = some (r, g')) : GCon l D cs yX12_aimIn cX12_aimIn 3 (some .int) (rM 8) 0 0 [.ref (ad 48), .int a0, .int a1] (MW cs ad g) (some (.int r)) (MW cs ad g') := by
  refine GCon.of (by decide) (Nat.le_of_ble_eq_true rfl) ?_
  intro p e s m args below meth c A ls H locs C h hl
  have hx := C.1
  have hb := C.2.1
  have C : MCx p s m args meth c A RX12 cX12_aimIn 3 (some .int) D cs := C
  have hl : lv_has ls 3 [(0, .ref (ad 48)), (1, .int a0), (2, .int a1)] := hl
  unfold fX12_aimIn at hf
  refine lv_aload_n hx hb dX12_aimIn_0 rfl (lv_at hl 0 rfl) ?_
  refine lv_aload_n hx hb dX12_aimIn_1 rfl (lv_at hl 0 rfl) ?_
  refine lv_iload_n hx hb dX12_aimIn_2 rfl (lv_at hl 1 rfl) ?_
  refine lv_i2l hx hb dX12_aimIn_3 rfl ?_
  replace hf := bndc_some hf
  obtain ⟨x3, g4, hc, hf⟩ := hf
  refine m_callVi [.long a0.toInt64] C h cv_X12_319 (qX12_isMember hc) rfl ⟨rfl, rfl⟩ ⟨Nat.le_of_ble_eq_true rfl, Nat.le_of_ble_eq_true rfl⟩ (m_recv C h) hl.1 rfl (Nat.le_of_ble_eq_true rfl) ⟨Nat.le_refl _, Nat.le_refl _⟩ dX12_aimIn_4 (fun H locs h => ?_)
  clear hc
  refine lv_if_ne (tgt := 14) hx hb dX12_aimIn_7 (by decide) (fun hq => ?_) (fun hq => ?_)
  · replace hf := if_tn hq hf
    clear hq
    refine lv_iload_n hx hb dX12_aimIn_14 rfl (lv_at hl 2 rfl) ?_
    replace hf := bndv_some hf
    obtain ⟨x5, hc, hf⟩ := hf
    refine m_callSi [.int a1] C h cs_X12_497 (qX12_isFar hc) rfl ⟨rfl, rfl⟩ ⟨Nat.le_of_ble_eq_true rfl, Nat.le_of_ble_eq_true rfl⟩ hl.1 rfl (Nat.le_of_ble_eq_true rfl) ⟨Nat.le_refl _, Nat.le_refl _⟩ dX12_aimIn_15 (fun H locs h => ?_)
    clear hc
    refine lv_if_eq (tgt := 25) hx hb dX12_aimIn_18 (by decide) (fun hq => ?_) (fun hq => ?_)
    · replace hf := if_t hq hf
      clear hq
      refine lv_iconst (v := (2 : Int32)) hx hb dX12_aimIn_25 (by decide) ?_
      exact wX12_aimIn_26 C g4 a0 a1 (2 : Int32) hf H locs ls h (lv_sub hl [0, 1, 2] rfl)
    · replace hf := if_f hq hf
      clear hq
      refine lv_iconst (v := (0 : Int32)) hx hb dX12_aimIn_21 (by decide) ?_
      refine lv_goto (tgt := 26) hx hb dX12_aimIn_22 (by decide) ?_
      exact wX12_aimIn_26 C g4 a0 a1 (0 : Int32) hf H locs ls h (lv_sub hl [0, 1, 2] rfl)
  · replace hf := if_t hq hf
    clear hq
    refine lv_iconst (v := (1 : Int32)) hx hb dX12_aimIn_10 (by decide) ?_
    refine lv_goto (tgt := 26) hx hb dX12_aimIn_11 (by decide) ?_
    exact wX12_aimIn_26 C g4 a0 a1 (1 : Int32) hf H locs ls h (lv_sub hl [0, 1, 2] rfl)

set_option maxHeartbeats 4000000 in
set_option maxRecDepth 100000 in
theorem wX12_reign_72 (C : MCx p s m args meth c A RX12 cX12_reign 5 (some .int) D cs)  {r : Int32} {g' : MS}  {k52 : MS → Int32 → Int32 → Int32 → Int32 → Option (Int32 × MS)} (hk52 : ∀ (g : MS) (y1 : Int32) (y2 : Int32) (y3 : Int32) (y4 : Int32), k52 g y1 y2 y3 y4 = some (r, g') → ∀ (H : Heap) (locs : List Loc) (ls : Array Slot), MH D (MW cs ad g) A s H locs → lv_has ls 5 [(0, .ref (ad 48)), (1, .int y1), (2, .int y2), (3, .int y3), (4, .int y4)] → W p l e (rM 6) s m args below meth c H locs 0 0 (MQ below (GPost D (some (.int r)) (MW cs ad g') A) args s 0 0 A) (F0 m 52 ls [])) : ∀ (g : MS) (y1 : Int32) (y2 : Int32) (y4 : Int32) (t0 : Int32) (t1 : Int32), fX12_reign_72 k52 g y1 y2 y4 t0 t1 = some (r, g') → ∀ (H : Heap) (locs : List Loc) (ls : Array Slot), MH D (MW cs ad g) A s H locs → lv_has ls 5 [(0, .ref (ad 48)), (1, .int y1), (2, .int y2), (4, .int y4)] → W p l e (rM 6) s m args below meth c H locs 0 0 (MQ below (GPost D (some (.int r)) (MW cs ad g') A) args s 0 0 A) (F0 m 72 ls [.int t1, .int t0]) := by
  have hx := C.1
  have hb := C.2.1
  intro g y1 y2 y4 t0 t1 hf H locs ls h hl
  unfold fX12_reign_72 at hf
  refine lv_iadd hx hb dX12_reign_72 ?_
  refine lv_topi (fun x1 ex1 => ?_)
  replace hf := bnd_at ex1 hf
  clear ex1
  refine lv_istore_n (lv' := [(3, .int x1), (0, .ref (ad 48)), (1, .int y1), (2, .int y2), (4, .int y4)]) hx hb dX12_reign_73 rfl hl (by decide) rfl (fun ls hl => ?_)
  refine lv_aload_n hx hb dX12_reign_74 rfl (lv_at hl 1 rfl) ?_
  replace hf := bndv_some hf
  obtain ⟨g2, hc, hf⟩ := hf
  refine m_callVv [] C h cv_X12_334 (qX12_minute hc) rfl ⟨rfl, rfl⟩ ⟨Nat.le_of_ble_eq_true rfl, Nat.le_of_ble_eq_true rfl⟩ (m_recv C h) hl.1 rfl (Nat.le_of_ble_eq_true rfl) ⟨Nat.le_refl _, Nat.le_refl _⟩ dX12_reign_75 (fun H locs h => ?_)
  clear hc
  obtain ⟨x3, ex3⟩ : ∃ z : Int32, z = y4 + (1 : Int32) := ⟨_, rfl⟩
  replace hf := bnd_at ex3 hf
  refine lv_iinc (v := x3) (lv' := [(4, .int x3), (3, .int x1), (0, .ref (ad 48)), (1, .int y1), (2, .int y2)]) hx hb dX12_reign_78 hl (k := 4) rfl (by rw [ex3]; rfl) (by decide) rfl (fun ls hl => ?_)
  clear ex3
  refine lv_goto (tgt := 52) hx hb dX12_reign_81 (by decide) ?_
  exact hk52 g2 y1 y2 x1 x3 hf H locs ls h (lv_sub hl [2, 3, 4, 1, 0] rfl)

set_option maxHeartbeats 4000000 in
set_option maxRecDepth 100000 in
theorem wX12_reign_52 (C : MCx p s m args meth c A RX12 cX12_reign 5 (some .int) D cs)  {r : Int32} {g' : MS}  : ∀ (n : Nat) (g : MS) (y1 : Int32) (y2 : Int32) (y3 : Int32) (y4 : Int32), fX12_reign_52 n g y1 y2 y3 y4 = some (r, g') → ∀ (H : Heap) (locs : List Loc) (ls : Array Slot), MH D (MW cs ad g) A s H locs → lv_has ls 5 [(0, .ref (ad 48)), (1, .int y1), (2, .int y2), (3, .int y3), (4, .int y4)] → W p l e (rM 6) s m args below meth c H locs 0 0 (MQ below (GPost D (some (.int r)) (MW cs ad g') A) args s 0 0 A) (F0 m 52 ls []) := by
  have hx := C.1
  have hb := C.2.1
  intro n
  induction n with
  | zero =>
    intro g y1 y2 y3 y4 hf
    exact absurd hf (by simp [fX12_reign_52])
  | succ n ih =>
    intro g y1 y2 y3 y4 hf H locs ls h hl
    rw [fX12_reign_52] at hf
    refine lv_iload hx hb dX12_reign_52 (lv_at hl 4 rfl) ?_
    refine lv_iload_n hx hb dX12_reign_54 rfl (lv_at hl 2 rfl) ?_
    refine lv_icmp_gt (tgt := 84) hx hb dX12_reign_55 (by decide) (fun hq => ?_) (fun hq => ?_)
    · replace hf := if_t hq hf
      clear hq
      refine lv_iload_n hx hb dX12_reign_84 rfl (lv_at hl 3 rfl) ?_
      cases hf
      exact m_iret C h dX12_reign_85
    · replace hf := if_f hq hf
      clear hq
      refine lv_iload_n hx hb dX12_reign_58 rfl (lv_at hl 3 rfl) ?_
      refine lv_aload_n hx hb dX12_reign_59 rfl (lv_at hl 0 rfl) ?_
      replace hf := bndc_some hf
      obtain ⟨x4, g5, hc, hf⟩ := hf
      refine m_callVi [] C h cv_X12_313 (qX12_chairBy hc) rfl ⟨rfl, rfl⟩ ⟨Nat.le_of_ble_eq_true rfl, Nat.le_of_ble_eq_true rfl⟩ (m_recv C h) hl.1 rfl (Nat.le_of_ble_eq_true rfl) ⟨Nat.le_refl _, Nat.le_refl _⟩ dX12_reign_60 (fun H locs h => ?_)
      clear hc
      refine lv_iload_n hx hb dX12_reign_63 rfl (lv_at hl 1 rfl) ?_
      refine lv_icmp_ne (tgt := 71) hx hb dX12_reign_64 (by decide) (fun hq => ?_) (fun hq => ?_)
      · replace hf := if_tn hq hf
        clear hq
        refine lv_iconst (v := (0 : Int32)) hx hb dX12_reign_71 (by decide) ?_
        exact wX12_reign_72 C ih g5 y1 y2 y4 y3 (0 : Int32) hf H locs ls h (lv_sub hl [0, 1, 2, 4] rfl)
      · replace hf := if_t hq hf
        clear hq
        refine lv_iconst (v := (1 : Int32)) hx hb dX12_reign_67 (by decide) ?_
        refine lv_goto (tgt := 72) hx hb dX12_reign_68 (by decide) ?_
        exact wX12_reign_72 C ih g5 y1 y2 y4 y3 (1 : Int32) hf H locs ls h (lv_sub hl [0, 1, 2, 4] rfl)

set_option maxHeartbeats 4000000 in
set_option maxRecDepth 100000 in
theorem wX12_reign_31 (C : MCx p s m args meth c A RX12 cX12_reign 5 (some .int) D cs)  {r : Int32} {g' : MS}  : ∀ (g : MS) (y1 : Int32) (y2 : Int32) (t1 : Int32), fX12_reign_31 g y1 y2 t1 = some (r, g') → ∀ (H : Heap) (locs : List Loc) (ls : Array Slot), MH D (MW cs ad g) A s H locs → lv_has ls 5 [(0, .ref (ad 48)), (1, .int y1), (2, .int y2)] → W p l e (rM 6) s m args below meth c H locs 0 0 (MQ below (GPost D (some (.int r)) (MW cs ad g') A) args s 0 0 A) (F0 m 31 ls [.int t1, .ref (ad 48)]) := by
  have hx := C.1
  have hb := C.2.1
  intro g y1 y2 t1 hf H locs ls h hl
  unfold fX12_reign_31 at hf
  replace hf := bnd_ex hf
  obtain ⟨g6, eg6, hf⟩ := hf
  refine mp_4 C h dX12_reign_31 (fun H locs h => ?_)
  rw [← eg6] at h
  clear eg6
  refine lv_aload_n hx hb dX12_reign_34 rfl (lv_at hl 0 rfl) ?_
  refine mg_4 C h dX12_reign_35 ?_
  refine lv_if_le (tgt := 43) hx hb dX12_reign_38 (by decide) (fun hq => ?_) (fun hq => ?_)
  · replace hf := if_t hq hf
    clear hq
    refine lv_aload_n hx hb dX12_reign_43 rfl (lv_at hl 0 rfl) ?_
    replace hf := bndv_some hf
    obtain ⟨g7, hc, hf⟩ := hf
    refine m_callVv [] C h cv_X12_310 (qX12_aimsNow hc) rfl ⟨rfl, rfl⟩ ⟨Nat.le_of_ble_eq_true rfl, Nat.le_of_ble_eq_true rfl⟩ (m_recv C h) hl.1 rfl (Nat.le_of_ble_eq_true rfl) ⟨Nat.le_refl _, Nat.le_refl _⟩ dX12_reign_44 (fun H locs h => ?_)
    clear hc
    refine lv_iconst (v := (0 : Int32)) hx hb dX12_reign_47 (by decide) ?_
    refine lv_istore_n (lv' := [(3, .int (0 : Int32)), (0, .ref (ad 48)), (1, .int y1), (2, .int y2)]) hx hb dX12_reign_48 rfl hl (by decide) rfl (fun ls hl => ?_)
    refine lv_iconst (v := (0 : Int32)) hx hb dX12_reign_49 (by decide) ?_
    refine lv_istore (lv' := [(4, .int (0 : Int32)), (3, .int (0 : Int32)), (0, .ref (ad 48)), (1, .int y1), (2, .int y2)]) hx hb dX12_reign_50 hl (by decide) rfl (fun ls hl => ?_)
    exact wX12_reign_52 C fuel g7 y1 y2 (0 : Int32) (0 : Int32) hf H locs ls h (lv_sub hl [2, 3, 4, 1, 0] rfl)
  · replace hf := if_f hq hf
    clear hq
    refine lv_iconst (v := (0 : Int32)) hx hb dX12_reign_41 (by decide) ?_
    cases hf
    exact m_iret C h dX12_reign_42

set_option maxHeartbeats 4000000 in
set_option maxRecDepth 100000 in
theorem qX12_reign {l : Launch} {D : va_G} {cs : Nat → ClassId} {ad : Nat → Nat} {r : Int32} {g' : MS} {g : MS}  {a0 : Int32} {a1 : Int32} (hf : fX12_reign g a0 a1 = some (r, g')) : GCon l D cs yX12_reign cX12_reign 5 (some .int) (rM 6) 0 0 [.ref (ad 48), .int a0, .int a1] (MW cs ad g) (some (.int r)) (MW cs ad g') := by
  refine GCon.of (by decide) (Nat.le_of_ble_eq_true rfl) ?_
  intro p e s m args below meth c A ls H locs C h hl
  have hx := C.1
  have hb := C.2.1
  have C : MCx p s m args meth c A RX12 cX12_reign 5 (some .int) D cs := C
  have hl : lv_has ls 5 [(0, .ref (ad 48)), (1, .int a0), (2, .int a1)] := hl
  unfold fX12_reign at hf
  refine lv_aload_n hx hb dX12_reign_0 rfl (lv_at hl 0 rfl) ?_
  refine lv_aload_n hx hb dX12_reign_1 rfl (lv_at hl 0 rfl) ?_
  refine lv_iload_n hx hb dX12_reign_2 rfl (lv_at hl 1 rfl) ?_
  refine lv_i2l hx hb dX12_reign_3 rfl ?_
  replace hf := bndc_some hf
  obtain ⟨x8, g9, hc, hf⟩ := hf
  refine m_callVi [.long a0.toInt64] C h cv_X12_319 (qX12_isMember hc) rfl ⟨rfl, rfl⟩ ⟨Nat.le_of_ble_eq_true rfl, Nat.le_of_ble_eq_true rfl⟩ (m_recv C h) hl.1 rfl (Nat.le_of_ble_eq_true rfl) ⟨Nat.le_refl _, Nat.le_refl _⟩ dX12_reign_4 (fun H locs h => ?_)
  clear hc
  refine lv_if_ne (tgt := 14) hx hb dX12_reign_7 (by decide) (fun hq => ?_) (fun hq => ?_)
  · replace hf := if_tn hq hf
    clear hq
    refine lv_iload_n hx hb dX12_reign_14 rfl (lv_at hl 2 rfl) ?_
    refine lv_i2l hx hb dX12_reign_15 rfl ?_
    refine lv_lconst (v := (0 : Int64)) hx hb dX12_reign_16 rfl ?_
    refine lv_ldc2 hx hb C.2.2.2.1 (C.2.2.2.2.1 _ tb_62_0) dX12_reign_17 ?_
    replace hf := bndv_some hf
    obtain ⟨x10, hc, hf⟩ := hf
    refine m_callSi [.long a1.toInt64, .long (0 : Int64), .long (9999 : Int64)] C h cs_X12_147 (qX12_within hc) rfl ⟨rfl, rfl⟩ ⟨Nat.le_of_ble_eq_true rfl, Nat.le_of_ble_eq_true rfl⟩ hl.1 rfl (Nat.le_of_ble_eq_true rfl) ⟨Nat.le_refl _, Nat.le_refl _⟩ dX12_reign_20 (fun H locs h => ?_)
    clear hc
    refine lv_if_eq (tgt := 30) hx hb dX12_reign_23 (by decide) (fun hq => ?_) (fun hq => ?_)
    · replace hf := if_t hq hf
      clear hq
      refine lv_iconst (v := (2 : Int32)) hx hb dX12_reign_30 (by decide) ?_
      exact wX12_reign_31 C g9 a0 a1 (2 : Int32) hf H locs ls h (lv_sub hl [0, 1, 2] rfl)
    · replace hf := if_f hq hf
      clear hq
      refine lv_iconst (v := (0 : Int32)) hx hb dX12_reign_26 (by decide) ?_
      refine lv_goto (tgt := 31) hx hb dX12_reign_27 (by decide) ?_
      exact wX12_reign_31 C g9 a0 a1 (0 : Int32) hf H locs ls h (lv_sub hl [0, 1, 2] rfl)
  · replace hf := if_t hq hf
    clear hq
    refine lv_iconst (v := (1 : Int32)) hx hb dX12_reign_10 (by decide) ?_
    refine lv_goto (tgt := 31) hx hb dX12_reign_11 (by decide) ?_
    exact wX12_reign_31 C g9 a0 a1 (1 : Int32) hf H locs ls h (lv_sub hl [0, 1, 2] rfl)

set_option maxHeartbeats 4000000 in
set_option maxRecDepth 100000 in
theorem wX12_first_30 (C : MCx p s m args meth c A RX12 cX12_first 3 (some .int) D cs)  {r : Int32} {g' : MS}  : ∀ (n : Nat) (g : MS) (y1 : Int32) (y2 : Int32), fX12_first_30 n g y1 y2 = some (r, g') → ∀ (H : Heap) (locs : List Loc) (ls : Array Slot), MH D (MW cs ad g) A s H locs → lv_has ls 3 [(0, .ref (ad 48)), (1, .int y1), (2, .int y2)] → W p l e (rM 7) s m args below meth c H locs 0 0 (MQ below (GPost D (some (.int r)) (MW cs ad g') A) args s 0 0 A) (F0 m 30 ls []) := by
  have hx := C.1
  have hb := C.2.1
  intro n
  induction n with
  | zero =>
    intro g y1 y2 hf
    exact absurd hf (by simp [fX12_first_30])
  | succ n ih =>
    intro g y1 y2 hf H locs ls h hl
    rw [fX12_first_30] at hf
    refine lv_iload_n hx hb dX12_first_30 rfl (lv_at hl 2 rfl) ?_
    refine lv_aload_n hx hb dX12_first_31 rfl (lv_at hl 0 rfl) ?_
    refine mg_40 C h dX12_first_32 ?_
    refine lv_aload_n hx hb dX12_first_35 rfl (lv_at hl 0 rfl) ?_
    refine mg_41 C h dX12_first_36 ?_
    refine lv_iadd hx hb dX12_first_39 ?_
    refine lv_icmp_ge (tgt := 63) hx hb dX12_first_40 (by decide) (fun hq => ?_) (fun hq => ?_)
    · replace hf := if_t hq hf
      clear hq
      refine lv_iconst (v := (-1 : Int32)) hx hb dX12_first_63 (by decide) ?_
      cases hf
      exact m_iret C h dX12_first_64
    · replace hf := if_f hq hf
      clear hq
      refine lv_aload_n hx hb dX12_first_43 rfl (lv_at hl 0 rfl) ?_
      replace hf := bndc_some hf
      obtain ⟨x1, g2, hc, hf⟩ := hf
      refine m_callVi [] C h cv_X12_313 (qX12_chairBy hc) rfl ⟨rfl, rfl⟩ ⟨Nat.le_of_ble_eq_true rfl, Nat.le_of_ble_eq_true rfl⟩ (m_recv C h) hl.1 rfl (Nat.le_of_ble_eq_true rfl) ⟨Nat.le_refl _, Nat.le_refl _⟩ dX12_first_44 (fun H locs h => ?_)
      clear hc
      refine lv_iload_n hx hb dX12_first_47 rfl (lv_at hl 1 rfl) ?_
      refine lv_icmp_ne (tgt := 53) hx hb dX12_first_48 (by decide) (fun hq => ?_) (fun hq => ?_)
      · replace hf := if_tn hq hf
        clear hq
        refine lv_aload_n hx hb dX12_first_53 rfl (lv_at hl 0 rfl) ?_
        replace hf := bndv_some hf
        obtain ⟨g3, hc, hf⟩ := hf
        refine m_callVv [] C h cv_X12_334 (qX12_minute hc) rfl ⟨rfl, rfl⟩ ⟨Nat.le_of_ble_eq_true rfl, Nat.le_of_ble_eq_true rfl⟩ (m_recv C h) hl.1 rfl (Nat.le_of_ble_eq_true rfl) ⟨Nat.le_refl _, Nat.le_refl _⟩ dX12_first_54 (fun H locs h => ?_)
        clear hc
        obtain ⟨x4, ex4⟩ : ∃ z : Int32, z = y2 + (1 : Int32) := ⟨_, rfl⟩
        replace hf := bnd_at ex4 hf
        refine lv_iinc (v := x4) (lv' := [(2, .int x4), (0, .ref (ad 48)), (1, .int y1)]) hx hb dX12_first_57 hl (k := 2) rfl (by rw [ex4]; rfl) (by decide) rfl (fun ls hl => ?_)
        clear ex4
        refine lv_goto (tgt := 30) hx hb dX12_first_60 (by decide) ?_
        exact ih g3 y1 x4 hf H locs ls h (lv_sub hl [1, 2, 0] rfl)
      · replace hf := if_t hq hf
        clear hq
        refine lv_iload_n hx hb dX12_first_51 rfl (lv_at hl 2 rfl) ?_
        cases hf
        exact m_iret C h dX12_first_52

set_option maxHeartbeats 4000000 in
set_option maxRecDepth 100000 in
theorem qX12_first {l : Launch} {D : va_G} {cs : Nat → ClassId} {ad : Nat → Nat} {r : Int32} {g' : MS} {g : MS}  {a0 : Int32} (hf : fX12_first g a0 = some (r, g')) : GCon l D cs yX12_first cX12_first 3 (some .int) (rM 7) 0 0 [.ref (ad 48), .int a0] (MW cs ad g) (some (.int r)) (MW cs ad g') := by
  refine GCon.of (by decide) (Nat.le_of_ble_eq_true rfl) ?_
  intro p e s m args below meth c A ls H locs C h hl
  have hx := C.1
  have hb := C.2.1
  have C : MCx p s m args meth c A RX12 cX12_first 3 (some .int) D cs := C
  have hl : lv_has ls 3 [(0, .ref (ad 48)), (1, .int a0)] := hl
  unfold fX12_first at hf
  refine lv_aload_n hx hb dX12_first_0 rfl (lv_at hl 0 rfl) ?_
  refine lv_iconst (v := (0 : Int32)) hx hb dX12_first_1 (by decide) ?_
  replace hf := bnd_ex hf
  obtain ⟨g5, eg5, hf⟩ := hf
  refine mp_4 C h dX12_first_2 (fun H locs h => ?_)
  rw [← eg5] at h
  clear eg5
  refine lv_aload_n hx hb dX12_first_5 rfl (lv_at hl 0 rfl) ?_
  refine lv_iload_n hx hb dX12_first_6 rfl (lv_at hl 1 rfl) ?_
  refine lv_i2l hx hb dX12_first_7 rfl ?_
  replace hf := bndc_some hf
  obtain ⟨x6, g7, hc, hf⟩ := hf
  refine m_callVi [.long a0.toInt64] C h cv_X12_319 (qX12_isMember hc) rfl ⟨rfl, rfl⟩ ⟨Nat.le_of_ble_eq_true rfl, Nat.le_of_ble_eq_true rfl⟩ (m_recv C h) hl.1 rfl (Nat.le_of_ble_eq_true rfl) ⟨Nat.le_refl _, Nat.le_refl _⟩ dX12_first_8 (fun H locs h => ?_)
  clear hc
  refine lv_if_ne (tgt := 20) hx hb dX12_first_11 (by decide) (fun hq => ?_) (fun hq => ?_)
  · replace hf := if_tn hq hf
    clear hq
    refine lv_aload_n hx hb dX12_first_20 rfl (lv_at hl 0 rfl) ?_
    replace hf := bndv_some hf
    obtain ⟨g8, hc, hf⟩ := hf
    refine m_callVv [] C h cv_X12_492 (qX12_laysRound hc) rfl ⟨rfl, rfl⟩ ⟨Nat.le_of_ble_eq_true rfl, Nat.le_of_ble_eq_true rfl⟩ (m_recv C h) hl.1 rfl (Nat.le_of_ble_eq_true rfl) ⟨Nat.le_refl _, Nat.le_refl _⟩ dX12_first_21 (fun H locs h => ?_)
    clear hc
    refine lv_aload_n hx hb dX12_first_24 rfl (lv_at hl 0 rfl) ?_
    replace hf := bndv_some hf
    obtain ⟨g9, hc, hf⟩ := hf
    refine m_callVv [] C h cv_X12_310 (qX12_aimsNow hc) rfl ⟨rfl, rfl⟩ ⟨Nat.le_of_ble_eq_true rfl, Nat.le_of_ble_eq_true rfl⟩ (m_recv C h) hl.1 rfl (Nat.le_of_ble_eq_true rfl) ⟨Nat.le_refl _, Nat.le_refl _⟩ dX12_first_25 (fun H locs h => ?_)
    clear hc
    refine lv_iconst (v := (0 : Int32)) hx hb dX12_first_28 (by decide) ?_
    refine lv_istore_n (lv' := [(2, .int (0 : Int32)), (0, .ref (ad 48)), (1, .int a0)]) hx hb dX12_first_29 rfl hl (by decide) rfl (fun ls hl => ?_)
    exact wX12_first_30 C fuel g9 a0 (0 : Int32) hf H locs ls h (lv_sub hl [1, 2, 0] rfl)
  · replace hf := if_t hq hf
    clear hq
    refine lv_aload_n hx hb dX12_first_14 rfl (lv_at hl 0 rfl) ?_
    refine lv_iconst (v := (1 : Int32)) hx hb dX12_first_15 (by decide) ?_
    replace hf := bndc_some hf
    obtain ⟨x10, g11, hc, hf⟩ := hf
    refine m_callVi [.int (1 : Int32)] C h cv_X12_239 (qX12_fails hc) rfl ⟨rfl, rfl⟩ ⟨Nat.le_of_ble_eq_true rfl, Nat.le_of_ble_eq_true rfl⟩ (m_recv C h) hl.1 rfl (Nat.le_of_ble_eq_true rfl) ⟨Nat.le_refl _, Nat.le_refl _⟩ dX12_first_16 (fun H locs h => ?_)
    clear hc
    cases hf
    exact m_iret C h dX12_first_19

set_option maxHeartbeats 4000000 in
set_option maxRecDepth 100000 in
theorem wX12_laysSeen_77 (C : MCx p s m args meth c A RX12 cX12_laysSeen 4 none D cs)  {g' : MS}  {k11 : MS → Int32 → Int32 → Option (MS)} (hk11 : ∀ (g : MS) (y1 : Int32) (y2 : Int32), k11 g y1 y2 = some g' → ∀ (H : Heap) (locs : List Loc) (ls : Array Slot), MH D (MW cs ad g) A s H locs → lv_has ls 4 [(0, .ref (ad 48)), (1, .int y1), (2, .int y2)] → W p l e (rM 7) s m args below meth c H locs 0 0 (MQ below (GPost D none (MW cs ad g') A) args s 0 0 A) (F0 m 11 ls [])) : ∀ (n : Nat) (g : MS) (y1 : Int32) (y2 : Int32) (y3 : Int32), fX12_laysSeen_77 k11 n g y1 y2 y3 = some g' → ∀ (H : Heap) (locs : List Loc) (ls : Array Slot), MH D (MW cs ad g) A s H locs → lv_has ls 4 [(0, .ref (ad 48)), (1, .int y1), (2, .int y2), (3, .int y3)] → W p l e (rM 7) s m args below meth c H locs 0 0 (MQ below (GPost D none (MW cs ad g') A) args s 0 0 A) (F0 m 77 ls []) := by
  have hx := C.1
  have hb := C.2.1
  intro n
  induction n with
  | zero =>
    intro g y1 y2 y3 hf
    exact absurd hf (by simp [fX12_laysSeen_77])
  | succ n ih =>
    intro g y1 y2 y3 hf H locs ls h hl
    rw [fX12_laysSeen_77] at hf
    refine lv_iload_n hx hb dX12_laysSeen_77 rfl (lv_at hl 3 rfl) ?_
    refine lv_aload_n hx hb dX12_laysSeen_78 rfl (lv_at hl 0 rfl) ?_
    replace hf := bndc_some hf
    obtain ⟨x1, g2, hc, hf⟩ := hf
    refine m_callVi [] C h cv_X12_254 (qX12_size hc) rfl ⟨rfl, rfl⟩ ⟨Nat.le_of_ble_eq_true rfl, Nat.le_of_ble_eq_true rfl⟩ (m_recv C h) hl.1 rfl (Nat.le_of_ble_eq_true rfl) ⟨Nat.le_refl _, Nat.le_refl _⟩ dX12_laysSeen_79 (fun H locs h => ?_)
    clear hc
    refine lv_icmp_ge (tgt := 111) hx hb dX12_laysSeen_82 (by decide) (fun hq => ?_) (fun hq => ?_)
    · replace hf := if_t hq hf
      clear hq
      refine lv_aload_n hx hb dX12_laysSeen_111 rfl (lv_at hl 0 rfl) ?_
      refine lv_dup hx hb dX12_laysSeen_112 rfl ?_
      refine mg_44 C h dX12_laysSeen_113 ?_
      refine lv_iconst (v := (1 : Int32)) hx hb dX12_laysSeen_116 (by decide) ?_
      refine lv_iadd hx hb dX12_laysSeen_117 ?_
      replace hf := bnd_ex hf
      obtain ⟨g3, eg3, hf⟩ := hf
      refine mp_44 C h dX12_laysSeen_118 (fun H locs h => ?_)
      rw [← eg3] at h
      clear eg3
      obtain ⟨x4, ex4⟩ : ∃ z : Int32, z = y2 + (1 : Int32) := ⟨_, rfl⟩
      replace hf := bnd_at ex4 hf
      refine lv_iinc (v := x4) (lv' := [(2, .int x4), (0, .ref (ad 48)), (1, .int y1), (3, .int y3)]) hx hb dX12_laysSeen_121 hl (k := 2) rfl (by rw [ex4]; rfl) (by decide) rfl (fun ls hl => ?_)
      clear ex4
      refine lv_goto (tgt := 11) hx hb dX12_laysSeen_124 (by decide) ?_
      exact hk11 g3 y1 x4 hf H locs ls h (lv_sub hl [1, 2, 0] rfl)
    · replace hf := if_f hq hf
      clear hq
      refine lv_aload_n hx hb dX12_laysSeen_85 rfl (lv_at hl 0 rfl) ?_
      refine mg_43 C h dX12_laysSeen_86 ?_
      refine lv_bipush (v := (6 : Int32)) hx hb dX12_laysSeen_89 (by decide) ?_
      refine lv_aload_n hx hb dX12_laysSeen_91 rfl (lv_at hl 0 rfl) ?_
      refine mg_44 C h dX12_laysSeen_92 ?_
      refine lv_imul hx hb dX12_laysSeen_95 ?_
      refine lv_iload_n hx hb dX12_laysSeen_96 rfl (lv_at hl 3 rfl) ?_
      refine lv_iadd hx hb dX12_laysSeen_97 ?_
      refine lv_aload_n hx hb dX12_laysSeen_98 rfl (lv_at hl 0 rfl) ?_
      refine mg_21 C h dX12_laysSeen_99 ?_
      refine lv_iload_n hx hb dX12_laysSeen_102 rfl (lv_at hl 3 rfl) ?_
      replace hf := chk_some hf
      obtain ⟨hq, hf⟩ := hf
      refine ml_21 C h hq dX12_laysSeen_103 ?_
      clear hq
      replace hf := chk_some hf
      obtain ⟨hq, hf⟩ := hf
      replace hf := bnd_ex hf
      obtain ⟨g5, eg5, hf⟩ := hf
      refine ms_43 C h hq dX12_laysSeen_104 (fun H locs h => ?_)
      rw [← eg5] at h
      clear hq eg5
      obtain ⟨x6, ex6⟩ : ∃ z : Int32, z = y3 + (1 : Int32) := ⟨_, rfl⟩
      replace hf := bnd_at ex6 hf
      refine lv_iinc (v := x6) (lv' := [(3, .int x6), (0, .ref (ad 48)), (1, .int y1), (2, .int y2)]) hx hb dX12_laysSeen_105 hl (k := 3) rfl (by rw [ex6]; rfl) (by decide) rfl (fun ls hl => ?_)
      clear ex6
      refine lv_goto (tgt := 77) hx hb dX12_laysSeen_108 (by decide) ?_
      exact ih g5 y1 y2 x6 hf H locs ls h (lv_sub hl [1, 2, 3, 0] rfl)

set_option maxHeartbeats 4000000 in
set_option maxRecDepth 100000 in
theorem wX12_laysSeen_11 (C : MCx p s m args meth c A RX12 cX12_laysSeen 4 none D cs)  {g' : MS}  : ∀ (n : Nat) (g : MS) (y1 : Int32) (y2 : Int32), fX12_laysSeen_11 n g y1 y2 = some g' → ∀ (H : Heap) (locs : List Loc) (ls : Array Slot), MH D (MW cs ad g) A s H locs → lv_has ls 4 [(0, .ref (ad 48)), (1, .int y1), (2, .int y2)] → W p l e (rM 7) s m args below meth c H locs 0 0 (MQ below (GPost D none (MW cs ad g') A) args s 0 0 A) (F0 m 11 ls []) := by
  have hx := C.1
  have hb := C.2.1
  intro n
  induction n with
  | zero =>
    intro g y1 y2 hf
    exact absurd hf (by simp [fX12_laysSeen_11])
  | succ n ih =>
    intro g y1 y2 hf H locs ls h hl
    rw [fX12_laysSeen_11] at hf
    refine lv_iload_n hx hb dX12_laysSeen_11 rfl (lv_at hl 2 rfl) ?_
    refine lv_bipush (v := (10 : Int32)) hx hb dX12_laysSeen_12 (by decide) ?_
    refine lv_aload_n hx hb dX12_laysSeen_14 rfl (lv_at hl 0 rfl) ?_
    replace hf := bndc_some hf
    obtain ⟨x7, g8, hc, hf⟩ := hf
    refine m_callVi [] C h cv_X12_254 (qX12_size hc) rfl ⟨rfl, rfl⟩ ⟨Nat.le_of_ble_eq_true rfl, Nat.le_of_ble_eq_true rfl⟩ (m_recv C h) hl.1 rfl (Nat.le_of_ble_eq_true rfl) ⟨Nat.le_refl _, Nat.le_refl _⟩ dX12_laysSeen_15 (fun H locs h => ?_)
    clear hc
    refine lv_imul hx hb dX12_laysSeen_18 ?_
    refine lv_icmp_ge (tgt := 127) hx hb dX12_laysSeen_19 (by decide) (fun hq => ?_) (fun hq => ?_)
    · replace hf := if_t hq hf
      clear hq
      cases hf
      exact m_vret C h dX12_laysSeen_127
    · replace hf := if_f hq hf
      clear hq
      refine lv_aload_n hx hb dX12_laysSeen_22 rfl (lv_at hl 0 rfl) ?_
      refine lv_iload_n hx hb dX12_laysSeen_23 rfl (lv_at hl 2 rfl) ?_
      refine lv_bipush (v := (10 : Int32)) hx hb dX12_laysSeen_24 (by decide) ?_
      replace hf := chk_some hf
      obtain ⟨hq, hf⟩ := hf
      refine lv_idiv hx hb dX12_laysSeen_26 (nz_ne hq) ?_
      clear hq
      refine lv_i2l hx hb dX12_laysSeen_27 rfl ?_
      refine lv_iload_n hx hb dX12_laysSeen_28 rfl (lv_at hl 2 rfl) ?_
      refine lv_bipush (v := (10 : Int32)) hx hb dX12_laysSeen_29 (by decide) ?_
      replace hf := chk_some hf
      obtain ⟨hq, hf⟩ := hf
      refine x_irem hx hb dX12_laysSeen_31 (nz_ne hq) ?_
      clear hq
      refine lv_i2l hx hb dX12_laysSeen_32 rfl ?_
      replace hf := bndc_some hf
      obtain ⟨x9, g10, hc, hf⟩ := hf
      refine m_callVi [.long ((y2 / (10 : Int32)).toInt64), .long ((jrem y2 (10 : Int32)).toInt64)] C h cv_X12_337 (qX12_whyTurn hc) rfl ⟨rfl, rfl⟩ ⟨Nat.le_of_ble_eq_true rfl, Nat.le_of_ble_eq_true rfl⟩ (m_recv C h) hl.1 rfl (Nat.le_of_ble_eq_true rfl) ⟨Nat.le_refl _, Nat.le_refl _⟩ dX12_laysSeen_33 (fun H locs h => ?_)
      clear hc
      refine lv_if_eq (tgt := 42) hx hb dX12_laysSeen_36 (by decide) (fun hq => ?_) (fun hq => ?_)
      · replace hf := if_t hq hf
        clear hq
        refine lv_aload_n hx hb dX12_laysSeen_42 rfl (lv_at hl 0 rfl) ?_
        refine lv_iload_n hx hb dX12_laysSeen_43 rfl (lv_at hl 2 rfl) ?_
        refine lv_bipush (v := (10 : Int32)) hx hb dX12_laysSeen_44 (by decide) ?_
        replace hf := chk_some hf
        obtain ⟨hq, hf⟩ := hf
        refine lv_idiv hx hb dX12_laysSeen_46 (nz_ne hq) ?_
        clear hq
        refine lv_iload_n hx hb dX12_laysSeen_47 rfl (lv_at hl 2 rfl) ?_
        refine lv_bipush (v := (10 : Int32)) hx hb dX12_laysSeen_48 (by decide) ?_
        replace hf := chk_some hf
        obtain ⟨hq, hf⟩ := hf
        refine x_irem hx hb dX12_laysSeen_50 (nz_ne hq) ?_
        clear hq
        replace hf := bndv_some hf
        obtain ⟨g11, hc, hf⟩ := hf
        refine m_callVv [.int (y2 / (10 : Int32)), .int (jrem y2 (10 : Int32))] C h cv_X12_483 (qX12_aimsBehindOne hc) rfl ⟨rfl, rfl⟩ ⟨Nat.le_of_ble_eq_true rfl, Nat.le_of_ble_eq_true rfl⟩ (m_recv C h) hl.1 rfl (Nat.le_of_ble_eq_true rfl) ⟨Nat.le_refl _, Nat.le_refl _⟩ dX12_laysSeen_51 (fun H locs h => ?_)
        clear hc
        refine lv_aload_n hx hb dX12_laysSeen_54 rfl (lv_at hl 0 rfl) ?_
        refine lv_iload_n hx hb dX12_laysSeen_55 rfl (lv_at hl 1 rfl) ?_
        replace hf := bndc_some hf
        obtain ⟨x12, g13, hc, hf⟩ := hf
        refine m_callVi [.int y1] C h cv_X12_432 (qX12_looksSo hc) rfl ⟨rfl, rfl⟩ ⟨Nat.le_of_ble_eq_true rfl, Nat.le_of_ble_eq_true rfl⟩ (m_recv C h) hl.1 rfl (Nat.le_of_ble_eq_true rfl) ⟨Nat.le_refl _, Nat.le_refl _⟩ dX12_laysSeen_56 (fun H locs h => ?_)
        clear hc
        refine lv_if_ne (tgt := 65) hx hb dX12_laysSeen_59 (by decide) (fun hq => ?_) (fun hq => ?_)
        · replace hf := if_tn hq hf
          clear hq
          refine lv_aload_n hx hb dX12_laysSeen_65 rfl (lv_at hl 0 rfl) ?_
          refine mg_42 C h dX12_laysSeen_66 ?_
          refine lv_aload_n hx hb dX12_laysSeen_69 rfl (lv_at hl 0 rfl) ?_
          refine mg_44 C h dX12_laysSeen_70 ?_
          refine lv_iload_n hx hb dX12_laysSeen_73 rfl (lv_at hl 2 rfl) ?_
          replace hf := chk_some hf
          obtain ⟨hq, hf⟩ := hf
          replace hf := bnd_ex hf
          obtain ⟨g14, eg14, hf⟩ := hf
          refine ms_42 C h hq dX12_laysSeen_74 (fun H locs h => ?_)
          rw [← eg14] at h
          clear hq eg14
          refine lv_iconst (v := (0 : Int32)) hx hb dX12_laysSeen_75 (by decide) ?_
          refine lv_istore_n (lv' := [(3, .int (0 : Int32)), (0, .ref (ad 48)), (1, .int y1), (2, .int y2)]) hx hb dX12_laysSeen_76 rfl hl (by decide) rfl (fun ls hl => ?_)
          exact wX12_laysSeen_77 C ih fuel g14 y1 y2 (0 : Int32) hf H locs ls h (lv_sub hl [1, 2, 3, 0] rfl)
        · replace hf := if_t hq hf
          clear hq
          refine lv_goto (tgt := 121) hx hb dX12_laysSeen_62 (by decide) ?_
          obtain ⟨x15, ex15⟩ : ∃ z : Int32, z = y2 + (1 : Int32) := ⟨_, rfl⟩
          replace hf := bnd_at ex15 hf
          refine lv_iinc (v := x15) (lv' := [(2, .int x15), (0, .ref (ad 48)), (1, .int y1)]) hx hb dX12_laysSeen_121 hl (k := 2) rfl (by rw [ex15]; rfl) (by decide) rfl (fun ls hl => ?_)
          clear ex15
          refine lv_goto (tgt := 11) hx hb dX12_laysSeen_124 (by decide) ?_
          exact ih g13 y1 x15 hf H locs ls h (lv_sub hl [1, 2, 0] rfl)
      · replace hf := if_f hq hf
        clear hq
        refine lv_goto (tgt := 121) hx hb dX12_laysSeen_39 (by decide) ?_
        obtain ⟨x16, ex16⟩ : ∃ z : Int32, z = y2 + (1 : Int32) := ⟨_, rfl⟩
        replace hf := bnd_at ex16 hf
        refine lv_iinc (v := x16) (lv' := [(2, .int x16), (0, .ref (ad 48)), (1, .int y1)]) hx hb dX12_laysSeen_121 hl (k := 2) rfl (by rw [ex16]; rfl) (by decide) rfl (fun ls hl => ?_)
        clear ex16
        refine lv_goto (tgt := 11) hx hb dX12_laysSeen_124 (by decide) ?_
        exact ih g10 y1 x16 hf H locs ls h (lv_sub hl [1, 2, 0] rfl)

set_option maxHeartbeats 4000000 in
set_option maxRecDepth 100000 in
theorem qX12_laysSeen {l : Launch} {D : va_G} {cs : Nat → ClassId} {ad : Nat → Nat} {g' : MS} {g : MS}  {a0 : Int32} (hf : fX12_laysSeen g a0 = some g') : GCon l D cs yX12_laysSeen cX12_laysSeen 4 none (rM 7) 0 0 [.ref (ad 48), .int a0] (MW cs ad g) none (MW cs ad g') := by
  refine GCon.of (by decide) (Nat.le_of_ble_eq_true rfl) ?_
  intro p e s m args below meth c A ls H locs C h hl
  have hx := C.1
  have hb := C.2.1
  have C : MCx p s m args meth c A RX12 cX12_laysSeen 4 none D cs := C
  have hl : lv_has ls 4 [(0, .ref (ad 48)), (1, .int a0)] := hl
  unfold fX12_laysSeen at hf
  refine lv_aload_n hx hb dX12_laysSeen_0 rfl (lv_at hl 0 rfl) ?_
  refine lv_iconst (v := (0 : Int32)) hx hb dX12_laysSeen_1 (by decide) ?_
  replace hf := bnd_ex hf
  obtain ⟨g17, eg17, hf⟩ := hf
  refine mp_44 C h dX12_laysSeen_2 (fun H locs h => ?_)
  rw [← eg17] at h
  clear eg17
  refine lv_aload_n hx hb dX12_laysSeen_5 rfl (lv_at hl 0 rfl) ?_
  replace hf := bndv_some hf
  obtain ⟨g18, hc, hf⟩ := hf
  refine m_callVv [] C h cv_X12_423 (qX12_laysAlong hc) rfl ⟨rfl, rfl⟩ ⟨Nat.le_of_ble_eq_true rfl, Nat.le_of_ble_eq_true rfl⟩ (m_recv C h) hl.1 rfl (Nat.le_of_ble_eq_true rfl) ⟨Nat.le_refl _, Nat.le_refl _⟩ dX12_laysSeen_6 (fun H locs h => ?_)
  clear hc
  refine lv_iconst (v := (0 : Int32)) hx hb dX12_laysSeen_9 (by decide) ?_
  refine lv_istore_n (lv' := [(2, .int (0 : Int32)), (0, .ref (ad 48)), (1, .int a0)]) hx hb dX12_laysSeen_10 rfl hl (by decide) rfl (fun ls hl => ?_)
  exact wX12_laysSeen_11 C fuel g18 a0 (0 : Int32) hf H locs ls h (lv_sub hl [1, 2, 0] rfl)

set_option maxHeartbeats 4000000 in
set_option maxRecDepth 100000 in
theorem qX12_seen {l : Launch} {D : va_G} {cs : Nat → ClassId} {ad : Nat → Nat} {r : Int32} {g' : MS} {g : MS}  {a0 : Int32} (hf : fX12_seen g a0 = some (r, g')) : GCon l D cs yX12_seen cX12_seen 2 (some .int) (rM 8) 0 0 [.ref (ad 48), .int a0] (MW cs ad g) (some (.int r)) (MW cs ad g') := by
  refine GCon.of (by decide) (Nat.le_of_ble_eq_true rfl) ?_
  intro p e s m args below meth c A ls H locs C h hl
  have hx := C.1
  have hb := C.2.1
  have C : MCx p s m args meth c A RX12 cX12_seen 2 (some .int) D cs := C
  have hl : lv_has ls 2 [(0, .ref (ad 48)), (1, .int a0)] := hl
  unfold fX12_seen at hf
  refine lv_aload_n hx hb dX12_seen_0 rfl (lv_at hl 0 rfl) ?_
  refine lv_aload_n hx hb dX12_seen_1 rfl (lv_at hl 0 rfl) ?_
  refine lv_iload_n hx hb dX12_seen_2 rfl (lv_at hl 1 rfl) ?_
  replace hf := bndc_some hf
  obtain ⟨x1, g2, hc, hf⟩ := hf
  refine m_callVi [.int a0] C h cv_X12_468 (qX12_lookFault hc) rfl ⟨rfl, rfl⟩ ⟨Nat.le_of_ble_eq_true rfl, Nat.le_of_ble_eq_true rfl⟩ (m_recv C h) hl.1 rfl (Nat.le_of_ble_eq_true rfl) ⟨Nat.le_refl _, Nat.le_refl _⟩ dX12_seen_3 (fun H locs h => ?_)
  clear hc
  replace hf := bnd_ex hf
  obtain ⟨g3, eg3, hf⟩ := hf
  refine mp_4 C h dX12_seen_6 (fun H locs h => ?_)
  rw [← eg3] at h
  clear eg3
  refine lv_aload_n hx hb dX12_seen_9 rfl (lv_at hl 0 rfl) ?_
  refine mg_4 C h dX12_seen_10 ?_
  refine lv_if_le (tgt := 18) hx hb dX12_seen_13 (by decide) (fun hq => ?_) (fun hq => ?_)
  · replace hf := if_t hq hf
    clear hq
    refine lv_aload_n hx hb dX12_seen_18 rfl (lv_at hl 0 rfl) ?_
    refine lv_iload_n hx hb dX12_seen_19 rfl (lv_at hl 1 rfl) ?_
    replace hf := bndv_some hf
    obtain ⟨g4, hc, hf⟩ := hf
    refine m_callVv [.int a0] C h cv_X12_508 (qX12_laysSeen hc) rfl ⟨rfl, rfl⟩ ⟨Nat.le_of_ble_eq_true rfl, Nat.le_of_ble_eq_true rfl⟩ (m_recv C h) hl.1 rfl (Nat.le_of_ble_eq_true rfl) ⟨Nat.le_refl _, Nat.le_refl _⟩ dX12_seen_20 (fun H locs h => ?_)
    clear hc
    refine lv_aload_n hx hb dX12_seen_23 rfl (lv_at hl 0 rfl) ?_
    refine mg_44 C h dX12_seen_24 ?_
    cases hf
    exact m_iret C h dX12_seen_27
  · replace hf := if_f hq hf
    clear hq
    refine lv_iconst (v := (0 : Int32)) hx hb dX12_seen_16 (by decide) ?_
    cases hf
    exact m_iret C h dX12_seen_17

set_option maxHeartbeats 4000000 in
set_option maxRecDepth 100000 in
theorem wX12_seenAt_25 (C : MCx p s m args meth c A RX12 cX12_seenAt 3 (some .int) D cs)  {r : Int32} {g' : MS}  : ∀ (g : MS) (y1 : Int32) (y2 : Int32), fX12_seenAt_25 g y1 y2 = some (r, g') → ∀ (H : Heap) (locs : List Loc) (ls : Array Slot), MH D (MW cs ad g) A s H locs → lv_has ls 3 [(0, .ref (ad 48)), (1, .int y1), (2, .int y2)] → W p l e (rM 8) s m args below meth c H locs 0 0 (MQ below (GPost D (some (.int r)) (MW cs ad g') A) args s 0 0 A) (F0 m 25 ls []) := by
  have hx := C.1
  have hb := C.2.1
  intro g y1 y2 hf H locs ls h hl
  unfold fX12_seenAt_25 at hf
  refine lv_aload_n hx hb dX12_seenAt_25 rfl (lv_at hl 0 rfl) ?_
  refine mg_4 C h dX12_seenAt_26 ?_
  refine lv_if_le (tgt := 34) hx hb dX12_seenAt_29 (by decide) (fun hq => ?_) (fun hq => ?_)
  · replace hf := if_t hq hf
    clear hq
    refine lv_aload_n hx hb dX12_seenAt_34 rfl (lv_at hl 0 rfl) ?_
    refine lv_iload_n hx hb dX12_seenAt_35 rfl (lv_at hl 1 rfl) ?_
    replace hf := bndv_some hf
    obtain ⟨g1, hc, hf⟩ := hf
    refine m_callVv [.int y1] C h cv_X12_508 (qX12_laysSeen hc) rfl ⟨rfl, rfl⟩ ⟨Nat.le_of_ble_eq_true rfl, Nat.le_of_ble_eq_true rfl⟩ (m_recv C h) hl.1 rfl (Nat.le_of_ble_eq_true rfl) ⟨Nat.le_refl _, Nat.le_refl _⟩ dX12_seenAt_36 (fun H locs h => ?_)
    clear hc
    refine lv_iload_n hx hb dX12_seenAt_39 rfl (lv_at hl 2 rfl) ?_
    refine lv_aload_n hx hb dX12_seenAt_40 rfl (lv_at hl 0 rfl) ?_
    refine mg_44 C h dX12_seenAt_41 ?_
    refine lv_icmp_ge (tgt := 56) hx hb dX12_seenAt_44 (by decide) (fun hq => ?_) (fun hq => ?_)
    · replace hf := if_t hq hf
      clear hq
      refine lv_iconst (v := (-1 : Int32)) hx hb dX12_seenAt_56 (by decide) ?_
      cases hf
      exact m_iret C h dX12_seenAt_57
    · replace hf := if_f hq hf
      clear hq
      refine lv_aload_n hx hb dX12_seenAt_47 rfl (lv_at hl 0 rfl) ?_
      refine mg_42 C h dX12_seenAt_48 ?_
      refine lv_iload_n hx hb dX12_seenAt_51 rfl (lv_at hl 2 rfl) ?_
      replace hf := chk_some hf
      obtain ⟨hq, hf⟩ := hf
      refine ml_42 C h hq dX12_seenAt_52 ?_
      clear hq
      refine lv_goto (tgt := 57) hx hb dX12_seenAt_53 (by decide) ?_
      cases hf
      exact m_iret C h dX12_seenAt_57
  · replace hf := if_f hq hf
    clear hq
    refine lv_iconst (v := (0 : Int32)) hx hb dX12_seenAt_32 (by decide) ?_
    cases hf
    exact m_iret C h dX12_seenAt_33

set_option maxHeartbeats 4000000 in
set_option maxRecDepth 100000 in
theorem qX12_seenAt {l : Launch} {D : va_G} {cs : Nat → ClassId} {ad : Nat → Nat} {r : Int32} {g' : MS} {g : MS}  {a0 : Int32} {a1 : Int32} (hf : fX12_seenAt g a0 a1 = some (r, g')) : GCon l D cs yX12_seenAt cX12_seenAt 3 (some .int) (rM 8) 0 0 [.ref (ad 48), .int a0, .int a1] (MW cs ad g) (some (.int r)) (MW cs ad g') := by
  refine GCon.of (by decide) (Nat.le_of_ble_eq_true rfl) ?_
  intro p e s m args below meth c A ls H locs C h hl
  have hx := C.1
  have hb := C.2.1
  have C : MCx p s m args meth c A RX12 cX12_seenAt 3 (some .int) D cs := C
  have hl : lv_has ls 3 [(0, .ref (ad 48)), (1, .int a0), (2, .int a1)] := hl
  unfold fX12_seenAt at hf
  refine lv_aload_n hx hb dX12_seenAt_0 rfl (lv_at hl 0 rfl) ?_
  refine lv_aload_n hx hb dX12_seenAt_1 rfl (lv_at hl 0 rfl) ?_
  refine lv_iload_n hx hb dX12_seenAt_2 rfl (lv_at hl 1 rfl) ?_
  replace hf := bndc_some hf
  obtain ⟨x2, g3, hc, hf⟩ := hf
  refine m_callVi [.int a0] C h cv_X12_468 (qX12_lookFault hc) rfl ⟨rfl, rfl⟩ ⟨Nat.le_of_ble_eq_true rfl, Nat.le_of_ble_eq_true rfl⟩ (m_recv C h) hl.1 rfl (Nat.le_of_ble_eq_true rfl) ⟨Nat.le_refl _, Nat.le_refl _⟩ dX12_seenAt_3 (fun H locs h => ?_)
  clear hc
  replace hf := bnd_ex hf
  obtain ⟨g4, eg4, hf⟩ := hf
  refine mp_4 C h dX12_seenAt_6 (fun H locs h => ?_)
  rw [← eg4] at h
  clear eg4
  refine lv_aload_n hx hb dX12_seenAt_9 rfl (lv_at hl 0 rfl) ?_
  refine mg_4 C h dX12_seenAt_10 ?_
  refine lv_if_ne (tgt := 25) hx hb dX12_seenAt_13 (by decide) (fun hq => ?_) (fun hq => ?_)
  · replace hf := if_tn hq hf
    clear hq
    exact wX12_seenAt_25 C g4 a0 a1 hf H locs ls h (lv_sub hl [0, 1, 2] rfl)
  · replace hf := if_t hq hf
    clear hq
    refine lv_iload_n hx hb dX12_seenAt_16 rfl (lv_at hl 2 rfl) ?_
    refine lv_if_ge (tgt := 25) hx hb dX12_seenAt_17 (by decide) (fun hq => ?_) (fun hq => ?_)
    · replace hf := if_t hq hf
      clear hq
      exact wX12_seenAt_25 C g4 a0 a1 hf H locs ls h (lv_sub hl [0, 1, 2] rfl)
    · replace hf := if_f hq hf
      clear hq
      refine lv_aload_n hx hb dX12_seenAt_20 rfl (lv_at hl 0 rfl) ?_
      refine lv_iconst (v := (3 : Int32)) hx hb dX12_seenAt_21 (by decide) ?_
      replace hf := bnd_ex hf
      obtain ⟨g5, eg5, hf⟩ := hf
      refine mp_4 C h dX12_seenAt_22 (fun H locs h => ?_)
      rw [← eg5] at h
      clear eg5
      exact wX12_seenAt_25 C g5 a0 a1 hf H locs ls h (lv_sub hl [0, 1, 2] rfl)

set_option maxHeartbeats 4000000 in
set_option maxRecDepth 100000 in
theorem wX12_mostAlike_60 (C : MCx p s m args meth c A RX12 cX12_mostAlike 6 (some .int) D cs)  {r : Int32} {g' : MS}  {k4 : MS → Int32 → Int32 → Int32 → Option (Int32 × MS)} (hk4 : ∀ (g : MS) (y1 : Int32) (y2 : Int32) (y3 : Int32), k4 g y1 y2 y3 = some (r, g') → ∀ (H : Heap) (locs : List Loc) (ls : Array Slot), MH D (MW cs ad g) A s H locs → lv_has ls 6 [(0, .ref (ad 48)), (1, .int y1), (2, .int y2), (3, .int y3)] → W p l e (rM 1) s m args below meth c H locs 0 0 (MQ below (GPost D (some (.int r)) (MW cs ad g') A) args s 0 0 A) (F0 m 4 ls [])) {k18 : MS → Int32 → Int32 → Int32 → Int32 → Int32 → Option (Int32 × MS)} (hk18 : ∀ (g : MS) (y1 : Int32) (y2 : Int32) (y3 : Int32) (y4 : Int32) (y5 : Int32), k18 g y1 y2 y3 y4 y5 = some (r, g') → ∀ (H : Heap) (locs : List Loc) (ls : Array Slot), MH D (MW cs ad g) A s H locs → lv_has ls 6 [(0, .ref (ad 48)), (1, .int y1), (2, .int y2), (3, .int y3), (4, .int y4), (5, .int y5)] → W p l e (rM 1) s m args below meth c H locs 0 0 (MQ below (GPost D (some (.int r)) (MW cs ad g') A) args s 0 0 A) (F0 m 18 ls [])) : ∀ (g : MS) (y1 : Int32) (y2 : Int32) (y3 : Int32) (y5 : Int32) (t0 : Int32) (t1 : Int32), fX12_mostAlike_60 k4 k18 g y1 y2 y3 y5 t0 t1 = some (r, g') → ∀ (H : Heap) (locs : List Loc) (ls : Array Slot), MH D (MW cs ad g) A s H locs → lv_has ls 6 [(0, .ref (ad 48)), (1, .int y1), (2, .int y2), (3, .int y3), (5, .int y5)] → W p l e (rM 1) s m args below meth c H locs 0 0 (MQ below (GPost D (some (.int r)) (MW cs ad g') A) args s 0 0 A) (F0 m 60 ls [.int t1, .int t0]) := by
  have hx := C.1
  have hb := C.2.1
  intro g y1 y2 y3 y5 t0 t1 hf H locs ls h hl
  unfold fX12_mostAlike_60 at hf
  refine lv_iadd hx hb dX12_mostAlike_60 ?_
  refine lv_topi (fun x1 ex1 => ?_)
  replace hf := bnd_at ex1 hf
  clear ex1
  refine lv_istore (lv' := [(4, .int x1), (0, .ref (ad 48)), (1, .int y1), (2, .int y2), (3, .int y3), (5, .int y5)]) hx hb dX12_mostAlike_61 hl (by decide) rfl (fun ls hl => ?_)
  obtain ⟨x2, ex2⟩ : ∃ z : Int32, z = y5 + (1 : Int32) := ⟨_, rfl⟩
  replace hf := bnd_at ex2 hf
  refine lv_iinc (v := x2) (lv' := [(5, .int x2), (4, .int x1), (0, .ref (ad 48)), (1, .int y1), (2, .int y2), (3, .int y3)]) hx hb dX12_mostAlike_63 hl (k := 5) rfl (by rw [ex2]; rfl) (by decide) rfl (fun ls hl => ?_)
  clear ex2
  refine lv_goto (tgt := 18) hx hb dX12_mostAlike_66 (by decide) ?_
  exact hk18 g y1 y2 y3 x1 x2 hf H locs ls h (lv_sub hl [2, 3, 4, 5, 1, 0] rfl)

set_option maxHeartbeats 4000000 in
set_option maxRecDepth 100000 in
theorem wX12_mostAlike_18 (C : MCx p s m args meth c A RX12 cX12_mostAlike 6 (some .int) D cs)  {r : Int32} {g' : MS}  {k4 : MS → Int32 → Int32 → Int32 → Option (Int32 × MS)} (hk4 : ∀ (g : MS) (y1 : Int32) (y2 : Int32) (y3 : Int32), k4 g y1 y2 y3 = some (r, g') → ∀ (H : Heap) (locs : List Loc) (ls : Array Slot), MH D (MW cs ad g) A s H locs → lv_has ls 6 [(0, .ref (ad 48)), (1, .int y1), (2, .int y2), (3, .int y3)] → W p l e (rM 1) s m args below meth c H locs 0 0 (MQ below (GPost D (some (.int r)) (MW cs ad g') A) args s 0 0 A) (F0 m 4 ls [])) : ∀ (n : Nat) (g : MS) (y1 : Int32) (y2 : Int32) (y3 : Int32) (y4 : Int32) (y5 : Int32), fX12_mostAlike_18 k4 n g y1 y2 y3 y4 y5 = some (r, g') → ∀ (H : Heap) (locs : List Loc) (ls : Array Slot), MH D (MW cs ad g) A s H locs → lv_has ls 6 [(0, .ref (ad 48)), (1, .int y1), (2, .int y2), (3, .int y3), (4, .int y4), (5, .int y5)] → W p l e (rM 1) s m args below meth c H locs 0 0 (MQ below (GPost D (some (.int r)) (MW cs ad g') A) args s 0 0 A) (F0 m 18 ls []) := by
  have hx := C.1
  have hb := C.2.1
  intro n
  induction n with
  | zero =>
    intro g y1 y2 y3 y4 y5 hf
    exact absurd hf (by simp [fX12_mostAlike_18])
  | succ n ih =>
    intro g y1 y2 y3 y4 y5 hf H locs ls h hl
    rw [fX12_mostAlike_18] at hf
    refine lv_iload hx hb dX12_mostAlike_18 (lv_at hl 5 rfl) ?_
    refine lv_aload_n hx hb dX12_mostAlike_20 rfl (lv_at hl 0 rfl) ?_
    refine mg_44 C h dX12_mostAlike_21 ?_
    refine lv_icmp_ge (tgt := 69) hx hb dX12_mostAlike_24 (by decide) (fun hq => ?_) (fun hq => ?_)
    · replace hf := if_t hq hf
      clear hq
      refine lv_iload_n hx hb dX12_mostAlike_69 rfl (lv_at hl 2 rfl) ?_
      refine lv_iload hx hb dX12_mostAlike_70 (lv_at hl 4 rfl) ?_
      refine x_max tb_29_21 C hl.1 (Nat.le_of_ble_eq_true rfl) (Nat.le_of_ble_eq_true rfl) (Nat.le_refl _) (Nat.le_refl _) dX12_mostAlike_72 ?_
      refine lv_topi (fun x3 ex3 => ?_)
      replace hf := bnd_at ex3 hf
      clear ex3
      refine lv_istore_n (lv' := [(2, .int x3), (0, .ref (ad 48)), (1, .int y1), (3, .int y3), (4, .int y4), (5, .int y5)]) hx hb dX12_mostAlike_75 rfl hl (by decide) rfl (fun ls hl => ?_)
      obtain ⟨x4, ex4⟩ : ∃ z : Int32, z = y3 + (1 : Int32) := ⟨_, rfl⟩
      replace hf := bnd_at ex4 hf
      refine lv_iinc (v := x4) (lv' := [(3, .int x4), (2, .int x3), (0, .ref (ad 48)), (1, .int y1), (4, .int y4), (5, .int y5)]) hx hb dX12_mostAlike_76 hl (k := 3) rfl (by rw [ex4]; rfl) (by decide) rfl (fun ls hl => ?_)
      clear ex4
      refine lv_goto (tgt := 4) hx hb dX12_mostAlike_79 (by decide) ?_
      exact hk4 g y1 x3 x4 hf H locs ls h (lv_sub hl [2, 3, 1, 0] rfl)
    · replace hf := if_f hq hf
      clear hq
      refine lv_iload hx hb dX12_mostAlike_27 (lv_at hl 4 rfl) ?_
      refine lv_aload_n hx hb dX12_mostAlike_29 rfl (lv_at hl 0 rfl) ?_
      refine mg_43 C h dX12_mostAlike_30 ?_
      refine lv_bipush (v := (6 : Int32)) hx hb dX12_mostAlike_33 (by decide) ?_
      refine lv_iload hx hb dX12_mostAlike_35 (lv_at hl 5 rfl) ?_
      refine lv_imul hx hb dX12_mostAlike_37 ?_
      refine lv_iload_n hx hb dX12_mostAlike_38 rfl (lv_at hl 1 rfl) ?_
      refine lv_iadd hx hb dX12_mostAlike_39 ?_
      replace hf := chk_some hf
      obtain ⟨hq, hf⟩ := hf
      refine ml_43 C h hq dX12_mostAlike_40 ?_
      clear hq
      refine lv_aload_n hx hb dX12_mostAlike_41 rfl (lv_at hl 0 rfl) ?_
      refine mg_43 C h dX12_mostAlike_42 ?_
      refine lv_bipush (v := (6 : Int32)) hx hb dX12_mostAlike_45 (by decide) ?_
      refine lv_iload_n hx hb dX12_mostAlike_47 rfl (lv_at hl 3 rfl) ?_
      refine lv_imul hx hb dX12_mostAlike_48 ?_
      refine lv_iload_n hx hb dX12_mostAlike_49 rfl (lv_at hl 1 rfl) ?_
      refine lv_iadd hx hb dX12_mostAlike_50 ?_
      replace hf := chk_some hf
      obtain ⟨hq, hf⟩ := hf
      refine ml_43 C h hq dX12_mostAlike_51 ?_
      clear hq
      refine lv_icmp_ne (tgt := 59) hx hb dX12_mostAlike_52 (by decide) (fun hq => ?_) (fun hq => ?_)
      · replace hf := if_tn hq hf
        clear hq
        refine lv_iconst (v := (0 : Int32)) hx hb dX12_mostAlike_59 (by decide) ?_
        exact wX12_mostAlike_60 C hk4 ih g y1 y2 y3 y5 y4 (0 : Int32) hf H locs ls h (lv_sub hl [0, 1, 2, 3, 5] rfl)
      · replace hf := if_t hq hf
        clear hq
        refine lv_iconst (v := (1 : Int32)) hx hb dX12_mostAlike_55 (by decide) ?_
        refine lv_goto (tgt := 60) hx hb dX12_mostAlike_56 (by decide) ?_
        exact wX12_mostAlike_60 C hk4 ih g y1 y2 y3 y5 y4 (1 : Int32) hf H locs ls h (lv_sub hl [0, 1, 2, 3, 5] rfl)

set_option maxHeartbeats 4000000 in
set_option maxRecDepth 100000 in
theorem wX12_mostAlike_4 (C : MCx p s m args meth c A RX12 cX12_mostAlike 6 (some .int) D cs)  {r : Int32} {g' : MS}  : ∀ (n : Nat) (g : MS) (y1 : Int32) (y2 : Int32) (y3 : Int32), fX12_mostAlike_4 n g y1 y2 y3 = some (r, g') → ∀ (H : Heap) (locs : List Loc) (ls : Array Slot), MH D (MW cs ad g) A s H locs → lv_has ls 6 [(0, .ref (ad 48)), (1, .int y1), (2, .int y2), (3, .int y3)] → W p l e (rM 1) s m args below meth c H locs 0 0 (MQ below (GPost D (some (.int r)) (MW cs ad g') A) args s 0 0 A) (F0 m 4 ls []) := by
  have hx := C.1
  have hb := C.2.1
  intro n
  induction n with
  | zero =>
    intro g y1 y2 y3 hf
    exact absurd hf (by simp [fX12_mostAlike_4])
  | succ n ih =>
    intro g y1 y2 y3 hf H locs ls h hl
    rw [fX12_mostAlike_4] at hf
    refine lv_iload_n hx hb dX12_mostAlike_4 rfl (lv_at hl 3 rfl) ?_
    refine lv_aload_n hx hb dX12_mostAlike_5 rfl (lv_at hl 0 rfl) ?_
    refine mg_44 C h dX12_mostAlike_6 ?_
    refine lv_icmp_ge (tgt := 82) hx hb dX12_mostAlike_9 (by decide) (fun hq => ?_) (fun hq => ?_)
    · replace hf := if_t hq hf
      clear hq
      refine lv_iload_n hx hb dX12_mostAlike_82 rfl (lv_at hl 2 rfl) ?_
      cases hf
      exact m_iret C h dX12_mostAlike_83
    · replace hf := if_f hq hf
      clear hq
      refine lv_iconst (v := (0 : Int32)) hx hb dX12_mostAlike_12 (by decide) ?_
      refine lv_istore (lv' := [(4, .int (0 : Int32)), (0, .ref (ad 48)), (1, .int y1), (2, .int y2), (3, .int y3)]) hx hb dX12_mostAlike_13 hl (by decide) rfl (fun ls hl => ?_)
      refine lv_iconst (v := (0 : Int32)) hx hb dX12_mostAlike_15 (by decide) ?_
      refine lv_istore (lv' := [(5, .int (0 : Int32)), (4, .int (0 : Int32)), (0, .ref (ad 48)), (1, .int y1), (2, .int y2), (3, .int y3)]) hx hb dX12_mostAlike_16 hl (by decide) rfl (fun ls hl => ?_)
      exact wX12_mostAlike_18 C ih fuel g y1 y2 y3 (0 : Int32) (0 : Int32) hf H locs ls h (lv_sub hl [2, 3, 4, 5, 1, 0] rfl)

set_option maxHeartbeats 4000000 in
set_option maxRecDepth 100000 in
theorem qX12_mostAlike {l : Launch} {D : va_G} {cs : Nat → ClassId} {ad : Nat → Nat} {r : Int32} {g' : MS} {g : MS}  {a0 : Int32} (hf : fX12_mostAlike g a0 = some (r, g')) : GCon l D cs yX12_mostAlike cX12_mostAlike 6 (some .int) (rM 1) 0 0 [.ref (ad 48), .int a0] (MW cs ad g) (some (.int r)) (MW cs ad g') := by
  refine GCon.of (by decide) (Nat.le_of_ble_eq_true rfl) ?_
  intro p e s m args below meth c A ls H locs C h hl
  have hx := C.1
  have hb := C.2.1
  have C : MCx p s m args meth c A RX12 cX12_mostAlike 6 (some .int) D cs := C
  have hl : lv_has ls 6 [(0, .ref (ad 48)), (1, .int a0)] := hl
  unfold fX12_mostAlike at hf
  refine lv_iconst (v := (0 : Int32)) hx hb dX12_mostAlike_0 (by decide) ?_
  refine lv_istore_n (lv' := [(2, .int (0 : Int32)), (0, .ref (ad 48)), (1, .int a0)]) hx hb dX12_mostAlike_1 rfl hl (by decide) rfl (fun ls hl => ?_)
  refine lv_iconst (v := (0 : Int32)) hx hb dX12_mostAlike_2 (by decide) ?_
  refine lv_istore_n (lv' := [(3, .int (0 : Int32)), (2, .int (0 : Int32)), (0, .ref (ad 48)), (1, .int a0)]) hx hb dX12_mostAlike_3 rfl hl (by decide) rfl (fun ls hl => ?_)
  exact wX12_mostAlike_4 C fuel g a0 (0 : Int32) (0 : Int32) hf H locs ls h (lv_sub hl [2, 3, 1, 0] rfl)

set_option maxHeartbeats 4000000 in
set_option maxRecDepth 100000 in
theorem wX12_ask_32 (C : MCx p s m args meth c A RX12 cX12_ask 5 (some .int) D cs)  {r : Int32} {g' : MS}  : ∀ (n : Nat) (g : MS) (y1 : Int32) (y2 : Int32) (y3 : Int32) (y4 : Int32), fX12_ask_32 n g y1 y2 y3 y4 = some (r, g') → ∀ (H : Heap) (locs : List Loc) (ls : Array Slot), MH D (MW cs ad g) A s H locs → lv_has ls 5 [(0, .ref (ad 48)), (1, .int y1), (2, .int y2), (3, .int y3), (4, .int y4)] → W p l e (rM 8) s m args below meth c H locs 0 0 (MQ below (GPost D (some (.int r)) (MW cs ad g') A) args s 0 0 A) (F0 m 32 ls []) := by
  have hx := C.1
  have hb := C.2.1
  intro n
  induction n with
  | zero =>
    intro g y1 y2 y3 y4 hf
    exact absurd hf (by simp [fX12_ask_32])
  | succ n ih =>
    intro g y1 y2 y3 y4 hf H locs ls h hl
    rw [fX12_ask_32] at hf
    refine lv_iload hx hb dX12_ask_32 (lv_at hl 4 rfl) ?_
    refine lv_aload_n hx hb dX12_ask_34 rfl (lv_at hl 0 rfl) ?_
    replace hf := bndc_some hf
    obtain ⟨x1, g2, hc, hf⟩ := hf
    refine m_callVi [] C h cv_X12_254 (qX12_size hc) rfl ⟨rfl, rfl⟩ ⟨Nat.le_of_ble_eq_true rfl, Nat.le_of_ble_eq_true rfl⟩ (m_recv C h) hl.1 rfl (Nat.le_of_ble_eq_true rfl) ⟨Nat.le_refl _, Nat.le_refl _⟩ dX12_ask_35 (fun H locs h => ?_)
    clear hc
    refine lv_icmp_ge (tgt := 96) hx hb dX12_ask_38 (by decide) (fun hq => ?_) (fun hq => ?_)
    · replace hf := if_t hq hf
      clear hq
      refine lv_iload_n hx hb dX12_ask_96 rfl (lv_at hl 2 rfl) ?_
      cases hf
      exact m_iret C h dX12_ask_97
    · replace hf := if_f hq hf
      clear hq
      refine lv_aload_n hx hb dX12_ask_41 rfl (lv_at hl 0 rfl) ?_
      refine mg_44 C h dX12_ask_42 ?_
      refine lv_if_le (tgt := 96) hx hb dX12_ask_45 (by decide) (fun hq => ?_) (fun hq => ?_)
      · replace hf := if_t hq hf
        clear hq
        refine lv_iload_n hx hb dX12_ask_96 rfl (lv_at hl 2 rfl) ?_
        cases hf
        exact m_iret C h dX12_ask_97
      · replace hf := if_f hq hf
        clear hq
        refine lv_aload_n hx hb dX12_ask_48 rfl (lv_at hl 0 rfl) ?_
        refine mg_47 C h dX12_ask_49 ?_
        refine lv_bipush (v := (30 : Int32)) hx hb dX12_ask_52 (by decide) ?_
        refine lv_iload_n hx hb dX12_ask_54 rfl (lv_at hl 1 rfl) ?_
        refine lv_imul hx hb dX12_ask_55 ?_
        refine lv_iload hx hb dX12_ask_56 (lv_at hl 4 rfl) ?_
        refine lv_iadd hx hb dX12_ask_58 ?_
        replace hf := chk_some hf
        obtain ⟨hq, hf⟩ := hf
        refine ml_47 C h hq dX12_ask_59 ?_
        clear hq
        refine lv_ldc2 hx hb C.2.2.2.1 (C.2.2.2.2.1 _ tb_40_21) dX12_ask_60 ?_
        refine W.lcmp hx hb dX12_ask_63 ?_
        refine lv_if_ne (tgt := 90) hx hb dX12_ask_64 (by decide) (fun hq => ?_) (fun hq => ?_)
        · replace hf := if_tn hq hf
          clear hq
          obtain ⟨x3, ex3⟩ : ∃ z : Int32, z = y4 + (1 : Int32) := ⟨_, rfl⟩
          replace hf := bnd_at ex3 hf
          refine lv_iinc (v := x3) (lv' := [(4, .int x3), (0, .ref (ad 48)), (1, .int y1), (2, .int y2), (3, .int y3)]) hx hb dX12_ask_90 hl (k := 4) rfl (by rw [ex3]; rfl) (by decide) rfl (fun ls hl => ?_)
          clear ex3
          refine lv_goto (tgt := 32) hx hb dX12_ask_93 (by decide) ?_
          exact ih g2 y1 y2 y3 x3 hf H locs ls h (lv_sub hl [1, 2, 3, 4, 0] rfl)
        · replace hf := if_t hq hf
          clear hq
          refine lv_aload_n hx hb dX12_ask_67 rfl (lv_at hl 0 rfl) ?_
          refine lv_iload hx hb dX12_ask_68 (lv_at hl 4 rfl) ?_
          replace hf := bndc_some hf
          obtain ⟨x4, g5, hc, hf⟩ := hf
          refine m_callVi [.int y4] C h cv_X12_511 (qX12_mostAlike hc) rfl ⟨rfl, rfl⟩ ⟨Nat.le_of_ble_eq_true rfl, Nat.le_of_ble_eq_true rfl⟩ (m_recv C h) hl.1 rfl (Nat.le_of_ble_eq_true rfl) ⟨Nat.le_refl _, Nat.le_refl _⟩ dX12_ask_70 (fun H locs h => ?_)
          clear hc
          refine lv_iload_n hx hb dX12_ask_73 rfl (lv_at hl 3 rfl) ?_
          refine lv_icmp_lt (tgt := 80) hx hb dX12_ask_74 (by decide) (fun hq => ?_) (fun hq => ?_)
          · replace hf := if_t hq hf
            clear hq
            refine lv_iload hx hb dX12_ask_80 (lv_at hl 4 rfl) ?_
            refine lv_istore_n (lv' := [(2, .int y4), (0, .ref (ad 48)), (1, .int y1), (3, .int y3), (4, .int y4)]) hx hb dX12_ask_82 rfl hl (by decide) rfl (fun ls hl => ?_)
            refine lv_aload_n hx hb dX12_ask_83 rfl (lv_at hl 1 rfl) ?_
            refine lv_iload hx hb dX12_ask_84 (lv_at hl 4 rfl) ?_
            replace hf := bndc_some hf
            obtain ⟨x6, g7, hc, hf⟩ := hf
            refine m_callVi [.int y4] C h cv_X12_511 (qX12_mostAlike hc) rfl ⟨rfl, rfl⟩ ⟨Nat.le_of_ble_eq_true rfl, Nat.le_of_ble_eq_true rfl⟩ (m_recv C h) hl.1 rfl (Nat.le_of_ble_eq_true rfl) ⟨Nat.le_refl _, Nat.le_refl _⟩ dX12_ask_86 (fun H locs h => ?_)
            clear hc
            refine lv_istore_n (lv' := [(3, .int x6), (2, .int y4), (0, .ref (ad 48)), (1, .int y1), (4, .int y4)]) hx hb dX12_ask_89 rfl hl (by decide) rfl (fun ls hl => ?_)
            obtain ⟨x8, ex8⟩ : ∃ z : Int32, z = y4 + (1 : Int32) := ⟨_, rfl⟩
            replace hf := bnd_at ex8 hf
            refine lv_iinc (v := x8) (lv' := [(4, .int x8), (3, .int x6), (2, .int y4), (0, .ref (ad 48)), (1, .int y1)]) hx hb dX12_ask_90 hl (k := 4) rfl (by rw [ex8]; rfl) (by decide) rfl (fun ls hl => ?_)
            clear ex8
            refine lv_goto (tgt := 32) hx hb dX12_ask_93 (by decide) ?_
            exact ih g7 y1 y4 x6 x8 hf H locs ls h (lv_sub hl [3, 4, 2, 1, 0] rfl)
          · replace hf := if_f hq hf
            clear hq
            refine lv_goto (tgt := 90) hx hb dX12_ask_77 (by decide) ?_
            obtain ⟨x9, ex9⟩ : ∃ z : Int32, z = y4 + (1 : Int32) := ⟨_, rfl⟩
            replace hf := bnd_at ex9 hf
            refine lv_iinc (v := x9) (lv' := [(4, .int x9), (0, .ref (ad 48)), (1, .int y1), (2, .int y2), (3, .int y3)]) hx hb dX12_ask_90 hl (k := 4) rfl (by rw [ex9]; rfl) (by decide) rfl (fun ls hl => ?_)
            clear ex9
            refine lv_goto (tgt := 32) hx hb dX12_ask_93 (by decide) ?_
            exact ih g5 y1 y2 y3 x9 hf H locs ls h (lv_sub hl [1, 2, 3, 4, 0] rfl)

set_option maxHeartbeats 4000000 in
set_option maxRecDepth 100000 in
theorem qX12_ask {l : Launch} {D : va_G} {cs : Nat → ClassId} {ad : Nat → Nat} {r : Int32} {g' : MS} {g : MS}  {a0 : Int32} (hf : fX12_ask g a0 = some (r, g')) : GCon l D cs yX12_ask cX12_ask 5 (some .int) (rM 8) 0 0 [.ref (ad 48), .int a0] (MW cs ad g) (some (.int r)) (MW cs ad g') := by
  refine GCon.of (by decide) (Nat.le_of_ble_eq_true rfl) ?_
  intro p e s m args below meth c A ls H locs C h hl
  have hx := C.1
  have hb := C.2.1
  have C : MCx p s m args meth c A RX12 cX12_ask 5 (some .int) D cs := C
  have hl : lv_has ls 5 [(0, .ref (ad 48)), (1, .int a0)] := hl
  unfold fX12_ask at hf
  refine lv_aload_n hx hb dX12_ask_0 rfl (lv_at hl 0 rfl) ?_
  refine lv_aload_n hx hb dX12_ask_1 rfl (lv_at hl 0 rfl) ?_
  refine lv_iload_n hx hb dX12_ask_2 rfl (lv_at hl 1 rfl) ?_
  replace hf := bndc_some hf
  obtain ⟨x10, g11, hc, hf⟩ := hf
  refine m_callVi [.int a0] C h cv_X12_468 (qX12_lookFault hc) rfl ⟨rfl, rfl⟩ ⟨Nat.le_of_ble_eq_true rfl, Nat.le_of_ble_eq_true rfl⟩ (m_recv C h) hl.1 rfl (Nat.le_of_ble_eq_true rfl) ⟨Nat.le_refl _, Nat.le_refl _⟩ dX12_ask_3 (fun H locs h => ?_)
  clear hc
  replace hf := bnd_ex hf
  obtain ⟨g12, eg12, hf⟩ := hf
  refine mp_4 C h dX12_ask_6 (fun H locs h => ?_)
  rw [← eg12] at h
  clear eg12
  refine lv_aload_n hx hb dX12_ask_9 rfl (lv_at hl 0 rfl) ?_
  refine mg_4 C h dX12_ask_10 ?_
  refine lv_if_le (tgt := 18) hx hb dX12_ask_13 (by decide) (fun hq => ?_) (fun hq => ?_)
  · replace hf := if_t hq hf
    clear hq
    refine lv_aload_n hx hb dX12_ask_18 rfl (lv_at hl 0 rfl) ?_
    refine lv_iload_n hx hb dX12_ask_19 rfl (lv_at hl 1 rfl) ?_
    replace hf := bndv_some hf
    obtain ⟨g13, hc, hf⟩ := hf
    refine m_callVv [.int a0] C h cv_X12_508 (qX12_laysSeen hc) rfl ⟨rfl, rfl⟩ ⟨Nat.le_of_ble_eq_true rfl, Nat.le_of_ble_eq_true rfl⟩ (m_recv C h) hl.1 rfl (Nat.le_of_ble_eq_true rfl) ⟨Nat.le_refl _, Nat.le_refl _⟩ dX12_ask_20 (fun H locs h => ?_)
    clear hc
    refine lv_iconst (v := (-1 : Int32)) hx hb dX12_ask_23 (by decide) ?_
    refine lv_istore_n (lv' := [(2, .int (-1 : Int32)), (0, .ref (ad 48)), (1, .int a0)]) hx hb dX12_ask_24 rfl hl (by decide) rfl (fun ls hl => ?_)
    refine lv_ldcw hx hb C.2.2.2.1 (C.2.2.2.2.1 _ tb_47_5) dX12_ask_25 ?_
    refine lv_istore_n (lv' := [(3, .int (536870912 : Int32)), (2, .int (-1 : Int32)), (0, .ref (ad 48)), (1, .int a0)]) hx hb dX12_ask_28 rfl hl (by decide) rfl (fun ls hl => ?_)
    refine lv_iconst (v := (0 : Int32)) hx hb dX12_ask_29 (by decide) ?_
    refine lv_istore (lv' := [(4, .int (0 : Int32)), (3, .int (536870912 : Int32)), (2, .int (-1 : Int32)), (0, .ref (ad 48)), (1, .int a0)]) hx hb dX12_ask_30 hl (by decide) rfl (fun ls hl => ?_)
    exact wX12_ask_32 C fuel g13 a0 (-1 : Int32) (536870912 : Int32) (0 : Int32) hf H locs ls h (lv_sub hl [3, 4, 2, 1, 0] rfl)
  · replace hf := if_f hq hf
    clear hq
    refine lv_iconst (v := (0 : Int32)) hx hb dX12_ask_16 (by decide) ?_
    cases hf
    exact m_iret C h dX12_ask_17

set_option maxHeartbeats 4000000 in
set_option maxRecDepth 100000 in
theorem wX12_loose_26 (C : MCx p s m args meth c A RX12 cX12_loose 3 (some .int) D cs)  {r : Int32} {g' : MS}  {k4 : MS → Int32 → Int32 → Option (Int32 × MS)} (hk4 : ∀ (g : MS) (y1 : Int32) (y2 : Int32), k4 g y1 y2 = some (r, g') → ∀ (H : Heap) (locs : List Loc) (ls : Array Slot), MH D (MW cs ad g) A s H locs → lv_has ls 3 [(0, .ref (ad 48)), (1, .int y1), (2, .int y2)] → W p l e (rM 2) s m args below meth c H locs 0 0 (MQ below (GPost D (some (.int r)) (MW cs ad g') A) args s 0 0 A) (F0 m 4 ls [])) : ∀ (g : MS) (y2 : Int32) (t0 : Int32) (t1 : Int32), fX12_loose_26 k4 g y2 t0 t1 = some (r, g') → ∀ (H : Heap) (locs : List Loc) (ls : Array Slot), MH D (MW cs ad g) A s H locs → lv_has ls 3 [(0, .ref (ad 48)), (2, .int y2)] → W p l e (rM 2) s m args below meth c H locs 0 0 (MQ below (GPost D (some (.int r)) (MW cs ad g') A) args s 0 0 A) (F0 m 26 ls [.int t1, .int t0]) := by
  have hx := C.1
  have hb := C.2.1
  intro g y2 t0 t1 hf H locs ls h hl
  unfold fX12_loose_26 at hf
  refine lv_iadd hx hb dX12_loose_26 ?_
  refine lv_topi (fun x1 ex1 => ?_)
  replace hf := bnd_at ex1 hf
  clear ex1
  refine lv_istore_n (lv' := [(1, .int x1), (0, .ref (ad 48)), (2, .int y2)]) hx hb dX12_loose_27 rfl hl (by decide) rfl (fun ls hl => ?_)
  obtain ⟨x2, ex2⟩ : ∃ z : Int32, z = y2 + (1 : Int32) := ⟨_, rfl⟩
  replace hf := bnd_at ex2 hf
  refine lv_iinc (v := x2) (lv' := [(2, .int x2), (1, .int x1), (0, .ref (ad 48))]) hx hb dX12_loose_28 hl (k := 2) rfl (by rw [ex2]; rfl) (by decide) rfl (fun ls hl => ?_)
  clear ex2
  refine lv_goto (tgt := 4) hx hb dX12_loose_31 (by decide) ?_
  exact hk4 g x1 x2 hf H locs ls h (lv_sub hl [2, 1, 0] rfl)

set_option maxHeartbeats 4000000 in
set_option maxRecDepth 100000 in
theorem wX12_loose_4 (C : MCx p s m args meth c A RX12 cX12_loose 3 (some .int) D cs)  {r : Int32} {g' : MS}  : ∀ (n : Nat) (g : MS) (y1 : Int32) (y2 : Int32), fX12_loose_4 n g y1 y2 = some (r, g') → ∀ (H : Heap) (locs : List Loc) (ls : Array Slot), MH D (MW cs ad g) A s H locs → lv_has ls 3 [(0, .ref (ad 48)), (1, .int y1), (2, .int y2)] → W p l e (rM 2) s m args below meth c H locs 0 0 (MQ below (GPost D (some (.int r)) (MW cs ad g') A) args s 0 0 A) (F0 m 4 ls []) := by
  have hx := C.1
  have hb := C.2.1
  intro n
  induction n with
  | zero =>
    intro g y1 y2 hf
    exact absurd hf (by simp [fX12_loose_4])
  | succ n ih =>
    intro g y1 y2 hf H locs ls h hl
    rw [fX12_loose_4] at hf
    refine lv_iload_n hx hb dX12_loose_4 rfl (lv_at hl 2 rfl) ?_
    refine lv_aload_n hx hb dX12_loose_5 rfl (lv_at hl 0 rfl) ?_
    replace hf := bndc_some hf
    obtain ⟨x3, g4, hc, hf⟩ := hf
    refine m_callVi [] C h cv_X12_254 (qX12_size hc) rfl ⟨rfl, rfl⟩ ⟨Nat.le_of_ble_eq_true rfl, Nat.le_of_ble_eq_true rfl⟩ (m_recv C h) hl.1 rfl (Nat.le_of_ble_eq_true rfl) ⟨Nat.le_refl _, Nat.le_refl _⟩ dX12_loose_6 (fun H locs h => ?_)
    clear hc
    refine lv_icmp_ge (tgt := 34) hx hb dX12_loose_9 (by decide) (fun hq => ?_) (fun hq => ?_)
    · replace hf := if_t hq hf
      clear hq
      refine lv_iload_n hx hb dX12_loose_34 rfl (lv_at hl 1 rfl) ?_
      cases hf
      exact m_iret C h dX12_loose_35
    · replace hf := if_f hq hf
      clear hq
      refine lv_iload_n hx hb dX12_loose_12 rfl (lv_at hl 1 rfl) ?_
      refine lv_aload_n hx hb dX12_loose_13 rfl (lv_at hl 0 rfl) ?_
      refine lv_iload_n hx hb dX12_loose_14 rfl (lv_at hl 2 rfl) ?_
      replace hf := bndc_some hf
      obtain ⟨x5, g6, hc, hf⟩ := hf
      refine m_callVi [.int y2] C h cv_X12_287 (qX12_isStuck hc) rfl ⟨rfl, rfl⟩ ⟨Nat.le_of_ble_eq_true rfl, Nat.le_of_ble_eq_true rfl⟩ (m_recv C h) hl.1 rfl (Nat.le_of_ble_eq_true rfl) ⟨Nat.le_refl _, Nat.le_refl _⟩ dX12_loose_15 (fun H locs h => ?_)
      clear hc
      refine lv_if_eq (tgt := 25) hx hb dX12_loose_18 (by decide) (fun hq => ?_) (fun hq => ?_)
      · replace hf := if_t hq hf
        clear hq
        refine lv_iconst (v := (1 : Int32)) hx hb dX12_loose_25 (by decide) ?_
        exact wX12_loose_26 C ih g6 y2 y1 (1 : Int32) hf H locs ls h (lv_sub hl [0, 2] rfl)
      · replace hf := if_f hq hf
        clear hq
        refine lv_iconst (v := (0 : Int32)) hx hb dX12_loose_21 (by decide) ?_
        refine lv_goto (tgt := 26) hx hb dX12_loose_22 (by decide) ?_
        exact wX12_loose_26 C ih g6 y2 y1 (0 : Int32) hf H locs ls h (lv_sub hl [0, 2] rfl)

set_option maxHeartbeats 4000000 in
set_option maxRecDepth 100000 in
theorem qX12_loose {l : Launch} {D : va_G} {cs : Nat → ClassId} {ad : Nat → Nat} {r : Int32} {g' : MS} {g : MS}  (hf : fX12_loose g = some (r, g')) : GCon l D cs yX12_loose cX12_loose 3 (some .int) (rM 2) 0 0 [.ref (ad 48)] (MW cs ad g) (some (.int r)) (MW cs ad g') := by
  refine GCon.of (by decide) (Nat.le_of_ble_eq_true rfl) ?_
  intro p e s m args below meth c A ls H locs C h hl
  have hx := C.1
  have hb := C.2.1
  have C : MCx p s m args meth c A RX12 cX12_loose 3 (some .int) D cs := C
  have hl : lv_has ls 3 [(0, .ref (ad 48))] := hl
  unfold fX12_loose at hf
  refine lv_iconst (v := (0 : Int32)) hx hb dX12_loose_0 (by decide) ?_
  refine lv_istore_n (lv' := [(1, .int (0 : Int32)), (0, .ref (ad 48))]) hx hb dX12_loose_1 rfl hl (by decide) rfl (fun ls hl => ?_)
  refine lv_iconst (v := (0 : Int32)) hx hb dX12_loose_2 (by decide) ?_
  refine lv_istore_n (lv' := [(2, .int (0 : Int32)), (1, .int (0 : Int32)), (0, .ref (ad 48))]) hx hb dX12_loose_3 rfl hl (by decide) rfl (fun ls hl => ?_)
  exact wX12_loose_4 C fuel g (0 : Int32) (0 : Int32) hf H locs ls h (lv_sub hl [2, 1, 0] rfl)

set_option maxHeartbeats 4000000 in
set_option maxRecDepth 100000 in
theorem wX12_goesChance_38 (C : MCx p s m args meth c A RX12 cX12_goesChance 3 none D cs)  {dR dd : Nat} (hdR : 4 + 1 * dd + 1 ≤ dR) {r_goesChance : MS → Int32 → Option (MS)} (h_goesChance : ∀ {g1 g2 : MS} {b0 : Int32}, r_goesChance g1 b0 = some g2 → GCon l D cs yX12_goesChance cX12_goesChance 3 none (rM (4 + 1 * dd)) 0 0 [.ref (ad 48), .int b0] (MW cs ad g1) none (MW cs ad g2)) {g' : MS}  : ∀ (n : Nat) (g : MS) (y1 : Int32) (y2 : Int32), fX12_goesChance_38 r_goesChance n g y1 y2 = some g' → ∀ (H : Heap) (locs : List Loc) (ls : Array Slot), MH D (MW cs ad g) A s H locs → lv_has ls 3 [(0, .ref (ad 48)), (1, .int y1), (2, .int y2)] → W p l e (rM dR) s m args below meth c H locs 0 0 (MQ below (GPost D none (MW cs ad g') A) args s 0 0 A) (F0 m 38 ls []) := by
  have hx := C.1
  have hb := C.2.1
  intro n
  induction n with
  | zero =>
    intro g y1 y2 hf
    exact absurd hf (by simp [fX12_goesChance_38])
  | succ n ih =>
    intro g y1 y2 hf H locs ls h hl
    rw [fX12_goesChance_38] at hf
    refine lv_iload_n hx hb dX12_goesChance_38 rfl (lv_at hl 2 rfl) ?_
    refine lv_aload_n hx hb dX12_goesChance_39 rfl (lv_at hl 0 rfl) ?_
    replace hf := bndc_some hf
    obtain ⟨x1, g2, hc, hf⟩ := hf
    refine m_callVi [] C h cv_X12_254 (qX12_size hc) rfl ⟨rfl, rfl⟩ ⟨by simp only [rM]; omega, by simp only [rM]; omega⟩ (m_recv C h) hl.1 rfl (Nat.le_of_ble_eq_true rfl) ⟨Nat.le_refl _, Nat.le_refl _⟩ dX12_goesChance_40 (fun H locs h => ?_)
    clear hc
    refine lv_icmp_ge (tgt := 90) hx hb dX12_goesChance_43 (by decide) (fun hq => ?_) (fun hq => ?_)
    · replace hf := if_t hq hf
      clear hq
      cases hf
      exact m_vret C h dX12_goesChance_90
    · replace hf := if_f hq hf
      clear hq
      refine lv_aload_n hx hb dX12_goesChance_46 rfl (lv_at hl 0 rfl) ?_
      refine lv_iload_n hx hb dX12_goesChance_47 rfl (lv_at hl 2 rfl) ?_
      replace hf := bndc_some hf
      obtain ⟨x3, g4, hc, hf⟩ := hf
      refine m_callVi [.int y2] C h cv_X12_287 (qX12_isStuck hc) rfl ⟨rfl, rfl⟩ ⟨by simp only [rM]; omega, by simp only [rM]; omega⟩ (m_recv C h) hl.1 rfl (Nat.le_of_ble_eq_true rfl) ⟨Nat.le_refl _, Nat.le_refl _⟩ dX12_goesChance_48 (fun H locs h => ?_)
      clear hc
      refine lv_if_eq (tgt := 57) hx hb dX12_goesChance_51 (by decide) (fun hq => ?_) (fun hq => ?_)
      · replace hf := if_t hq hf
        clear hq
        refine lv_aload_n hx hb dX12_goesChance_57 rfl (lv_at hl 0 rfl) ?_
        refine mg_26 C h dX12_goesChance_58 ?_
        refine lv_iload_n hx hb dX12_goesChance_61 rfl (lv_at hl 2 rfl) ?_
        refine lv_dup2_11 hx hb dX12_goesChance_62 rfl rfl ?_
        replace hf := chk_some hf
        obtain ⟨hq, hf⟩ := hf
        refine ml_26 C h hq dX12_goesChance_63 ?_
        clear hq
        refine lv_iconst (v := (1 : Int32)) hx hb dX12_goesChance_64 (by decide) ?_
        refine lv_iadd hx hb dX12_goesChance_65 ?_
        replace hf := chk_some hf
        obtain ⟨hq, hf⟩ := hf
        replace hf := bnd_ex hf
        obtain ⟨g5, eg5, hf⟩ := hf
        refine ms_26 C h hq dX12_goesChance_66 (fun H locs h => ?_)
        rw [← eg5] at h
        clear hq eg5
        refine lv_aload_n hx hb dX12_goesChance_67 rfl (lv_at hl 0 rfl) ?_
        refine lv_iload_n hx hb dX12_goesChance_68 rfl (lv_at hl 1 rfl) ?_
        refine lv_iconst (v := (1 : Int32)) hx hb dX12_goesChance_69 (by decide) ?_
        refine lv_isub hx hb dX12_goesChance_70 ?_
        replace hf := bndv_some hf
        obtain ⟨g6, hc, hf⟩ := hf
        refine m_callVv [.int (y1 - (1 : Int32))] C h cv_X12_517 (h_goesChance hc) rfl ⟨rfl, rfl⟩ ⟨by simp only [rM]; omega, by simp only [rM]; omega⟩ (m_recv C h) hl.1 rfl (Nat.le_of_ble_eq_true rfl) ⟨Nat.le_refl _, Nat.le_refl _⟩ dX12_goesChance_71 (fun H locs h => ?_)
        clear hc
        refine lv_aload_n hx hb dX12_goesChance_74 rfl (lv_at hl 0 rfl) ?_
        refine mg_26 C h dX12_goesChance_75 ?_
        refine lv_iload_n hx hb dX12_goesChance_78 rfl (lv_at hl 2 rfl) ?_
        refine lv_dup2_11 hx hb dX12_goesChance_79 rfl rfl ?_
        replace hf := chk_some hf
        obtain ⟨hq, hf⟩ := hf
        refine ml_26 C h hq dX12_goesChance_80 ?_
        clear hq
        refine lv_iconst (v := (1 : Int32)) hx hb dX12_goesChance_81 (by decide) ?_
        refine lv_isub hx hb dX12_goesChance_82 ?_
        replace hf := chk_some hf
        obtain ⟨hq, hf⟩ := hf
        replace hf := bnd_ex hf
        obtain ⟨g7, eg7, hf⟩ := hf
        refine ms_26 C h hq dX12_goesChance_83 (fun H locs h => ?_)
        rw [← eg7] at h
        clear hq eg7
        obtain ⟨x8, ex8⟩ : ∃ z : Int32, z = y2 + (1 : Int32) := ⟨_, rfl⟩
        replace hf := bnd_at ex8 hf
        refine lv_iinc (v := x8) (lv' := [(2, .int x8), (0, .ref (ad 48)), (1, .int y1)]) hx hb dX12_goesChance_84 hl (k := 2) rfl (by rw [ex8]; rfl) (by decide) rfl (fun ls hl => ?_)
        clear ex8
        refine lv_goto (tgt := 38) hx hb dX12_goesChance_87 (by decide) ?_
        exact ih g7 y1 x8 hf H locs ls h (lv_sub hl [1, 2, 0] rfl)
      · replace hf := if_f hq hf
        clear hq
        refine lv_goto (tgt := 84) hx hb dX12_goesChance_54 (by decide) ?_
        obtain ⟨x9, ex9⟩ : ∃ z : Int32, z = y2 + (1 : Int32) := ⟨_, rfl⟩
        replace hf := bnd_at ex9 hf
        refine lv_iinc (v := x9) (lv' := [(2, .int x9), (0, .ref (ad 48)), (1, .int y1)]) hx hb dX12_goesChance_84 hl (k := 2) rfl (by rw [ex9]; rfl) (by decide) rfl (fun ls hl => ?_)
        clear ex9
        refine lv_goto (tgt := 38) hx hb dX12_goesChance_87 (by decide) ?_
        exact ih g4 y1 x9 hf H locs ls h (lv_sub hl [1, 2, 0] rfl)

set_option maxHeartbeats 4000000 in
set_option maxRecDepth 100000 in
theorem wX12_goesChance_11 (C : MCx p s m args meth c A RX12 cX12_goesChance 3 none D cs)  {dR dd : Nat} (hdR : 4 + 1 * dd + 1 ≤ dR) {r_goesChance : MS → Int32 → Option (MS)} (h_goesChance : ∀ {g1 g2 : MS} {b0 : Int32}, r_goesChance g1 b0 = some g2 → GCon l D cs yX12_goesChance cX12_goesChance 3 none (rM (4 + 1 * dd)) 0 0 [.ref (ad 48), .int b0] (MW cs ad g1) none (MW cs ad g2)) {g' : MS}  : ∀ (g : MS), fX12_goesChance_11 r_goesChance g = some g' → ∀ (H : Heap) (locs : List Loc) (ls : Array Slot), MH D (MW cs ad g) A s H locs → lv_has ls 3 [(0, .ref (ad 48))] → W p l e (rM dR) s m args below meth c H locs 0 0 (MQ below (GPost D none (MW cs ad g') A) args s 0 0 A) (F0 m 11 ls []) := by
  have hx := C.1
  have hb := C.2.1
  intro g hf H locs ls h hl
  unfold fX12_goesChance_11 at hf
  refine lv_aload_n hx hb dX12_goesChance_11 rfl (lv_at hl 0 rfl) ?_
  replace hf := bndv_some hf
  obtain ⟨g10, hc, hf⟩ := hf
  refine m_callVv [] C h cv_X12_426 (qX12_aimsBehind hc) rfl ⟨rfl, rfl⟩ ⟨by simp only [rM]; omega, by simp only [rM]; omega⟩ (m_recv C h) hl.1 rfl (Nat.le_of_ble_eq_true rfl) ⟨Nat.le_refl _, Nat.le_refl _⟩ dX12_goesChance_12 (fun H locs h => ?_)
  clear hc
  refine lv_aload_n hx hb dX12_goesChance_15 rfl (lv_at hl 0 rfl) ?_
  replace hf := bndc_some hf
  obtain ⟨x11, g12, hc, hf⟩ := hf
  refine m_callVi [] C h cv_X12_313 (qX12_chairBy hc) rfl ⟨rfl, rfl⟩ ⟨by simp only [rM]; omega, by simp only [rM]; omega⟩ (m_recv C h) hl.1 rfl (Nat.le_of_ble_eq_true rfl) ⟨Nat.le_refl _, Nat.le_refl _⟩ dX12_goesChance_16 (fun H locs h => ?_)
  clear hc
  refine lv_istore_n (lv' := [(2, .int x11), (0, .ref (ad 48))]) hx hb dX12_goesChance_19 rfl hl (by decide) rfl (fun ls hl => ?_)
  refine lv_iload_n hx hb dX12_goesChance_20 rfl (lv_at hl 0 rfl) ?_
  refine lv_iconst (v := (-1 : Int32)) hx hb dX12_goesChance_21 (by decide) ?_
  refine lv_icmp_eq (tgt := 35) hx hb dX12_goesChance_22 (by decide) (fun hq => ?_) (fun hq => ?_)
  · replace hf := if_t hq hf
    clear hq
    cases hf
    exact m_vret C h dX12_goesChance_35
  · replace hf := if_f hq hf
    clear hq
    refine lv_aload_n hx hb dX12_goesChance_25 rfl (lv_at hl 1 rfl) ?_
    refine mg_30 C h dX12_goesChance_26 ?_
    refine lv_iload_n hx hb dX12_goesChance_29 rfl (lv_at hl 0 rfl) ?_
    refine lv_dup2_11 hx hb dX12_goesChance_30 rfl rfl ?_
    replace hf := chk_some hf
    obtain ⟨hq, hf⟩ := hf
    refine ml_30 C h hq dX12_goesChance_31 ?_
    clear hq
    refine lv_iconst (v := (1 : Int32)) hx hb dX12_goesChance_32 (by decide) ?_
    refine lv_iadd hx hb dX12_goesChance_33 ?_
    replace hf := chk_some hf
    obtain ⟨hq, hf⟩ := hf
    replace hf := bnd_ex hf
    obtain ⟨g13, eg13, hf⟩ := hf
    refine ms_30 C h hq dX12_goesChance_34 (fun H locs h => ?_)
    rw [← eg13] at h
    clear hq eg13
    cases hf
    exact m_vret C h dX12_goesChance_35

set_option maxHeartbeats 4000000 in
set_option maxRecDepth 100000 in
theorem qX12_goesChanceB {l : Launch} {D : va_G} {cs : Nat → ClassId} {ad : Nat → Nat} {dR dd : Nat} (hdR : 4 + 1 * dd + 1 ≤ dR) {r_goesChance : MS → Int32 → Option (MS)} (h_goesChance : ∀ {g1 g2 : MS} {b0 : Int32}, r_goesChance g1 b0 = some g2 → GCon l D cs yX12_goesChance cX12_goesChance 3 none (rM (4 + 1 * dd)) 0 0 [.ref (ad 48), .int b0] (MW cs ad g1) none (MW cs ad g2)) {g' : MS} {g : MS}  {a0 : Int32} (hf : fX12_goesChanceB r_goesChance g a0 = some g') : GCon l D cs yX12_goesChance cX12_goesChance 3 none (rM dR) 0 0 [.ref (ad 48), .int a0] (MW cs ad g) none (MW cs ad g') := by
  refine GCon.of (by decide) (Nat.le_of_ble_eq_true rfl) ?_
  intro p e s m args below meth c A ls H locs C h hl
  have hx := C.1
  have hb := C.2.1
  have C : MCx p s m args meth c A RX12 cX12_goesChance 3 none D cs := C
  have hl : lv_has ls 3 [(0, .ref (ad 48)), (1, .int a0)] := hl
  unfold fX12_goesChanceB at hf
  refine lv_iload_n hx hb dX12_goesChance_0 rfl (lv_at hl 1 rfl) ?_
  refine lv_if_eq (tgt := 11) hx hb dX12_goesChance_1 (by decide) (fun hq => ?_) (fun hq => ?_)
  · replace hf := if_t hq hf
    clear hq
    exact wX12_goesChance_11 C hdR h_goesChance g hf H locs ls h (lv_sub hl [0] rfl)
  · replace hf := if_f hq hf
    clear hq
    refine lv_aload_n hx hb dX12_goesChance_4 rfl (lv_at hl 0 rfl) ?_
    replace hf := bndc_some hf
    obtain ⟨x14, g15, hc, hf⟩ := hf
    refine m_callVi [] C h cv_X12_514 (qX12_loose hc) rfl ⟨rfl, rfl⟩ ⟨by simp only [rM]; omega, by simp only [rM]; omega⟩ (m_recv C h) hl.1 rfl (Nat.le_of_ble_eq_true rfl) ⟨Nat.le_refl _, Nat.le_refl _⟩ dX12_goesChance_5 (fun H locs h => ?_)
    clear hc
    refine lv_if_ne (tgt := 36) hx hb dX12_goesChance_8 (by decide) (fun hq => ?_) (fun hq => ?_)
    · replace hf := if_tn hq hf
      clear hq
      refine lv_iconst (v := (0 : Int32)) hx hb dX12_goesChance_36 (by decide) ?_
      refine lv_istore_n (lv' := [(2, .int (0 : Int32)), (0, .ref (ad 48)), (1, .int a0)]) hx hb dX12_goesChance_37 rfl hl (by decide) rfl (fun ls hl => ?_)
      exact wX12_goesChance_38 C hdR h_goesChance fuel g15 a0 (0 : Int32) hf H locs ls h (lv_sub hl [1, 2, 0] rfl)
    · replace hf := if_t hq hf
      clear hq
      exact wX12_goesChance_11 C hdR h_goesChance g15 hf H locs ls h (lv_sub hl [0] rfl)

theorem qX12_goesChanceD {l : Launch} {D : va_G} {cs : Nat → ClassId} {ad : Nat → Nat} : ∀ (n : Nat) {g g' : MS} {a0 : Int32}, fX12_goesChanceD n g a0 = some g' → GCon l D cs yX12_goesChance cX12_goesChance 3 none (rM (4 + 1 * n)) 0 0 [.ref (ad 48), .int a0] (MW cs ad g) none (MW cs ad g') := by
  intro n
  induction n with
  | zero =>
    intro g g' a0 hf
    exact absurd hf (by simp [fX12_goesChanceD])
  | succ n ih =>
    intro g g' a0 hf
    rw [fX12_goesChanceD] at hf
    exact qX12_goesChanceB (dR := 4 + 1 * (n + 1)) (dd := n) (by omega) ih hf

theorem qX12_goesChance {l : Launch} {D : va_G} {cs : Nat → ClassId} {ad : Nat → Nat} {g g' : MS} {a0 : Int32} (hf : fX12_goesChance g a0 = some g') : GCon l D cs yX12_goesChance cX12_goesChance 3 none (rM 16) 0 0 [.ref (ad 48), .int a0] (MW cs ad g) none (MW cs ad g') := qX12_goesChanceD 12 hf

set_option maxHeartbeats 4000000 in
set_option maxRecDepth 100000 in
theorem wX12_laysChance_2 (C : MCx p s m args meth c A RX12 cX12_laysChance 3 none D cs)  {g' : MS}  : ∀ (n : Nat) (g : MS) (y1 : Int32) (y2 : Int32), fX12_laysChance_2 n g y1 y2 = some g' → ∀ (H : Heap) (locs : List Loc) (ls : Array Slot), MH D (MW cs ad g) A s H locs → lv_has ls 3 [(0, .ref (ad 48)), (1, .int y1), (2, .int y2)] → W p l e (rM 17) s m args below meth c H locs 0 0 (MQ below (GPost D none (MW cs ad g') A) args s 0 0 A) (F0 m 2 ls []) := by
  have hx := C.1
  have hb := C.2.1
  intro n
  induction n with
  | zero =>
    intro g y1 y2 hf
    exact absurd hf (by simp [fX12_laysChance_2])
  | succ n ih =>
    intro g y1 y2 hf H locs ls h hl
    rw [fX12_laysChance_2] at hf
    refine lv_iload_n hx hb dX12_laysChance_2 rfl (lv_at hl 2 rfl) ?_
    refine lv_bipush (v := (6 : Int32)) hx hb dX12_laysChance_3 (by decide) ?_
    refine lv_icmp_ge (tgt := 28) hx hb dX12_laysChance_5 (by decide) (fun hq => ?_) (fun hq => ?_)
    · replace hf := if_t hq hf
      clear hq
      refine lv_aload_n hx hb dX12_laysChance_28 rfl (lv_at hl 0 rfl) ?_
      replace hf := bndv_some hf
      obtain ⟨g1, hc, hf⟩ := hf
      refine m_callVv [] C h cv_X12_423 (qX12_laysAlong hc) rfl ⟨rfl, rfl⟩ ⟨Nat.le_of_ble_eq_true rfl, Nat.le_of_ble_eq_true rfl⟩ (m_recv C h) hl.1 rfl (Nat.le_of_ble_eq_true rfl) ⟨Nat.le_refl _, Nat.le_refl _⟩ dX12_laysChance_29 (fun H locs h => ?_)
      clear hc
      refine lv_aload_n hx hb dX12_laysChance_32 rfl (lv_at hl 0 rfl) ?_
      refine lv_iload_n hx hb dX12_laysChance_33 rfl (lv_at hl 1 rfl) ?_
      replace hf := bndv_some hf
      obtain ⟨g2, hc, hf⟩ := hf
      refine m_callVv [.int y1] C h cv_X12_517 (qX12_goesChance hc) rfl ⟨rfl, rfl⟩ ⟨Nat.le_of_ble_eq_true rfl, Nat.le_of_ble_eq_true rfl⟩ (m_recv C h) hl.1 rfl (Nat.le_of_ble_eq_true rfl) ⟨Nat.le_refl _, Nat.le_refl _⟩ dX12_laysChance_34 (fun H locs h => ?_)
      clear hc
      cases hf
      exact m_vret C h dX12_laysChance_37
    · replace hf := if_f hq hf
      clear hq
      refine lv_aload_n hx hb dX12_laysChance_8 rfl (lv_at hl 0 rfl) ?_
      refine mg_30 C h dX12_laysChance_9 ?_
      refine lv_iload_n hx hb dX12_laysChance_12 rfl (lv_at hl 2 rfl) ?_
      refine lv_iconst (v := (0 : Int32)) hx hb dX12_laysChance_13 (by decide) ?_
      replace hf := chk_some hf
      obtain ⟨hq, hf⟩ := hf
      replace hf := bnd_ex hf
      obtain ⟨g3, eg3, hf⟩ := hf
      refine ms_30 C h hq dX12_laysChance_14 (fun H locs h => ?_)
      rw [← eg3] at h
      clear hq eg3
      refine lv_aload_n hx hb dX12_laysChance_15 rfl (lv_at hl 0 rfl) ?_
      refine mg_26 C h dX12_laysChance_16 ?_
      refine lv_iload_n hx hb dX12_laysChance_19 rfl (lv_at hl 2 rfl) ?_
      refine lv_iconst (v := (0 : Int32)) hx hb dX12_laysChance_20 (by decide) ?_
      replace hf := chk_some hf
      obtain ⟨hq, hf⟩ := hf
      replace hf := bnd_ex hf
      obtain ⟨g4, eg4, hf⟩ := hf
      refine ms_26 C h hq dX12_laysChance_21 (fun H locs h => ?_)
      rw [← eg4] at h
      clear hq eg4
      obtain ⟨x5, ex5⟩ : ∃ z : Int32, z = y2 + (1 : Int32) := ⟨_, rfl⟩
      replace hf := bnd_at ex5 hf
      refine lv_iinc (v := x5) (lv' := [(2, .int x5), (0, .ref (ad 48)), (1, .int y1)]) hx hb dX12_laysChance_22 hl (k := 2) rfl (by rw [ex5]; rfl) (by decide) rfl (fun ls hl => ?_)
      clear ex5
      refine lv_goto (tgt := 2) hx hb dX12_laysChance_25 (by decide) ?_
      exact ih g4 y1 x5 hf H locs ls h (lv_sub hl [1, 2, 0] rfl)

set_option maxHeartbeats 4000000 in
set_option maxRecDepth 100000 in
theorem qX12_laysChance {l : Launch} {D : va_G} {cs : Nat → ClassId} {ad : Nat → Nat} {g' : MS} {g : MS}  {a0 : Int32} (hf : fX12_laysChance g a0 = some g') : GCon l D cs yX12_laysChance cX12_laysChance 3 none (rM 17) 0 0 [.ref (ad 48), .int a0] (MW cs ad g) none (MW cs ad g') := by
  refine GCon.of (by decide) (Nat.le_of_ble_eq_true rfl) ?_
  intro p e s m args below meth c A ls H locs C h hl
  have hx := C.1
  have hb := C.2.1
  have C : MCx p s m args meth c A RX12 cX12_laysChance 3 none D cs := C
  have hl : lv_has ls 3 [(0, .ref (ad 48)), (1, .int a0)] := hl
  unfold fX12_laysChance at hf
  refine lv_iconst (v := (0 : Int32)) hx hb dX12_laysChance_0 (by decide) ?_
  refine lv_istore_n (lv' := [(2, .int (0 : Int32)), (0, .ref (ad 48)), (1, .int a0)]) hx hb dX12_laysChance_1 rfl hl (by decide) rfl (fun ls hl => ?_)
  exact wX12_laysChance_2 C fuel g a0 (0 : Int32) hf H locs ls h (lv_sub hl [1, 2, 0] rfl)

set_option maxHeartbeats 4000000 in
set_option maxRecDepth 100000 in
theorem wX12_common_4 (C : MCx p s m args meth c A RX12 cX12_common 5 (some .int) D cs)  {r : Int32}  : ∀ (n : Nat) (y2 : Int32) (y3 : Int32), fX12_common_4 n y2 y3 = some r → ∀ (H : Heap) (locs : List Loc) (ls : Array Slot), MH D [] A s H locs → lv_has ls 5 [(2, .int y2), (3, .int y3)] → W p l e (rM 0) s m args below meth c H locs 0 0 (MQ below (GPost D (some (.int r)) [] A) args s 0 0 A) (F0 m 4 ls []) := by
  have hx := C.1
  have hb := C.2.1
  intro n
  induction n with
  | zero =>
    intro y2 y3 hf
    exact absurd hf (by simp [fX12_common_4])
  | succ n ih =>
    intro y2 y3 hf H locs ls h hl
    rw [fX12_common_4] at hf
    refine lv_iload_n hx hb dX12_common_4 rfl (lv_at hl 1 rfl) ?_
    refine lv_if_eq (tgt := 21) hx hb dX12_common_5 (by decide) (fun hq => ?_) (fun hq => ?_)
    · replace hf := if_t hq hf
      clear hq
      refine lv_iload_n hx hb dX12_common_21 rfl (lv_at hl 0 rfl) ?_
      cases hf
      exact m_iret C h dX12_common_22
    · replace hf := if_f hq hf
      clear hq
      refine lv_iload_n hx hb dX12_common_8 rfl (lv_at hl 0 rfl) ?_
      refine lv_iload_n hx hb dX12_common_9 rfl (lv_at hl 1 rfl) ?_
      replace hf := chk_some hf
      obtain ⟨hq, hf⟩ := hf
      refine x_irem hx hb dX12_common_10 (nz_ne hq) ?_
      clear hq
      refine lv_topi (fun x1 ex1 => ?_)
      replace hf := bnd_at ex1 hf
      clear ex1
      refine lv_istore (lv' := [(4, .int x1), (2, .int y2), (3, .int y3)]) hx hb dX12_common_11 hl (by decide) rfl (fun ls hl => ?_)
      refine lv_iload_n hx hb dX12_common_13 rfl (lv_at hl 2 rfl) ?_
      refine lv_istore_n (lv' := [(2, .int y3), (4, .int x1), (3, .int y3)]) hx hb dX12_common_14 rfl hl (by decide) rfl (fun ls hl => ?_)
      refine lv_iload hx hb dX12_common_15 (lv_at hl 1 rfl) ?_
      refine lv_istore_n (lv' := [(3, .int x1), (2, .int y3), (4, .int x1)]) hx hb dX12_common_17 rfl hl (by decide) rfl (fun ls hl => ?_)
      refine lv_goto (tgt := 4) hx hb dX12_common_18 (by decide) ?_
      exact ih y3 x1 hf H locs ls h (lv_sub hl [1, 0] rfl)

set_option maxHeartbeats 4000000 in
set_option maxRecDepth 100000 in
theorem qX12_common {l : Launch} {D : va_G} {cs : Nat → ClassId} {r : Int32}  {a0 : Int32} {a1 : Int32} (hf : fX12_common a0 a1 = some r) : GCon l D cs yX12_common cX12_common 5 (some .int) (rM 0) 0 0 [.int a0, .int a1] [] (some (.int r)) [] := by
  refine GCon.of (by decide) (Nat.le_of_ble_eq_true rfl) ?_
  intro p e s m args below meth c A ls H locs C h hl
  have hx := C.1
  have hb := C.2.1
  have C : MCx p s m args meth c A RX12 cX12_common 5 (some .int) D cs := C
  have hl : lv_has ls 5 [(0, .int a0), (1, .int a1)] := hl
  unfold fX12_common at hf
  refine lv_iload_n hx hb dX12_common_0 rfl (lv_at hl 0 rfl) ?_
  refine lv_istore_n (lv' := [(2, .int a0), (0, .int a0), (1, .int a1)]) hx hb dX12_common_1 rfl hl (by decide) rfl (fun ls hl => ?_)
  refine lv_iload_n hx hb dX12_common_2 rfl (lv_at hl 2 rfl) ?_
  refine lv_istore_n (lv' := [(3, .int a1), (2, .int a0), (0, .int a0), (1, .int a1)]) hx hb dX12_common_3 rfl hl (by decide) rfl (fun ls hl => ?_)
  exact wX12_common_4 C fuel a0 a1 hf H locs ls h (lv_sub hl [1, 0] rfl)

set_option maxHeartbeats 4000000 in
set_option maxRecDepth 100000 in
theorem wX12_chance_92 (C : MCx p s m args meth c A RX12 cX12_chance 6 (some .int) D cs)  {r : Int32} {g' : MS}  : ∀ (g : MS) (y1 : Int32) (y3 : Int32) (y4 : Int32), fX12_chance_92 g y1 y3 y4 = some (r, g') → ∀ (H : Heap) (locs : List Loc) (ls : Array Slot), MH D (MW cs ad g) A s H locs → lv_has ls 6 [(0, .ref (ad 48)), (1, .int y1), (3, .int y3), (4, .int y4)] → W p l e (rM 18) s m args below meth c H locs 0 0 (MQ below (GPost D (some (.int r)) (MW cs ad g') A) args s 0 0 A) (F0 m 92 ls []) := by
  have hx := C.1
  have hb := C.2.1
  intro g y1 y3 y4 hf H locs ls h hl
  unfold fX12_chance_92 at hf
  refine lv_iload hx hb dX12_chance_92 (lv_at hl 3 rfl) ?_
  refine lv_aload_n hx hb dX12_chance_94 rfl (lv_at hl 0 rfl) ?_
  refine mg_30 C h dX12_chance_95 ?_
  refine lv_iload_n hx hb dX12_chance_98 rfl (lv_at hl 1 rfl) ?_
  replace hf := chk_some hf
  obtain ⟨hq, hf⟩ := hf
  refine ml_30 C h hq dX12_chance_99 ?_
  clear hq
  replace hf := bndv_some hf
  obtain ⟨x1, hc, hf⟩ := hf
  refine m_callSi [.int y4, .int (g.2.1 30 (ix y1))] C h cs_X12_525 (qX12_common hc) rfl ⟨rfl, rfl⟩ ⟨Nat.le_of_ble_eq_true rfl, Nat.le_of_ble_eq_true rfl⟩ hl.1 rfl (Nat.le_of_ble_eq_true rfl) ⟨Nat.le_refl _, Nat.le_refl _⟩ dX12_chance_100 (fun H locs h => ?_)
  clear hc
  refine lv_istore (lv' := [(5, .int x1), (0, .ref (ad 48)), (1, .int y1), (3, .int y3), (4, .int y4)]) hx hb dX12_chance_103 hl (by decide) rfl (fun ls hl => ?_)
  refine lv_iload_n hx hb dX12_chance_105 rfl (lv_at hl 3 rfl) ?_
  refine lv_if_ne (tgt := 121) hx hb dX12_chance_106 (by decide) (fun hq => ?_) (fun hq => ?_)
  · replace hf := if_tn hq hf
    clear hq
    refine lv_iload hx hb dX12_chance_121 (lv_at hl 4 rfl) ?_
    refine lv_iload hx hb dX12_chance_123 (lv_at hl 0 rfl) ?_
    replace hf := chk_some hf
    obtain ⟨hq, hf⟩ := hf
    refine lv_idiv hx hb dX12_chance_125 (nz_ne hq) ?_
    clear hq
    cases hf
    exact m_iret C h dX12_chance_126
  · replace hf := if_t hq hf
    clear hq
    refine lv_aload_n hx hb dX12_chance_109 rfl (lv_at hl 1 rfl) ?_
    refine mg_30 C h dX12_chance_110 ?_
    refine lv_iload_n hx hb dX12_chance_113 rfl (lv_at hl 2 rfl) ?_
    replace hf := chk_some hf
    obtain ⟨hq, hf⟩ := hf
    refine ml_30 C h hq dX12_chance_114 ?_
    clear hq
    refine lv_iload hx hb dX12_chance_115 (lv_at hl 0 rfl) ?_
    replace hf := chk_some hf
    obtain ⟨hq, hf⟩ := hf
    refine lv_idiv hx hb dX12_chance_117 (nz_ne hq) ?_
    clear hq
    refine lv_goto (tgt := 126) hx hb dX12_chance_118 (by decide) ?_
    cases hf
    exact m_iret C h dX12_chance_126

set_option maxHeartbeats 4000000 in
set_option maxRecDepth 100000 in
theorem wX12_chance_64 (C : MCx p s m args meth c A RX12 cX12_chance 6 (some .int) D cs)  {r : Int32} {g' : MS}  : ∀ (n : Nat) (g : MS) (y1 : Int32) (y2 : Int32) (y3 : Int32) (y4 : Int32) (y5 : Int32), fX12_chance_64 n g y1 y2 y3 y4 y5 = some (r, g') → ∀ (H : Heap) (locs : List Loc) (ls : Array Slot), MH D (MW cs ad g) A s H locs → lv_has ls 6 [(0, .ref (ad 48)), (1, .int y1), (2, .int y2), (3, .int y3), (4, .int y4), (5, .int y5)] → W p l e (rM 18) s m args below meth c H locs 0 0 (MQ below (GPost D (some (.int r)) (MW cs ad g') A) args s 0 0 A) (F0 m 64 ls []) := by
  have hx := C.1
  have hb := C.2.1
  intro n
  induction n with
  | zero =>
    intro g y1 y2 y3 y4 y5 hf
    exact absurd hf (by simp [fX12_chance_64])
  | succ n ih =>
    intro g y1 y2 y3 y4 y5 hf H locs ls h hl
    rw [fX12_chance_64] at hf
    refine lv_iload hx hb dX12_chance_64 (lv_at hl 5 rfl) ?_
    refine lv_iload_n hx hb dX12_chance_66 rfl (lv_at hl 2 rfl) ?_
    refine lv_icmp_ge (tgt := 92) hx hb dX12_chance_67 (by decide) (fun hq => ?_) (fun hq => ?_)
    · replace hf := if_t hq hf
      clear hq
      exact wX12_chance_92 C g y1 y3 y4 hf H locs ls h (lv_sub hl [0, 1, 3, 4] rfl)
    · replace hf := if_f hq hf
      clear hq
      refine lv_aload_n hx hb dX12_chance_70 rfl (lv_at hl 0 rfl) ?_
      replace hf := bndc_some hf
      obtain ⟨x2, g3, hc, hf⟩ := hf
      refine m_callVi [] C h cv_X12_514 (qX12_loose hc) rfl ⟨rfl, rfl⟩ ⟨Nat.le_of_ble_eq_true rfl, Nat.le_of_ble_eq_true rfl⟩ (m_recv C h) hl.1 rfl (Nat.le_of_ble_eq_true rfl) ⟨Nat.le_refl _, Nat.le_refl _⟩ dX12_chance_71 (fun H locs h => ?_)
      clear hc
      refine lv_if_le (tgt := 92) hx hb dX12_chance_74 (by decide) (fun hq => ?_) (fun hq => ?_)
      · replace hf := if_t hq hf
        clear hq
        exact wX12_chance_92 C g3 y1 y3 y4 hf H locs ls h (lv_sub hl [0, 1, 3, 4] rfl)
      · replace hf := if_f hq hf
        clear hq
        refine lv_iload hx hb dX12_chance_77 (lv_at hl 4 rfl) ?_
        refine lv_aload_n hx hb dX12_chance_79 rfl (lv_at hl 0 rfl) ?_
        replace hf := bndc_some hf
        obtain ⟨x4, g5, hc, hf⟩ := hf
        refine m_callVi [] C h cv_X12_514 (qX12_loose hc) rfl ⟨rfl, rfl⟩ ⟨Nat.le_of_ble_eq_true rfl, Nat.le_of_ble_eq_true rfl⟩ (m_recv C h) hl.1 rfl (Nat.le_of_ble_eq_true rfl) ⟨Nat.le_refl _, Nat.le_refl _⟩ dX12_chance_80 (fun H locs h => ?_)
        clear hc
        refine lv_imul hx hb dX12_chance_83 ?_
        refine lv_topi (fun x6 ex6 => ?_)
        replace hf := bnd_at ex6 hf
        clear ex6
        refine lv_istore (lv' := [(4, .int x6), (0, .ref (ad 48)), (1, .int y1), (2, .int y2), (3, .int y3), (5, .int y5)]) hx hb dX12_chance_84 hl (by decide) rfl (fun ls hl => ?_)
        obtain ⟨x7, ex7⟩ : ∃ z : Int32, z = y5 + (1 : Int32) := ⟨_, rfl⟩
        replace hf := bnd_at ex7 hf
        refine lv_iinc (v := x7) (lv' := [(5, .int x7), (4, .int x6), (0, .ref (ad 48)), (1, .int y1), (2, .int y2), (3, .int y3)]) hx hb dX12_chance_86 hl (k := 5) rfl (by rw [ex7]; rfl) (by decide) rfl (fun ls hl => ?_)
        clear ex7
        refine lv_goto (tgt := 64) hx hb dX12_chance_89 (by decide) ?_
        exact ih g5 y1 y2 y3 x6 x7 hf H locs ls h (lv_sub hl [2, 3, 4, 5, 1, 0] rfl)

set_option maxHeartbeats 4000000 in
set_option maxRecDepth 100000 in
theorem wX12_chance_41 (C : MCx p s m args meth c A RX12 cX12_chance 6 (some .int) D cs)  {r : Int32} {g' : MS}  : ∀ (g : MS) (y1 : Int32) (y2 : Int32) (y3 : Int32) (t1 : Int32), fX12_chance_41 g y1 y2 y3 t1 = some (r, g') → ∀ (H : Heap) (locs : List Loc) (ls : Array Slot), MH D (MW cs ad g) A s H locs → lv_has ls 6 [(0, .ref (ad 48)), (1, .int y1), (2, .int y2), (3, .int y3)] → W p l e (rM 18) s m args below meth c H locs 0 0 (MQ below (GPost D (some (.int r)) (MW cs ad g') A) args s 0 0 A) (F0 m 41 ls [.int t1, .ref (ad 48)]) := by
  have hx := C.1
  have hb := C.2.1
  intro g y1 y2 y3 t1 hf H locs ls h hl
  unfold fX12_chance_41 at hf
  replace hf := bnd_ex hf
  obtain ⟨g8, eg8, hf⟩ := hf
  refine mp_4 C h dX12_chance_41 (fun H locs h => ?_)
  rw [← eg8] at h
  clear eg8
  refine lv_aload_n hx hb dX12_chance_44 rfl (lv_at hl 0 rfl) ?_
  refine mg_4 C h dX12_chance_45 ?_
  refine lv_if_le (tgt := 53) hx hb dX12_chance_48 (by decide) (fun hq => ?_) (fun hq => ?_)
  · replace hf := if_t hq hf
    clear hq
    refine lv_aload_n hx hb dX12_chance_53 rfl (lv_at hl 0 rfl) ?_
    refine lv_iload_n hx hb dX12_chance_54 rfl (lv_at hl 2 rfl) ?_
    replace hf := bndv_some hf
    obtain ⟨g9, hc, hf⟩ := hf
    refine m_callVv [.int y2] C h cv_X12_522 (qX12_laysChance hc) rfl ⟨rfl, rfl⟩ ⟨Nat.le_of_ble_eq_true rfl, Nat.le_of_ble_eq_true rfl⟩ (m_recv C h) hl.1 rfl (Nat.le_of_ble_eq_true rfl) ⟨Nat.le_refl _, Nat.le_refl _⟩ dX12_chance_55 (fun H locs h => ?_)
    clear hc
    refine lv_iconst (v := (1 : Int32)) hx hb dX12_chance_58 (by decide) ?_
    refine lv_istore (lv' := [(4, .int (1 : Int32)), (0, .ref (ad 48)), (1, .int y1), (2, .int y2), (3, .int y3)]) hx hb dX12_chance_59 hl (by decide) rfl (fun ls hl => ?_)
    refine lv_iconst (v := (0 : Int32)) hx hb dX12_chance_61 (by decide) ?_
    refine lv_istore (lv' := [(5, .int (0 : Int32)), (4, .int (1 : Int32)), (0, .ref (ad 48)), (1, .int y1), (2, .int y2), (3, .int y3)]) hx hb dX12_chance_62 hl (by decide) rfl (fun ls hl => ?_)
    exact wX12_chance_64 C fuel g9 y1 y2 y3 (1 : Int32) (0 : Int32) hf H locs ls h (lv_sub hl [2, 3, 4, 5, 1, 0] rfl)
  · replace hf := if_f hq hf
    clear hq
    refine lv_iconst (v := (0 : Int32)) hx hb dX12_chance_51 (by decide) ?_
    cases hf
    exact m_iret C h dX12_chance_52

set_option maxHeartbeats 4000000 in
set_option maxRecDepth 100000 in
theorem wX12_chance_40 (C : MCx p s m args meth c A RX12 cX12_chance 6 (some .int) D cs)  {r : Int32} {g' : MS}  : ∀ (g : MS) (y1 : Int32) (y2 : Int32) (y3 : Int32), fX12_chance_40 g y1 y2 y3 = some (r, g') → ∀ (H : Heap) (locs : List Loc) (ls : Array Slot), MH D (MW cs ad g) A s H locs → lv_has ls 6 [(0, .ref (ad 48)), (1, .int y1), (2, .int y2), (3, .int y3)] → W p l e (rM 18) s m args below meth c H locs 0 0 (MQ below (GPost D (some (.int r)) (MW cs ad g') A) args s 0 0 A) (F0 m 40 ls [.ref (ad 48)]) := by
  have hx := C.1
  have hb := C.2.1
  intro g y1 y2 y3 hf H locs ls h hl
  unfold fX12_chance_40 at hf
  refine lv_iconst (v := (2 : Int32)) hx hb dX12_chance_40 (by decide) ?_
  exact wX12_chance_41 C g y1 y2 y3 (2 : Int32) hf H locs ls h (lv_sub hl [0, 1, 2, 3] rfl)

set_option maxHeartbeats 4000000 in
set_option maxRecDepth 100000 in
theorem qX12_chance {l : Launch} {D : va_G} {cs : Nat → ClassId} {ad : Nat → Nat} {r : Int32} {g' : MS} {g : MS}  {a0 : Int32} {a1 : Int32} {a2 : Int32} (hf : fX12_chance g a0 a1 a2 = some (r, g')) : GCon l D cs yX12_chance cX12_chance 6 (some .int) (rM 18) 0 0 [.ref (ad 48), .int a0, .int a1, .int a2] (MW cs ad g) (some (.int r)) (MW cs ad g') := by
  refine GCon.of (by decide) (Nat.le_of_ble_eq_true rfl) ?_
  intro p e s m args below meth c A ls H locs C h hl
  have hx := C.1
  have hb := C.2.1
  have C : MCx p s m args meth c A RX12 cX12_chance 6 (some .int) D cs := C
  have hl : lv_has ls 6 [(0, .ref (ad 48)), (1, .int a0), (2, .int a1), (3, .int a2)] := hl
  unfold fX12_chance at hf
  refine lv_aload_n hx hb dX12_chance_0 rfl (lv_at hl 0 rfl) ?_
  refine lv_aload_n hx hb dX12_chance_1 rfl (lv_at hl 0 rfl) ?_
  refine lv_iload_n hx hb dX12_chance_2 rfl (lv_at hl 1 rfl) ?_
  refine lv_i2l hx hb dX12_chance_3 rfl ?_
  replace hf := bndc_some hf
  obtain ⟨x10, g11, hc, hf⟩ := hf
  refine m_callVi [.long a0.toInt64] C h cv_X12_319 (qX12_isMember hc) rfl ⟨rfl, rfl⟩ ⟨Nat.le_of_ble_eq_true rfl, Nat.le_of_ble_eq_true rfl⟩ (m_recv C h) hl.1 rfl (Nat.le_of_ble_eq_true rfl) ⟨Nat.le_refl _, Nat.le_refl _⟩ dX12_chance_4 (fun H locs h => ?_)
  clear hc
  refine lv_if_ne (tgt := 14) hx hb dX12_chance_7 (by decide) (fun hq => ?_) (fun hq => ?_)
  · replace hf := if_tn hq hf
    clear hq
    refine lv_iload_n hx hb dX12_chance_14 rfl (lv_at hl 2 rfl) ?_
    refine lv_i2l hx hb dX12_chance_15 rfl ?_
    refine lv_lconst (v := (0 : Int64)) hx hb dX12_chance_16 rfl ?_
    refine lv_ldc2 hx hb C.2.2.2.1 (C.2.2.2.2.1 _ tb_66_2) dX12_chance_17 ?_
    replace hf := bndv_some hf
    obtain ⟨x12, hc, hf⟩ := hf
    refine m_callSi [.long a1.toInt64, .long (0 : Int64), .long (6 : Int64)] C h cs_X12_147 (qX12_within hc) rfl ⟨rfl, rfl⟩ ⟨Nat.le_of_ble_eq_true rfl, Nat.le_of_ble_eq_true rfl⟩ hl.1 rfl (Nat.le_of_ble_eq_true rfl) ⟨Nat.le_refl _, Nat.le_refl _⟩ dX12_chance_20 (fun H locs h => ?_)
    clear hc
    refine lv_if_eq (tgt := 40) hx hb dX12_chance_23 (by decide) (fun hq => ?_) (fun hq => ?_)
    · replace hf := if_t hq hf
      clear hq
      exact wX12_chance_40 C g11 a0 a1 a2 hf H locs ls h (lv_sub hl [0, 1, 2, 3] rfl)
    · replace hf := if_f hq hf
      clear hq
      refine lv_iload_n hx hb dX12_chance_26 rfl (lv_at hl 3 rfl) ?_
      refine lv_i2l hx hb dX12_chance_27 rfl ?_
      refine lv_lconst (v := (0 : Int64)) hx hb dX12_chance_28 rfl ?_
      refine lv_lconst (v := (1 : Int64)) hx hb dX12_chance_29 rfl ?_
      replace hf := bndv_some hf
      obtain ⟨x13, hc, hf⟩ := hf
      refine m_callSi [.long a2.toInt64, .long (0 : Int64), .long (1 : Int64)] C h cs_X12_147 (qX12_within hc) rfl ⟨rfl, rfl⟩ ⟨Nat.le_of_ble_eq_true rfl, Nat.le_of_ble_eq_true rfl⟩ hl.1 rfl (Nat.le_of_ble_eq_true rfl) ⟨Nat.le_refl _, Nat.le_refl _⟩ dX12_chance_30 (fun H locs h => ?_)
      clear hc
      refine lv_if_eq (tgt := 40) hx hb dX12_chance_33 (by decide) (fun hq => ?_) (fun hq => ?_)
      · replace hf := if_t hq hf
        clear hq
        exact wX12_chance_40 C g11 a0 a1 a2 hf H locs ls h (lv_sub hl [0, 1, 2, 3] rfl)
      · replace hf := if_f hq hf
        clear hq
        refine lv_iconst (v := (0 : Int32)) hx hb dX12_chance_36 (by decide) ?_
        refine lv_goto (tgt := 41) hx hb dX12_chance_37 (by decide) ?_
        exact wX12_chance_41 C g11 a0 a1 a2 (0 : Int32) hf H locs ls h (lv_sub hl [0, 1, 2, 3] rfl)
  · replace hf := if_t hq hf
    clear hq
    refine lv_iconst (v := (1 : Int32)) hx hb dX12_chance_10 (by decide) ?_
    refine lv_goto (tgt := 41) hx hb dX12_chance_11 (by decide) ?_
    exact wX12_chance_41 C g11 a0 a1 a2 (1 : Int32) hf H locs ls h (lv_sub hl [0, 1, 2, 3] rfl)

set_option maxHeartbeats 4000000 in
set_option maxRecDepth 100000 in
theorem wX12_likeliest_61 (C : MCx p s m args meth c A RX12 cX12_likeliest 4 (some .int) D cs)  {r : Int32} {g' : MS}  {k32 : MS → Int32 → Int32 → Option (Int32 × MS)} (hk32 : ∀ (g : MS) (y2 : Int32) (y3 : Int32), k32 g y2 y3 = some (r, g') → ∀ (H : Heap) (locs : List Loc) (ls : Array Slot), MH D (MW cs ad g) A s H locs → lv_has ls 4 [(0, .ref (ad 48)), (2, .int y2), (3, .int y3)] → W p l e (rM 18) s m args below meth c H locs 0 0 (MQ below (GPost D (some (.int r)) (MW cs ad g') A) args s 0 0 A) (F0 m 32 ls [])) : ∀ (g : MS) (y2 : Int32) (y3 : Int32) (t0 : Int32) (t1 : Int32), fX12_likeliest_61 k32 g y2 y3 t0 t1 = some (r, g') → ∀ (H : Heap) (locs : List Loc) (ls : Array Slot), MH D (MW cs ad g) A s H locs → lv_has ls 4 [(0, .ref (ad 48)), (2, .int y2), (3, .int y3)] → W p l e (rM 18) s m args below meth c H locs 0 0 (MQ below (GPost D (some (.int r)) (MW cs ad g') A) args s 0 0 A) (F0 m 61 ls [.int t1, .int t0]) := by
  have hx := C.1
  have hb := C.2.1
  intro g y2 y3 t0 t1 hf H locs ls h hl
  unfold fX12_likeliest_61 at hf
  refine lv_icmp_le (tgt := 66) hx hb dX12_likeliest_61 (by decide) (fun hq => ?_) (fun hq => ?_)
  · replace hf := if_t hq hf
    clear hq
    obtain ⟨x1, ex1⟩ : ∃ z : Int32, z = y3 + (1 : Int32) := ⟨_, rfl⟩
    replace hf := bnd_at ex1 hf
    refine lv_iinc (v := x1) (lv' := [(3, .int x1), (0, .ref (ad 48)), (2, .int y2)]) hx hb dX12_likeliest_66 hl (k := 2) rfl (by rw [ex1]; rfl) (by decide) rfl (fun ls hl => ?_)
    clear ex1
    refine lv_goto (tgt := 32) hx hb dX12_likeliest_69 (by decide) ?_
    exact hk32 g y2 x1 hf H locs ls h (lv_sub hl [1, 2, 0] rfl)
  · replace hf := if_f hq hf
    clear hq
    refine lv_iload_n hx hb dX12_likeliest_64 rfl (lv_at hl 2 rfl) ?_
    refine lv_istore_n (lv' := [(2, .int y3), (0, .ref (ad 48)), (3, .int y3)]) hx hb dX12_likeliest_65 rfl hl (by decide) rfl (fun ls hl => ?_)
    obtain ⟨x2, ex2⟩ : ∃ z : Int32, z = y3 + (1 : Int32) := ⟨_, rfl⟩
    replace hf := bnd_at ex2 hf
    refine lv_iinc (v := x2) (lv' := [(3, .int x2), (2, .int y3), (0, .ref (ad 48))]) hx hb dX12_likeliest_66 hl (k := 2) rfl (by rw [ex2]; rfl) (by decide) rfl (fun ls hl => ?_)
    clear ex2
    refine lv_goto (tgt := 32) hx hb dX12_likeliest_69 (by decide) ?_
    exact hk32 g y3 x2 hf H locs ls h (lv_sub hl [2, 1, 0] rfl)

set_option maxHeartbeats 4000000 in
set_option maxRecDepth 100000 in
theorem wX12_likeliest_32 (C : MCx p s m args meth c A RX12 cX12_likeliest 4 (some .int) D cs)  {r : Int32} {g' : MS}  : ∀ (n : Nat) (g : MS) (y2 : Int32) (y3 : Int32), fX12_likeliest_32 n g y2 y3 = some (r, g') → ∀ (H : Heap) (locs : List Loc) (ls : Array Slot), MH D (MW cs ad g) A s H locs → lv_has ls 4 [(0, .ref (ad 48)), (2, .int y2), (3, .int y3)] → W p l e (rM 18) s m args below meth c H locs 0 0 (MQ below (GPost D (some (.int r)) (MW cs ad g') A) args s 0 0 A) (F0 m 32 ls []) := by
  have hx := C.1
  have hb := C.2.1
  intro n
  induction n with
  | zero =>
    intro g y2 y3 hf
    exact absurd hf (by simp [fX12_likeliest_32])
  | succ n ih =>
    intro g y2 y3 hf H locs ls h hl
    rw [fX12_likeliest_32] at hf
    refine lv_iload_n hx hb dX12_likeliest_32 rfl (lv_at hl 2 rfl) ?_
    refine lv_aload_n hx hb dX12_likeliest_33 rfl (lv_at hl 0 rfl) ?_
    replace hf := bndc_some hf
    obtain ⟨x3, g4, hc, hf⟩ := hf
    refine m_callVi [] C h cv_X12_254 (qX12_size hc) rfl ⟨rfl, rfl⟩ ⟨Nat.le_of_ble_eq_true rfl, Nat.le_of_ble_eq_true rfl⟩ (m_recv C h) hl.1 rfl (Nat.le_of_ble_eq_true rfl) ⟨Nat.le_refl _, Nat.le_refl _⟩ dX12_likeliest_34 (fun H locs h => ?_)
    clear hc
    refine lv_icmp_ge (tgt := 72) hx hb dX12_likeliest_37 (by decide) (fun hq => ?_) (fun hq => ?_)
    · replace hf := if_t hq hf
      clear hq
      refine lv_iload_n hx hb dX12_likeliest_72 rfl (lv_at hl 1 rfl) ?_
      cases hf
      exact m_iret C h dX12_likeliest_73
    · replace hf := if_f hq hf
      clear hq
      refine lv_aload_n hx hb dX12_likeliest_40 rfl (lv_at hl 0 rfl) ?_
      refine mg_30 C h dX12_likeliest_41 ?_
      refine lv_iload_n hx hb dX12_likeliest_44 rfl (lv_at hl 2 rfl) ?_
      replace hf := chk_some hf
      obtain ⟨hq, hf⟩ := hf
      refine ml_30 C h hq dX12_likeliest_45 ?_
      clear hq
      refine lv_iload_n hx hb dX12_likeliest_46 rfl (lv_at hl 1 rfl) ?_
      refine lv_iconst (v := (-1 : Int32)) hx hb dX12_likeliest_47 (by decide) ?_
      refine lv_icmp_ne (tgt := 55) hx hb dX12_likeliest_48 (by decide) (fun hq => ?_) (fun hq => ?_)
      · replace hf := if_tn hq hf
        clear hq
        refine lv_aload_n hx hb dX12_likeliest_55 rfl (lv_at hl 0 rfl) ?_
        refine mg_30 C h dX12_likeliest_56 ?_
        refine lv_iload_n hx hb dX12_likeliest_59 rfl (lv_at hl 1 rfl) ?_
        replace hf := chk_some hf
        obtain ⟨hq, hf⟩ := hf
        refine ml_30 C h hq dX12_likeliest_60 ?_
        clear hq
        exact wX12_likeliest_61 C ih g4 y2 y3 (g4.2.1 30 (ix y3)) (g4.2.1 30 (ix y2)) hf H locs ls h (lv_sub hl [0, 1, 2] rfl)
      · replace hf := if_t hq hf
        clear hq
        refine lv_iconst (v := (0 : Int32)) hx hb dX12_likeliest_51 (by decide) ?_
        refine lv_goto (tgt := 61) hx hb dX12_likeliest_52 (by decide) ?_
        exact wX12_likeliest_61 C ih g4 y2 y3 (g4.2.1 30 (ix y3)) (0 : Int32) hf H locs ls h (lv_sub hl [0, 1, 2] rfl)

set_option maxHeartbeats 4000000 in
set_option maxRecDepth 100000 in
theorem qX12_likeliest {l : Launch} {D : va_G} {cs : Nat → ClassId} {ad : Nat → Nat} {r : Int32} {g' : MS} {g : MS}  {a0 : Int32} (hf : fX12_likeliest g a0 = some (r, g')) : GCon l D cs yX12_likeliest cX12_likeliest 4 (some .int) (rM 18) 0 0 [.ref (ad 48), .int a0] (MW cs ad g) (some (.int r)) (MW cs ad g') := by
  refine GCon.of (by decide) (Nat.le_of_ble_eq_true rfl) ?_
  intro p e s m args below meth c A ls H locs C h hl
  have hx := C.1
  have hb := C.2.1
  have C : MCx p s m args meth c A RX12 cX12_likeliest 4 (some .int) D cs := C
  have hl : lv_has ls 4 [(0, .ref (ad 48)), (1, .int a0)] := hl
  unfold fX12_likeliest at hf
  refine lv_aload_n hx hb dX12_likeliest_0 rfl (lv_at hl 0 rfl) ?_
  refine lv_iconst (v := (0 : Int32)) hx hb dX12_likeliest_1 (by decide) ?_
  replace hf := bnd_ex hf
  obtain ⟨g5, eg5, hf⟩ := hf
  refine mp_4 C h dX12_likeliest_2 (fun H locs h => ?_)
  rw [← eg5] at h
  clear eg5
  refine lv_iload_n hx hb dX12_likeliest_5 rfl (lv_at hl 1 rfl) ?_
  refine lv_i2l hx hb dX12_likeliest_6 rfl ?_
  refine lv_lconst (v := (0 : Int64)) hx hb dX12_likeliest_7 rfl ?_
  refine lv_ldc2 hx hb C.2.2.2.1 (C.2.2.2.2.1 _ tb_66_2) dX12_likeliest_8 ?_
  replace hf := bndv_some hf
  obtain ⟨x6, hc, hf⟩ := hf
  refine m_callSi [.long a0.toInt64, .long (0 : Int64), .long (6 : Int64)] C h cs_X12_147 (qX12_within hc) rfl ⟨rfl, rfl⟩ ⟨Nat.le_of_ble_eq_true rfl, Nat.le_of_ble_eq_true rfl⟩ hl.1 rfl (Nat.le_of_ble_eq_true rfl) ⟨Nat.le_refl _, Nat.le_refl _⟩ dX12_likeliest_11 (fun H locs h => ?_)
  clear hc
  refine lv_if_ne (tgt := 23) hx hb dX12_likeliest_14 (by decide) (fun hq => ?_) (fun hq => ?_)
  · replace hf := if_tn hq hf
    clear hq
    refine lv_aload_n hx hb dX12_likeliest_23 rfl (lv_at hl 0 rfl) ?_
    refine lv_iload_n hx hb dX12_likeliest_24 rfl (lv_at hl 1 rfl) ?_
    replace hf := bndv_some hf
    obtain ⟨g7, hc, hf⟩ := hf
    refine m_callVv [.int a0] C h cv_X12_522 (qX12_laysChance hc) rfl ⟨rfl, rfl⟩ ⟨Nat.le_of_ble_eq_true rfl, Nat.le_of_ble_eq_true rfl⟩ (m_recv C h) hl.1 rfl (Nat.le_of_ble_eq_true rfl) ⟨Nat.le_refl _, Nat.le_refl _⟩ dX12_likeliest_25 (fun H locs h => ?_)
    clear hc
    refine lv_iconst (v := (-1 : Int32)) hx hb dX12_likeliest_28 (by decide) ?_
    refine lv_istore_n (lv' := [(2, .int (-1 : Int32)), (0, .ref (ad 48)), (1, .int a0)]) hx hb dX12_likeliest_29 rfl hl (by decide) rfl (fun ls hl => ?_)
    refine lv_iconst (v := (0 : Int32)) hx hb dX12_likeliest_30 (by decide) ?_
    refine lv_istore_n (lv' := [(3, .int (0 : Int32)), (2, .int (-1 : Int32)), (0, .ref (ad 48)), (1, .int a0)]) hx hb dX12_likeliest_31 rfl hl (by decide) rfl (fun ls hl => ?_)
    exact wX12_likeliest_32 C fuel g7 (-1 : Int32) (0 : Int32) hf H locs ls h (lv_sub hl [2, 1, 0] rfl)
  · replace hf := if_t hq hf
    clear hq
    refine lv_aload_n hx hb dX12_likeliest_17 rfl (lv_at hl 0 rfl) ?_
    refine lv_iconst (v := (1 : Int32)) hx hb dX12_likeliest_18 (by decide) ?_
    replace hf := bndc_some hf
    obtain ⟨x8, g9, hc, hf⟩ := hf
    refine m_callVi [.int (1 : Int32)] C h cv_X12_239 (qX12_fails hc) rfl ⟨rfl, rfl⟩ ⟨Nat.le_of_ble_eq_true rfl, Nat.le_of_ble_eq_true rfl⟩ (m_recv C h) hl.1 rfl (Nat.le_of_ble_eq_true rfl) ⟨Nat.le_refl _, Nat.le_refl _⟩ dX12_likeliest_19 (fun H locs h => ?_)
    clear hc
    cases hf
    exact m_iret C h dX12_likeliest_22

set_option maxHeartbeats 4000000 in
set_option maxRecDepth 100000 in
theorem wX12_tray_69 (C : MCx p s m args meth c A RX12 cX12_tray 5 none D cs)  {g' : MS}  : ∀ (n : Nat) (g : MS) (y1 : Int32) (y4 : Int32), fX12_tray_69 n g y1 y4 = some g' → ∀ (H : Heap) (locs : List Loc) (ls : Array Slot), MH D (MW cs ad g) A s H locs → lv_has ls 5 [(0, .ref (ad 48)), (1, .int y1), (4, .int y4)] → W p l e (rM 2) s m args below meth c H locs 0 0 (MQ below (GPost D none (MW cs ad g') A) args s 0 0 A) (F0 m 69 ls []) := by
  have hx := C.1
  have hb := C.2.1
  intro n
  induction n with
  | zero =>
    intro g y1 y4 hf
    exact absurd hf (by simp [fX12_tray_69])
  | succ n ih =>
    intro g y1 y4 hf H locs ls h hl
    rw [fX12_tray_69] at hf
    refine lv_iload hx hb dX12_tray_69 (lv_at hl 2 rfl) ?_
    refine lv_bipush (v := (30 : Int32)) hx hb dX12_tray_71 (by decide) ?_
    refine lv_icmp_ge (tgt := 95) hx hb dX12_tray_73 (by decide) (fun hq => ?_) (fun hq => ?_)
    · replace hf := if_t hq hf
      clear hq
      cases hf
      exact m_vret C h dX12_tray_95
    · replace hf := if_f hq hf
      clear hq
      refine lv_aload_n hx hb dX12_tray_76 rfl (lv_at hl 0 rfl) ?_
      refine mg_47 C h dX12_tray_77 ?_
      refine lv_bipush (v := (30 : Int32)) hx hb dX12_tray_80 (by decide) ?_
      refine lv_iload_n hx hb dX12_tray_82 rfl (lv_at hl 1 rfl) ?_
      refine lv_imul hx hb dX12_tray_83 ?_
      refine lv_iload hx hb dX12_tray_84 (lv_at hl 2 rfl) ?_
      refine lv_iadd hx hb dX12_tray_86 ?_
      refine lv_lconst (v := (0 : Int64)) hx hb dX12_tray_87 rfl ?_
      replace hf := chk_some hf
      obtain ⟨hq, hf⟩ := hf
      replace hf := bnd_ex hf
      obtain ⟨g1, eg1, hf⟩ := hf
      refine ms_47 C h hq dX12_tray_88 (fun H locs h => ?_)
      rw [← eg1] at h
      clear hq eg1
      obtain ⟨x2, ex2⟩ : ∃ z : Int32, z = y4 + (1 : Int32) := ⟨_, rfl⟩
      replace hf := bnd_at ex2 hf
      refine lv_iinc (v := x2) (lv' := [(4, .int x2), (0, .ref (ad 48)), (1, .int y1)]) hx hb dX12_tray_89 hl (k := 2) rfl (by rw [ex2]; rfl) (by decide) rfl (fun ls hl => ?_)
      clear ex2
      refine lv_goto (tgt := 69) hx hb dX12_tray_92 (by decide) ?_
      exact ih g1 y1 x2 hf H locs ls h (lv_sub hl [1, 2, 0] rfl)

set_option maxHeartbeats 4000000 in
set_option maxRecDepth 100000 in
theorem wX12_tray_41 (C : MCx p s m args meth c A RX12 cX12_tray 5 none D cs)  {g' : MS}  : ∀ (g : MS) (y1 : Int32) (y2 : Int32) (y3 : Int32) (t1 : Int32), fX12_tray_41 g y1 y2 y3 t1 = some g' → ∀ (H : Heap) (locs : List Loc) (ls : Array Slot), MH D (MW cs ad g) A s H locs → lv_has ls 5 [(0, .ref (ad 48)), (1, .int y1), (2, .int y2), (3, .int y3)] → W p l e (rM 2) s m args below meth c H locs 0 0 (MQ below (GPost D none (MW cs ad g') A) args s 0 0 A) (F0 m 41 ls [.int t1, .ref (ad 48)]) := by
  have hx := C.1
  have hb := C.2.1
  intro g y1 y2 y3 t1 hf H locs ls h hl
  unfold fX12_tray_41 at hf
  replace hf := bnd_ex hf
  obtain ⟨g3, eg3, hf⟩ := hf
  refine mp_4 C h dX12_tray_41 (fun H locs h => ?_)
  rw [← eg3] at h
  clear eg3
  refine lv_aload_n hx hb dX12_tray_44 rfl (lv_at hl 0 rfl) ?_
  refine mg_4 C h dX12_tray_45 ?_
  refine lv_if_le (tgt := 52) hx hb dX12_tray_48 (by decide) (fun hq => ?_) (fun hq => ?_)
  · replace hf := if_t hq hf
    clear hq
    refine lv_aload_n hx hb dX12_tray_52 rfl (lv_at hl 0 rfl) ?_
    refine mg_45 C h dX12_tray_53 ?_
    refine lv_iload_n hx hb dX12_tray_56 rfl (lv_at hl 1 rfl) ?_
    refine lv_iload_n hx hb dX12_tray_57 rfl (lv_at hl 2 rfl) ?_
    replace hf := chk_some hf
    obtain ⟨hq, hf⟩ := hf
    replace hf := bnd_ex hf
    obtain ⟨g4, eg4, hf⟩ := hf
    refine ms_45 C h hq dX12_tray_58 (fun H locs h => ?_)
    rw [← eg4] at h
    clear hq eg4
    refine lv_aload_n hx hb dX12_tray_59 rfl (lv_at hl 0 rfl) ?_
    refine mg_46 C h dX12_tray_60 ?_
    refine lv_iload_n hx hb dX12_tray_63 rfl (lv_at hl 1 rfl) ?_
    refine lv_iload_n hx hb dX12_tray_64 rfl (lv_at hl 3 rfl) ?_
    replace hf := chk_some hf
    obtain ⟨hq, hf⟩ := hf
    replace hf := bnd_ex hf
    obtain ⟨g5, eg5, hf⟩ := hf
    refine ms_46 C h hq dX12_tray_65 (fun H locs h => ?_)
    rw [← eg5] at h
    clear hq eg5
    refine lv_iconst (v := (0 : Int32)) hx hb dX12_tray_66 (by decide) ?_
    refine lv_istore (lv' := [(4, .int (0 : Int32)), (0, .ref (ad 48)), (1, .int y1), (2, .int y2), (3, .int y3)]) hx hb dX12_tray_67 hl (by decide) rfl (fun ls hl => ?_)
    exact wX12_tray_69 C fuel g5 y1 (0 : Int32) hf H locs ls h (lv_sub hl [1, 2, 0] rfl)
  · replace hf := if_f hq hf
    clear hq
    cases hf
    exact m_vret C h dX12_tray_51

set_option maxHeartbeats 4000000 in
set_option maxRecDepth 100000 in
theorem wX12_tray_36 (C : MCx p s m args meth c A RX12 cX12_tray 5 none D cs)  {g' : MS}  : ∀ (g : MS) (y1 : Int32) (y2 : Int32) (y3 : Int32), fX12_tray_36 g y1 y2 y3 = some g' → ∀ (H : Heap) (locs : List Loc) (ls : Array Slot), MH D (MW cs ad g) A s H locs → lv_has ls 5 [(0, .ref (ad 48)), (1, .int y1), (2, .int y2), (3, .int y3)] → W p l e (rM 2) s m args below meth c H locs 0 0 (MQ below (GPost D none (MW cs ad g') A) args s 0 0 A) (F0 m 36 ls [.ref (ad 48)]) := by
  have hx := C.1
  have hb := C.2.1
  intro g y1 y2 y3 hf H locs ls h hl
  unfold fX12_tray_36 at hf
  refine lv_iconst (v := (2 : Int32)) hx hb dX12_tray_36 (by decide) ?_
  refine lv_goto (tgt := 41) hx hb dX12_tray_37 (by decide) ?_
  exact wX12_tray_41 C g y1 y2 y3 (2 : Int32) hf H locs ls h (lv_sub hl [0, 1, 2, 3] rfl)

set_option maxHeartbeats 4000000 in
set_option maxRecDepth 100000 in
theorem qX12_tray {l : Launch} {D : va_G} {cs : Nat → ClassId} {ad : Nat → Nat} {g' : MS} {g : MS}  {a0 : Int32} {a1 : Int32} {a2 : Int32} (hf : fX12_tray g a0 a1 a2 = some g') : GCon l D cs yX12_tray cX12_tray 5 none (rM 2) 0 0 [.ref (ad 48), .int a0, .int a1, .int a2] (MW cs ad g) none (MW cs ad g') := by
  refine GCon.of (by decide) (Nat.le_of_ble_eq_true rfl) ?_
  intro p e s m args below meth c A ls H locs C h hl
  have hx := C.1
  have hb := C.2.1
  have C : MCx p s m args meth c A RX12 cX12_tray 5 none D cs := C
  have hl : lv_has ls 5 [(0, .ref (ad 48)), (1, .int a0), (2, .int a1), (3, .int a2)] := hl
  unfold fX12_tray at hf
  refine lv_aload_n hx hb dX12_tray_0 rfl (lv_at hl 0 rfl) ?_
  refine lv_iload_n hx hb dX12_tray_1 rfl (lv_at hl 1 rfl) ?_
  replace hf := bndv_some hf
  obtain ⟨x6, hc, hf⟩ := hf
  refine m_callSi [.int a0] C h cs_X12_356 (qX12_isTray hc) rfl ⟨rfl, rfl⟩ ⟨Nat.le_of_ble_eq_true rfl, Nat.le_of_ble_eq_true rfl⟩ hl.1 rfl (Nat.le_of_ble_eq_true rfl) ⟨Nat.le_refl _, Nat.le_refl _⟩ dX12_tray_2 (fun H locs h => ?_)
  clear hc
  refine lv_if_ne (tgt := 12) hx hb dX12_tray_5 (by decide) (fun hq => ?_) (fun hq => ?_)
  · replace hf := if_tn hq hf
    clear hq
    refine lv_iload_n hx hb dX12_tray_12 rfl (lv_at hl 2 rfl) ?_
    refine lv_i2l hx hb dX12_tray_13 rfl ?_
    refine lv_lconst (v := (0 : Int64)) hx hb dX12_tray_14 rfl ?_
    refine lv_ldc2 hx hb C.2.2.2.1 (C.2.2.2.2.1 _ tb_40_5) dX12_tray_15 ?_
    replace hf := bndv_some hf
    obtain ⟨x7, hc, hf⟩ := hf
    refine m_callSi [.long a1.toInt64, .long (0 : Int64), .long (3 : Int64)] C h cs_X12_147 (qX12_within hc) rfl ⟨rfl, rfl⟩ ⟨Nat.le_of_ble_eq_true rfl, Nat.le_of_ble_eq_true rfl⟩ hl.1 rfl (Nat.le_of_ble_eq_true rfl) ⟨Nat.le_refl _, Nat.le_refl _⟩ dX12_tray_18 (fun H locs h => ?_)
    clear hc
    refine lv_if_eq (tgt := 36) hx hb dX12_tray_21 (by decide) (fun hq => ?_) (fun hq => ?_)
    · replace hf := if_t hq hf
      clear hq
      exact wX12_tray_36 C g a0 a1 a2 hf H locs ls h (lv_sub hl [0, 1, 2, 3] rfl)
    · replace hf := if_f hq hf
      clear hq
      refine lv_iload_n hx hb dX12_tray_24 rfl (lv_at hl 3 rfl) ?_
      refine lv_i2l hx hb dX12_tray_25 rfl ?_
      refine lv_lconst (v := (0 : Int64)) hx hb dX12_tray_26 rfl ?_
      refine lv_ldc2 hx hb C.2.2.2.1 (C.2.2.2.2.1 _ tb_42_17) dX12_tray_27 ?_
      replace hf := bndv_some hf
      obtain ⟨x8, hc, hf⟩ := hf
      refine m_callSi [.long a2.toInt64, .long (0 : Int64), .long (30 : Int64)] C h cs_X12_147 (qX12_within hc) rfl ⟨rfl, rfl⟩ ⟨Nat.le_of_ble_eq_true rfl, Nat.le_of_ble_eq_true rfl⟩ hl.1 rfl (Nat.le_of_ble_eq_true rfl) ⟨Nat.le_refl _, Nat.le_refl _⟩ dX12_tray_30 (fun H locs h => ?_)
      clear hc
      refine lv_if_ne (tgt := 40) hx hb dX12_tray_33 (by decide) (fun hq => ?_) (fun hq => ?_)
      · replace hf := if_tn hq hf
        clear hq
        refine lv_iconst (v := (0 : Int32)) hx hb dX12_tray_40 (by decide) ?_
        exact wX12_tray_41 C g a0 a1 a2 (0 : Int32) hf H locs ls h (lv_sub hl [0, 1, 2, 3] rfl)
      · replace hf := if_t hq hf
        clear hq
        exact wX12_tray_36 C g a0 a1 a2 hf H locs ls h (lv_sub hl [0, 1, 2, 3] rfl)
  · replace hf := if_t hq hf
    clear hq
    refine lv_iconst (v := (1 : Int32)) hx hb dX12_tray_8 (by decide) ?_
    refine lv_goto (tgt := 41) hx hb dX12_tray_9 (by decide) ?_
    exact wX12_tray_41 C g a0 a1 a2 (1 : Int32) hf H locs ls h (lv_sub hl [0, 1, 2, 3] rfl)

set_option maxHeartbeats 4000000 in
set_option maxRecDepth 100000 in
theorem qX12_cut {l : Launch} {D : va_G} {cs : Nat → ClassId} {ad : Nat → Nat} {r : Int64} {g' : MS} {g : MS}  {a0 : Int32} {a1 : Int32} {a2 : Int64} (hf : fX12_cut g a0 a1 a2 = some (r, g')) : GCon l D cs yX12_cut cX12_cut 6 (some .long) (rM 0) 0 0 [.ref (ad 48), .int a0, .int a1, .long a2] (MW cs ad g) (some (.long r)) (MW cs ad g') := by
  refine GCon.of (by decide) (Nat.le_of_ble_eq_true rfl) ?_
  intro p e s m args below meth c A ls H locs C h hl
  have hx := C.1
  have hb := C.2.1
  have C : MCx p s m args meth c A RX12 cX12_cut 6 (some .long) D cs := C
  have hl : lv_has ls 6 [(0, .ref (ad 48)), (1, .int a0), (2, .int a1), (3, .long a2)] := hl
  unfold fX12_cut at hf
  refine lv_bipush (v := (64 : Int32)) hx hb dX12_cut_0 (by decide) ?_
  refine lv_bipush (v := (8 : Int32)) hx hb dX12_cut_2 (by decide) ?_
  refine lv_aload_n hx hb dX12_cut_4 rfl (lv_at hl 0 rfl) ?_
  refine mg_45 C h dX12_cut_5 ?_
  refine lv_iload_n hx hb dX12_cut_8 rfl (lv_at hl 1 rfl) ?_
  replace hf := chk_some hf
  obtain ⟨hq, hf⟩ := hf
  refine ml_45 C h hq dX12_cut_9 ?_
  clear hq
  refine x_ishl hx hb dX12_cut_10 ?_
  refine lv_isub hx hb dX12_cut_11 ?_
  refine lv_topi (fun x1 ex1 => ?_)
  replace hf := bnd_at ex1 hf
  clear ex1
  refine lv_istore (lv' := [(5, .int x1), (0, .ref (ad 48)), (1, .int a0), (2, .int a1), (3, .long a2)]) hx hb dX12_cut_12 hl (by decide) rfl (fun ls hl => ?_)
  refine lv_aload_n hx hb dX12_cut_14 rfl (lv_at hl 1 rfl) ?_
  refine mg_47 C h dX12_cut_15 ?_
  refine lv_bipush (v := (30 : Int32)) hx hb dX12_cut_18 (by decide) ?_
  refine lv_iload_n hx hb dX12_cut_20 rfl (lv_at hl 2 rfl) ?_
  refine lv_imul hx hb dX12_cut_21 ?_
  refine lv_iload_n hx hb dX12_cut_22 rfl (lv_at hl 3 rfl) ?_
  refine lv_iadd hx hb dX12_cut_23 ?_
  refine lv_lload_n hx hb dX12_cut_24 rfl (lv_at hl 4 rfl) ?_
  refine lv_iload hx hb dX12_cut_25 (lv_at hl 0 rfl) ?_
  refine x_lshl hx hb dX12_cut_27 ?_
  refine lv_iload hx hb dX12_cut_28 (lv_at hl 0 rfl) ?_
  refine x_lshr hx hb dX12_cut_30 ?_
  replace hf := chk_some hf
  obtain ⟨hq, hf⟩ := hf
  replace hf := bnd_ex hf
  obtain ⟨g2, eg2, hf⟩ := hf
  refine ms_47 C h hq dX12_cut_31 (fun H locs h => ?_)
  rw [← eg2] at h
  clear hq eg2
  refine lv_aload_n hx hb dX12_cut_32 rfl (lv_at hl 1 rfl) ?_
  refine mg_47 C h dX12_cut_33 ?_
  refine lv_bipush (v := (30 : Int32)) hx hb dX12_cut_36 (by decide) ?_
  refine lv_iload_n hx hb dX12_cut_38 rfl (lv_at hl 2 rfl) ?_
  refine lv_imul hx hb dX12_cut_39 ?_
  refine lv_iload_n hx hb dX12_cut_40 rfl (lv_at hl 3 rfl) ?_
  refine lv_iadd hx hb dX12_cut_41 ?_
  replace hf := chk_some hf
  obtain ⟨hq, hf⟩ := hf
  refine ml_47 C h hq dX12_cut_42 ?_
  clear hq
  cases hf
  exact m_lret C h dX12_cut_43

set_option maxHeartbeats 4000000 in
set_option maxRecDepth 100000 in
theorem qX12_write {l : Launch} {D : va_G} {cs : Nat → ClassId} {ad : Nat → Nat} {r : Int64} {g' : MS} {g : MS}  {a0 : Int32} {a1 : Int32} {a2 : Int64} (hf : fX12_write g a0 a1 a2 = some (r, g')) : GCon l D cs yX12_write cX12_write 5 (some .long) (rM 3) 0 0 [.ref (ad 48), .int a0, .int a1, .long a2] (MW cs ad g) (some (.long r)) (MW cs ad g') := by
  refine GCon.of (by decide) (Nat.le_of_ble_eq_true rfl) ?_
  intro p e s m args below meth c A ls H locs C h hl
  have hx := C.1
  have hb := C.2.1
  have C : MCx p s m args meth c A RX12 cX12_write 5 (some .long) D cs := C
  have hl : lv_has ls 5 [(0, .ref (ad 48)), (1, .int a0), (2, .int a1), (3, .long a2)] := hl
  unfold fX12_write at hf
  refine lv_aload_n hx hb dX12_write_0 rfl (lv_at hl 0 rfl) ?_
  refine lv_aload_n hx hb dX12_write_1 rfl (lv_at hl 0 rfl) ?_
  refine lv_iload_n hx hb dX12_write_2 rfl (lv_at hl 1 rfl) ?_
  replace hf := bndc_some hf
  obtain ⟨x1, g2, hc, hf⟩ := hf
  refine m_callVi [.int a0] C h cv_X12_369 (qX12_trayFault hc) rfl ⟨rfl, rfl⟩ ⟨Nat.le_of_ble_eq_true rfl, Nat.le_of_ble_eq_true rfl⟩ (m_recv C h) hl.1 rfl (Nat.le_of_ble_eq_true rfl) ⟨Nat.le_refl _, Nat.le_refl _⟩ dX12_write_3 (fun H locs h => ?_)
  clear hc
  replace hf := bnd_ex hf
  obtain ⟨g3, eg3, hf⟩ := hf
  refine mp_4 C h dX12_write_6 (fun H locs h => ?_)
  rw [← eg3] at h
  clear eg3
  refine lv_aload_n hx hb dX12_write_9 rfl (lv_at hl 0 rfl) ?_
  refine mg_4 C h dX12_write_10 ?_
  refine lv_if_le (tgt := 18) hx hb dX12_write_13 (by decide) (fun hq => ?_) (fun hq => ?_)
  · replace hf := if_t hq hf
    clear hq
    refine lv_iload_n hx hb dX12_write_18 rfl (lv_at hl 2 rfl) ?_
    refine lv_i2l hx hb dX12_write_19 rfl ?_
    refine lv_lconst (v := (0 : Int64)) hx hb dX12_write_20 rfl ?_
    refine lv_aload_n hx hb dX12_write_21 rfl (lv_at hl 0 rfl) ?_
    refine mg_46 C h dX12_write_22 ?_
    refine lv_iload_n hx hb dX12_write_25 rfl (lv_at hl 1 rfl) ?_
    replace hf := chk_some hf
    obtain ⟨hq, hf⟩ := hf
    refine ml_46 C h hq dX12_write_26 ?_
    clear hq
    refine lv_iconst (v := (1 : Int32)) hx hb dX12_write_27 (by decide) ?_
    refine lv_isub hx hb dX12_write_28 ?_
    refine lv_i2l hx hb dX12_write_29 rfl ?_
    replace hf := bndv_some hf
    obtain ⟨x4, hc, hf⟩ := hf
    refine m_callSi [.long a1.toInt64, .long (0 : Int64), .long (((g3.2.1 46 (ix a0)) - (1 : Int32)).toInt64)] C h cs_X12_147 (qX12_within hc) rfl ⟨rfl, rfl⟩ ⟨Nat.le_of_ble_eq_true rfl, Nat.le_of_ble_eq_true rfl⟩ hl.1 rfl (Nat.le_of_ble_eq_true rfl) ⟨Nat.le_refl _, Nat.le_refl _⟩ dX12_write_30 (fun H locs h => ?_)
    clear hc
    refine lv_if_eq (tgt := 46) hx hb dX12_write_33 (by decide) (fun hq => ?_) (fun hq => ?_)
    · replace hf := if_t hq hf
      clear hq
      refine lv_aload_n hx hb dX12_write_46 rfl (lv_at hl 0 rfl) ?_
      refine lv_iconst (v := (3 : Int32)) hx hb dX12_write_47 (by decide) ?_
      replace hf := bndc_some hf
      obtain ⟨x5, g6, hc, hf⟩ := hf
      refine m_callVi [.int (3 : Int32)] C h cv_X12_239 (qX12_fails hc) rfl ⟨rfl, rfl⟩ ⟨Nat.le_of_ble_eq_true rfl, Nat.le_of_ble_eq_true rfl⟩ (m_recv C h) hl.1 rfl (Nat.le_of_ble_eq_true rfl) ⟨Nat.le_refl _, Nat.le_refl _⟩ dX12_write_48 (fun H locs h => ?_)
      clear hc
      refine lv_i2l hx hb dX12_write_51 rfl ?_
      cases hf
      exact m_lret C h dX12_write_52
    · replace hf := if_f hq hf
      clear hq
      refine lv_aload_n hx hb dX12_write_36 rfl (lv_at hl 0 rfl) ?_
      refine lv_iload_n hx hb dX12_write_37 rfl (lv_at hl 1 rfl) ?_
      refine lv_iload_n hx hb dX12_write_38 rfl (lv_at hl 2 rfl) ?_
      refine lv_lload_n hx hb dX12_write_39 rfl (lv_at hl 3 rfl) ?_
      replace hf := bndc_some hf
      obtain ⟨x7, g8, hc, hf⟩ := hf
      refine m_callVl [.int a0, .int a1, .long a2] C h cv_X12_528 (qX12_cut hc) rfl ⟨rfl, rfl⟩ ⟨Nat.le_of_ble_eq_true rfl, Nat.le_of_ble_eq_true rfl⟩ (m_recv C h) hl.1 rfl (Nat.le_of_ble_eq_true rfl) ⟨Nat.le_refl _, Nat.le_refl _⟩ dX12_write_40 (fun H locs h => ?_)
      clear hc
      refine lv_goto (tgt := 52) hx hb dX12_write_43 (by decide) ?_
      cases hf
      exact m_lret C h dX12_write_52
  · replace hf := if_f hq hf
    clear hq
    refine lv_lconst (v := (0 : Int64)) hx hb dX12_write_16 rfl ?_
    cases hf
    exact m_lret C h dX12_write_17

set_option maxHeartbeats 4000000 in
set_option maxRecDepth 100000 in
theorem wX12_copy_59 (C : MCx p s m args meth c A RX12 cX12_copy 5 (some .int) D cs)  {r : Int32} {g' : MS}  : ∀ (n : Nat) (g : MS) (y1 : Int32) (y3 : Int32) (y4 : Int32), fX12_copy_59 n g y1 y3 y4 = some (r, g') → ∀ (H : Heap) (locs : List Loc) (ls : Array Slot), MH D (MW cs ad g) A s H locs → lv_has ls 5 [(0, .ref (ad 48)), (1, .int y1), (3, .int y3), (4, .int y4)] → W p l e (rM 8) s m args below meth c H locs 0 0 (MQ below (GPost D (some (.int r)) (MW cs ad g') A) args s 0 0 A) (F0 m 59 ls []) := by
  have hx := C.1
  have hb := C.2.1
  intro n
  induction n with
  | zero =>
    intro g y1 y3 y4 hf
    exact absurd hf (by simp [fX12_copy_59])
  | succ n ih =>
    intro g y1 y3 y4 hf H locs ls h hl
    rw [fX12_copy_59] at hf
    refine lv_iload hx hb dX12_copy_59 (lv_at hl 3 rfl) ?_
    refine lv_iload_n hx hb dX12_copy_61 rfl (lv_at hl 2 rfl) ?_
    refine lv_icmp_ge (tgt := 87) hx hb dX12_copy_62 (by decide) (fun hq => ?_) (fun hq => ?_)
    · replace hf := if_t hq hf
      clear hq
      refine lv_iload_n hx hb dX12_copy_87 rfl (lv_at hl 2 rfl) ?_
      cases hf
      exact m_iret C h dX12_copy_88
    · replace hf := if_f hq hf
      clear hq
      refine lv_aload_n hx hb dX12_copy_65 rfl (lv_at hl 0 rfl) ?_
      refine lv_iload_n hx hb dX12_copy_66 rfl (lv_at hl 1 rfl) ?_
      refine lv_iload hx hb dX12_copy_67 (lv_at hl 3 rfl) ?_
      refine lv_aload_n hx hb dX12_copy_69 rfl (lv_at hl 0 rfl) ?_
      refine mg_21 C h dX12_copy_70 ?_
      refine lv_iload hx hb dX12_copy_73 (lv_at hl 3 rfl) ?_
      replace hf := chk_some hf
      obtain ⟨hq, hf⟩ := hf
      refine ml_21 C h hq dX12_copy_75 ?_
      clear hq
      refine lv_i2l hx hb dX12_copy_76 rfl ?_
      replace hf := bndc_some hf
      obtain ⟨x1, g2, hc, hf⟩ := hf
      refine m_callVl [.int y1, .int y4, .long ((g.2.1 21 (ix y4)).toInt64)] C h cv_X12_528 (qX12_cut hc) rfl ⟨rfl, rfl⟩ ⟨Nat.le_of_ble_eq_true rfl, Nat.le_of_ble_eq_true rfl⟩ (m_recv C h) hl.1 rfl (Nat.le_of_ble_eq_true rfl) ⟨Nat.le_refl _, Nat.le_refl _⟩ dX12_copy_77 (fun H locs h => ?_)
      clear hc
      refine lv_pop2_2 hx hb dX12_copy_80 rfl ?_
      obtain ⟨x3, ex3⟩ : ∃ z : Int32, z = y4 + (1 : Int32) := ⟨_, rfl⟩
      replace hf := bnd_at ex3 hf
      refine lv_iinc (v := x3) (lv' := [(4, .int x3), (0, .ref (ad 48)), (1, .int y1), (3, .int y3)]) hx hb dX12_copy_81 hl (k := 3) rfl (by rw [ex3]; rfl) (by decide) rfl (fun ls hl => ?_)
      clear ex3
      refine lv_goto (tgt := 59) hx hb dX12_copy_84 (by decide) ?_
      exact ih g2 y1 y3 x3 hf H locs ls h (lv_sub hl [1, 2, 3, 0] rfl)

set_option maxHeartbeats 4000000 in
set_option maxRecDepth 100000 in
theorem wX12_copy_28 (C : MCx p s m args meth c A RX12 cX12_copy 5 (some .int) D cs)  {r : Int32} {g' : MS}  : ∀ (g : MS) (y1 : Int32) (y2 : Int32), fX12_copy_28 g y1 y2 = some (r, g') → ∀ (H : Heap) (locs : List Loc) (ls : Array Slot), MH D (MW cs ad g) A s H locs → lv_has ls 5 [(0, .ref (ad 48)), (1, .int y1), (2, .int y2)] → W p l e (rM 8) s m args below meth c H locs 0 0 (MQ below (GPost D (some (.int r)) (MW cs ad g') A) args s 0 0 A) (F0 m 28 ls []) := by
  have hx := C.1
  have hb := C.2.1
  intro g y1 y2 hf H locs ls h hl
  unfold fX12_copy_28 at hf
  refine lv_aload_n hx hb dX12_copy_28 rfl (lv_at hl 0 rfl) ?_
  refine mg_4 C h dX12_copy_29 ?_
  refine lv_if_le (tgt := 37) hx hb dX12_copy_32 (by decide) (fun hq => ?_) (fun hq => ?_)
  · replace hf := if_t hq hf
    clear hq
    refine lv_aload_n hx hb dX12_copy_37 rfl (lv_at hl 0 rfl) ?_
    refine lv_iload_n hx hb dX12_copy_38 rfl (lv_at hl 2 rfl) ?_
    replace hf := bndv_some hf
    obtain ⟨g4, hc, hf⟩ := hf
    refine m_callVv [.int y2] C h cv_X12_500 (qX12_aimsIn hc) rfl ⟨rfl, rfl⟩ ⟨Nat.le_of_ble_eq_true rfl, Nat.le_of_ble_eq_true rfl⟩ (m_recv C h) hl.1 rfl (Nat.le_of_ble_eq_true rfl) ⟨Nat.le_refl _, Nat.le_refl _⟩ dX12_copy_39 (fun H locs h => ?_)
    clear hc
    refine lv_aload_n hx hb dX12_copy_42 rfl (lv_at hl 0 rfl) ?_
    refine mg_46 C h dX12_copy_43 ?_
    refine lv_iload_n hx hb dX12_copy_46 rfl (lv_at hl 1 rfl) ?_
    replace hf := chk_some hf
    obtain ⟨hq, hf⟩ := hf
    refine ml_46 C h hq dX12_copy_47 ?_
    clear hq
    refine lv_aload_n hx hb dX12_copy_48 rfl (lv_at hl 0 rfl) ?_
    replace hf := bndc_some hf
    obtain ⟨x5, g6, hc, hf⟩ := hf
    refine m_callVi [] C h cv_X12_254 (qX12_size hc) rfl ⟨rfl, rfl⟩ ⟨Nat.le_of_ble_eq_true rfl, Nat.le_of_ble_eq_true rfl⟩ (m_recv C h) hl.1 rfl (Nat.le_of_ble_eq_true rfl) ⟨Nat.le_refl _, Nat.le_refl _⟩ dX12_copy_49 (fun H locs h => ?_)
    clear hc
    refine x_min tb_29_20 C hl.1 (Nat.le_of_ble_eq_true rfl) (Nat.le_of_ble_eq_true rfl) (Nat.le_refl _) (Nat.le_refl _) dX12_copy_52 ?_
    refine lv_topi (fun x7 ex7 => ?_)
    replace hf := bnd_at ex7 hf
    clear ex7
    refine lv_istore_n (lv' := [(3, .int x7), (0, .ref (ad 48)), (1, .int y1), (2, .int y2)]) hx hb dX12_copy_55 rfl hl (by decide) rfl (fun ls hl => ?_)
    refine lv_iconst (v := (0 : Int32)) hx hb dX12_copy_56 (by decide) ?_
    refine lv_istore (lv' := [(4, .int (0 : Int32)), (3, .int x7), (0, .ref (ad 48)), (1, .int y1), (2, .int y2)]) hx hb dX12_copy_57 hl (by decide) rfl (fun ls hl => ?_)
    exact wX12_copy_59 C fuel g6 y1 x7 (0 : Int32) hf H locs ls h (lv_sub hl [2, 3, 1, 0] rfl)
  · replace hf := if_f hq hf
    clear hq
    refine lv_iconst (v := (0 : Int32)) hx hb dX12_copy_35 (by decide) ?_
    cases hf
    exact m_iret C h dX12_copy_36

set_option maxHeartbeats 4000000 in
set_option maxRecDepth 100000 in
theorem qX12_copy {l : Launch} {D : va_G} {cs : Nat → ClassId} {ad : Nat → Nat} {r : Int32} {g' : MS} {g : MS}  {a0 : Int32} {a1 : Int32} (hf : fX12_copy g a0 a1 = some (r, g')) : GCon l D cs yX12_copy cX12_copy 5 (some .int) (rM 8) 0 0 [.ref (ad 48), .int a0, .int a1] (MW cs ad g) (some (.int r)) (MW cs ad g') := by
  refine GCon.of (by decide) (Nat.le_of_ble_eq_true rfl) ?_
  intro p e s m args below meth c A ls H locs C h hl
  have hx := C.1
  have hb := C.2.1
  have C : MCx p s m args meth c A RX12 cX12_copy 5 (some .int) D cs := C
  have hl : lv_has ls 5 [(0, .ref (ad 48)), (1, .int a0), (2, .int a1)] := hl
  unfold fX12_copy at hf
  refine lv_aload_n hx hb dX12_copy_0 rfl (lv_at hl 0 rfl) ?_
  refine lv_aload_n hx hb dX12_copy_1 rfl (lv_at hl 0 rfl) ?_
  refine lv_iload_n hx hb dX12_copy_2 rfl (lv_at hl 1 rfl) ?_
  replace hf := bndc_some hf
  obtain ⟨x8, g9, hc, hf⟩ := hf
  refine m_callVi [.int a0] C h cv_X12_369 (qX12_trayFault hc) rfl ⟨rfl, rfl⟩ ⟨Nat.le_of_ble_eq_true rfl, Nat.le_of_ble_eq_true rfl⟩ (m_recv C h) hl.1 rfl (Nat.le_of_ble_eq_true rfl) ⟨Nat.le_refl _, Nat.le_refl _⟩ dX12_copy_3 (fun H locs h => ?_)
  clear hc
  replace hf := bnd_ex hf
  obtain ⟨g10, eg10, hf⟩ := hf
  refine mp_4 C h dX12_copy_6 (fun H locs h => ?_)
  rw [← eg10] at h
  clear eg10
  refine lv_aload_n hx hb dX12_copy_9 rfl (lv_at hl 0 rfl) ?_
  refine mg_4 C h dX12_copy_10 ?_
  refine lv_if_ne (tgt := 28) hx hb dX12_copy_13 (by decide) (fun hq => ?_) (fun hq => ?_)
  · replace hf := if_tn hq hf
    clear hq
    exact wX12_copy_28 C g10 a0 a1 hf H locs ls h (lv_sub hl [0, 1, 2] rfl)
  · replace hf := if_t hq hf
    clear hq
    refine lv_iload_n hx hb dX12_copy_16 rfl (lv_at hl 2 rfl) ?_
    replace hf := bndv_some hf
    obtain ⟨x11, hc, hf⟩ := hf
    refine m_callSi [.int a1] C h cs_X12_497 (qX12_isFar hc) rfl ⟨rfl, rfl⟩ ⟨Nat.le_of_ble_eq_true rfl, Nat.le_of_ble_eq_true rfl⟩ hl.1 rfl (Nat.le_of_ble_eq_true rfl) ⟨Nat.le_refl _, Nat.le_refl _⟩ dX12_copy_17 (fun H locs h => ?_)
    clear hc
    refine lv_if_ne (tgt := 28) hx hb dX12_copy_20 (by decide) (fun hq => ?_) (fun hq => ?_)
    · replace hf := if_tn hq hf
      clear hq
      exact wX12_copy_28 C g10 a0 a1 hf H locs ls h (lv_sub hl [0, 1, 2] rfl)
    · replace hf := if_t hq hf
      clear hq
      refine lv_aload_n hx hb dX12_copy_23 rfl (lv_at hl 0 rfl) ?_
      refine lv_iconst (v := (3 : Int32)) hx hb dX12_copy_24 (by decide) ?_
      replace hf := bnd_ex hf
      obtain ⟨g12, eg12, hf⟩ := hf
      refine mp_4 C h dX12_copy_25 (fun H locs h => ?_)
      rw [← eg12] at h
      clear eg12
      exact wX12_copy_28 C g12 a0 a1 hf H locs ls h (lv_sub hl [0, 1, 2] rfl)

set_option maxHeartbeats 4000000 in
set_option maxRecDepth 100000 in
theorem wX12_image_38 (C : MCx p s m args meth c A RX12 cX12_image 3 none D cs)  {g' : MS}  : ∀ (n : Nat) (g : MS) (y1 : Int32) (y2 : Int32), fX12_image_38 n g y1 y2 = some g' → ∀ (H : Heap) (locs : List Loc) (ls : Array Slot), MH D (MW cs ad g) A s H locs → lv_has ls 3 [(0, .ref (ad 48)), (1, .int y1), (2, .int y2)] → W p l e (rM 1) s m args below meth c H locs 0 0 (MQ below (GPost D none (MW cs ad g') A) args s 0 0 A) (F0 m 38 ls []) := by
  have hx := C.1
  have hb := C.2.1
  intro n
  induction n with
  | zero =>
    intro g y1 y2 hf
    exact absurd hf (by simp [fX12_image_38])
  | succ n ih =>
    intro g y1 y2 hf H locs ls h hl
    rw [fX12_image_38] at hf
    refine lv_iload_n hx hb dX12_image_38 rfl (lv_at hl 2 rfl) ?_
    refine lv_sipush (v := (2850 : Int32)) hx hb dX12_image_39 (by decide) ?_
    refine lv_icmp_ge (tgt := 69) hx hb dX12_image_42 (by decide) (fun hq => ?_) (fun hq => ?_)
    · replace hf := if_t hq hf
      clear hq
      cases hf
      exact m_vret C h dX12_image_69
    · replace hf := if_f hq hf
      clear hq
      refine lv_aload_n hx hb dX12_image_45 rfl (lv_at hl 0 rfl) ?_
      refine mg_2 C h dX12_image_46 ?_
      refine lv_sipush (v := (2850 : Int32)) hx hb dX12_image_49 (by decide) ?_
      refine lv_iload_n hx hb dX12_image_52 rfl (lv_at hl 1 rfl) ?_
      refine lv_imul hx hb dX12_image_53 ?_
      refine lv_iload_n hx hb dX12_image_54 rfl (lv_at hl 2 rfl) ?_
      refine lv_iadd hx hb dX12_image_55 ?_
      refine lv_aload_n hx hb dX12_image_56 rfl (lv_at hl 0 rfl) ?_
      refine mg_0 C h dX12_image_57 ?_
      refine lv_iload_n hx hb dX12_image_60 rfl (lv_at hl 2 rfl) ?_
      replace hf := chk_some hf
      obtain ⟨hq, hf⟩ := hf
      refine ml_0 C h hq dX12_image_61 ?_
      clear hq
      replace hf := chk_some hf
      obtain ⟨hq, hf⟩ := hf
      replace hf := bnd_ex hf
      obtain ⟨g1, eg1, hf⟩ := hf
      refine ms_2 C h hq dX12_image_62 (fun H locs h => ?_)
      rw [← eg1] at h
      clear hq eg1
      obtain ⟨x2, ex2⟩ : ∃ z : Int32, z = y2 + (1 : Int32) := ⟨_, rfl⟩
      replace hf := bnd_at ex2 hf
      refine lv_iinc (v := x2) (lv' := [(2, .int x2), (0, .ref (ad 48)), (1, .int y1)]) hx hb dX12_image_63 hl (k := 2) rfl (by rw [ex2]; rfl) (by decide) rfl (fun ls hl => ?_)
      clear ex2
      refine lv_goto (tgt := 38) hx hb dX12_image_66 (by decide) ?_
      exact ih g1 y1 x2 hf H locs ls h (lv_sub hl [1, 2, 0] rfl)

set_option maxHeartbeats 4000000 in
set_option maxRecDepth 100000 in
theorem wX12_image_18 (C : MCx p s m args meth c A RX12 cX12_image 3 none D cs)  {g' : MS}  : ∀ (g : MS) (y1 : Int32) (t1 : Int32), fX12_image_18 g y1 t1 = some g' → ∀ (H : Heap) (locs : List Loc) (ls : Array Slot), MH D (MW cs ad g) A s H locs → lv_has ls 3 [(0, .ref (ad 48)), (1, .int y1)] → W p l e (rM 1) s m args below meth c H locs 0 0 (MQ below (GPost D none (MW cs ad g') A) args s 0 0 A) (F0 m 18 ls [.int t1, .ref (ad 48)]) := by
  have hx := C.1
  have hb := C.2.1
  intro g y1 t1 hf H locs ls h hl
  unfold fX12_image_18 at hf
  replace hf := bnd_ex hf
  obtain ⟨g3, eg3, hf⟩ := hf
  refine mp_4 C h dX12_image_18 (fun H locs h => ?_)
  rw [← eg3] at h
  clear eg3
  refine lv_aload_n hx hb dX12_image_21 rfl (lv_at hl 0 rfl) ?_
  refine mg_4 C h dX12_image_22 ?_
  refine lv_if_le (tgt := 29) hx hb dX12_image_25 (by decide) (fun hq => ?_) (fun hq => ?_)
  · replace hf := if_t hq hf
    clear hq
    refine lv_aload_n hx hb dX12_image_29 rfl (lv_at hl 0 rfl) ?_
    refine mg_3 C h dX12_image_30 ?_
    refine lv_iload_n hx hb dX12_image_33 rfl (lv_at hl 1 rfl) ?_
    refine lv_iconst (v := (1 : Int32)) hx hb dX12_image_34 (by decide) ?_
    replace hf := chk_some hf
    obtain ⟨hq, hf⟩ := hf
    replace hf := bnd_ex hf
    obtain ⟨g4, eg4, hf⟩ := hf
    refine ms_3 C h hq rfl dX12_image_35 (fun H locs h => ?_)
    rw [← eg4] at h
    clear hq eg4
    refine lv_iconst (v := (0 : Int32)) hx hb dX12_image_36 (by decide) ?_
    refine lv_istore_n (lv' := [(2, .int (0 : Int32)), (0, .ref (ad 48)), (1, .int y1)]) hx hb dX12_image_37 rfl hl (by decide) rfl (fun ls hl => ?_)
    exact wX12_image_38 C fuel g4 y1 (0 : Int32) hf H locs ls h (lv_sub hl [1, 2, 0] rfl)
  · replace hf := if_f hq hf
    clear hq
    cases hf
    exact m_vret C h dX12_image_28

set_option maxHeartbeats 4000000 in
set_option maxRecDepth 100000 in
theorem qX12_image {l : Launch} {D : va_G} {cs : Nat → ClassId} {ad : Nat → Nat} {g' : MS} {g : MS}  {a0 : Int32} (hf : fX12_image g a0 = some g') : GCon l D cs yX12_image cX12_image 3 none (rM 1) 0 0 [.ref (ad 48), .int a0] (MW cs ad g) none (MW cs ad g') := by
  refine GCon.of (by decide) (Nat.le_of_ble_eq_true rfl) ?_
  intro p e s m args below meth c A ls H locs C h hl
  have hx := C.1
  have hb := C.2.1
  have C : MCx p s m args meth c A RX12 cX12_image 3 none D cs := C
  have hl : lv_has ls 3 [(0, .ref (ad 48)), (1, .int a0)] := hl
  unfold fX12_image at hf
  refine lv_aload_n hx hb dX12_image_0 rfl (lv_at hl 0 rfl) ?_
  refine lv_iload_n hx hb dX12_image_1 rfl (lv_at hl 1 rfl) ?_
  refine lv_i2l hx hb dX12_image_2 rfl ?_
  refine lv_lconst (v := (0 : Int64)) hx hb dX12_image_3 rfl ?_
  refine lv_ldc2 hx hb C.2.2.2.1 (C.2.2.2.2.1 _ tb_70_6) dX12_image_4 ?_
  replace hf := bndv_some hf
  obtain ⟨x5, hc, hf⟩ := hf
  refine m_callSi [.long a0.toInt64, .long (0 : Int64), .long (2 : Int64)] C h cs_X12_147 (qX12_within hc) rfl ⟨rfl, rfl⟩ ⟨Nat.le_of_ble_eq_true rfl, Nat.le_of_ble_eq_true rfl⟩ hl.1 rfl (Nat.le_of_ble_eq_true rfl) ⟨Nat.le_refl _, Nat.le_refl _⟩ dX12_image_7 (fun H locs h => ?_)
  clear hc
  refine lv_if_eq (tgt := 17) hx hb dX12_image_10 (by decide) (fun hq => ?_) (fun hq => ?_)
  · replace hf := if_t hq hf
    clear hq
    refine lv_iconst (v := (1 : Int32)) hx hb dX12_image_17 (by decide) ?_
    exact wX12_image_18 C g a0 (1 : Int32) hf H locs ls h (lv_sub hl [0, 1] rfl)
  · replace hf := if_f hq hf
    clear hq
    refine lv_iconst (v := (0 : Int32)) hx hb dX12_image_13 (by decide) ?_
    refine lv_goto (tgt := 18) hx hb dX12_image_14 (by decide) ?_
    exact wX12_image_18 C g a0 (0 : Int32) hf H locs ls h (lv_sub hl [0, 1] rfl)
end
