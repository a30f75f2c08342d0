section
variable {p : Program} {l : Launch} {e : Env} {s : State} {m : MethodId} {args : Array Value} {below : List Frame} {meth : Method} {c : Code} {D : va_G} {cs : Nat → ClassId} {ad adK adV : Nat → Nat} {A : Nat → Prop}
set_option maxHeartbeats 4000000 in
set_option maxRecDepth 100000 in
theorem wX12_goesChance_38 (C : MCx p s m args meth c A RX12 cX12_goesChance 3 none D cs)  {dR dd : Nat} (hdR : 4 + 1 * dd + 1 ≤ dR) {r_goesChance : MS → Int32 → Option (MS)} (h_goesChance : ∀ {g1 g2 : MS} {b0 : Int32}, r_goesChance g1 b0 = some g2 → GCon l D cs yX12_goesChance cX12_goesChance 3 none (rM (4 + 1 * dd)) 0 0 [.ref (ad 48), .int b0] (MW cs ad g1) none (MW cs ad g2)) {g' : MS}  : ∀ (n : Nat) (g : MS) (y1 : Int32) (y2 : Int32), fX12_goesChance_38 r_goesChance n g y1 y2 = some g' → ∀ (H : Heap) (locs : List Loc) (ls : Array Slot), MH D (MW cs ad g) A s H locs → lv_has ls 3 [(0, .ref (ad 48)), (1, .int y1), (2, .int y2)] → W p l e (rM dR) s m args below meth c H locs 0 0 (MQ below (GPost D none (MW cs ad g') A) args s 0 0 A) (F0 m 38 ls []) := by
  have hx := C.1
  have hb := C.2.1
  intro n
  induction n with
  | zero =>
    intro g y1 y2 hf
    exact absurd hf (by simp [fX12_goesChance_38])
  | succ n ih =>
    intro g y1 y2 hf H locs ls h hl
    rw [fX12_goesChance_38] at hf
    refine lv_iload_n hx hb dX12_goesChance_38 rfl (lv_at hl 2 rfl) ?_
    refine lv_aload_n hx hb dX12_goesChance_39 rfl (lv_at hl 0 rfl) ?_
    replace hf := bndc_some hf
    obtain ⟨x1, g2, hc, hf⟩ := hf
    refine m_callVi [] C h cv_X12_254 (qX12_size hc) rfl ⟨rfl, rfl⟩ ⟨by simp only [rM]; omega, by simp only [rM]; omega⟩ (m_recv C h) hl.1 rfl (Nat.le_of_ble_eq_true rfl) ⟨Nat.le_refl _, Nat.le_refl _⟩ dX12_goesChance_40 (fun H locs h => ?_)
    clear hc
    refine lv_icmp_ge (tgt := 90) hx hb dX12_goesChance_43 (by decide) (fun hq => ?_) (fun hq => ?_)
    · replace hf := if_t hq hf
      clear hq
      have e1 := Option.some.inj hf
      subst e1
      exact m_vret C h dX12_goesChance_90
    · replace hf := if_f hq hf
      clear hq
      refine lv_aload_n hx hb dX12_goesChance_46 rfl (lv_at hl 0 rfl) ?_
      refine lv_iload_n hx hb dX12_goesChance_47 rfl (lv_at hl 2 rfl) ?_
      replace hf := bndc_some hf
      obtain ⟨x3, g4, hc, hf⟩ := hf
      refine m_callVi [.int y2] C h cv_X12_287 (qX12_isStuck hc) rfl ⟨rfl, rfl⟩ ⟨by simp only [rM]; omega, by simp only [rM]; omega⟩ (m_recv C h) hl.1 rfl (Nat.le_of_ble_eq_true rfl) ⟨Nat.le_refl _, Nat.le_refl _⟩ dX12_goesChance_48 (fun H locs h => ?_)
      clear hc
      refine lv_if_eq (tgt := 57) hx hb dX12_goesChance_51 (by decide) (fun hq => ?_) (fun hq => ?_)
      · replace hf := if_t hq hf
        clear hq
        refine lv_aload_n hx hb dX12_goesChance_57 rfl (lv_at hl 0 rfl) ?_
        refine mg_26 C h dX12_goesChance_58 ?_
        refine lv_iload_n hx hb dX12_goesChance_61 rfl (lv_at hl 2 rfl) ?_
        refine lv_dup2_11 hx hb dX12_goesChance_62 rfl rfl ?_
        replace hf := chk_some hf
        obtain ⟨hq, hf⟩ := hf
        refine ml_26 C h hq dX12_goesChance_63 ?_
        clear hq
        refine lv_iconst (v := (1 : Int32)) hx hb dX12_goesChance_64 (by decide) ?_
        refine lv_iadd hx hb dX12_goesChance_65 ?_
        replace hf := chk_some hf
        obtain ⟨hq, hf⟩ := hf
        replace hf := bnd_ex hf
        obtain ⟨g5, eg5, hf⟩ := hf
        refine ms_26 C h hq dX12_goesChance_66 (fun H locs h => ?_)
        rw [← eg5] at h
        clear hq eg5
        refine lv_aload_n hx hb dX12_goesChance_67 rfl (lv_at hl 0 rfl) ?_
        refine lv_iload_n hx hb dX12_goesChance_68 rfl (lv_at hl 1 rfl) ?_
        refine lv_iconst (v := (1 : Int32)) hx hb dX12_goesChance_69 (by decide) ?_
        refine lv_isub hx hb dX12_goesChance_70 ?_
        replace hf := bndv_some hf
        obtain ⟨g6, hc, hf⟩ := hf
        refine m_callVv [.int (y1 - (1 : Int32))] C h cv_X12_517 (h_goesChance hc) rfl ⟨rfl, rfl⟩ ⟨by simp only [rM]; omega, by simp only [rM]; omega⟩ (m_recv C h) hl.1 rfl (Nat.le_of_ble_eq_true rfl) ⟨Nat.le_refl _, Nat.le_refl _⟩ dX12_goesChance_71 (fun H locs h => ?_)
        clear hc
        refine lv_aload_n hx hb dX12_goesChance_74 rfl (lv_at hl 0 rfl) ?_
        refine mg_26 C h dX12_goesChance_75 ?_
        refine lv_iload_n hx hb dX12_goesChance_78 rfl (lv_at hl 2 rfl) ?_
        refine lv_dup2_11 hx hb dX12_goesChance_79 rfl rfl ?_
        replace hf := chk_some hf
        obtain ⟨hq, hf⟩ := hf
        refine ml_26 C h hq dX12_goesChance_80 ?_
        clear hq
        refine lv_iconst (v := (1 : Int32)) hx hb dX12_goesChance_81 (by decide) ?_
        refine lv_isub hx hb dX12_goesChance_82 ?_
        replace hf := chk_some hf
        obtain ⟨hq, hf⟩ := hf
        replace hf := bnd_ex hf
        obtain ⟨g7, eg7, hf⟩ := hf
        refine ms_26 C h hq dX12_goesChance_83 (fun H locs h => ?_)
        rw [← eg7] at h
        clear hq eg7
        obtain ⟨x8, ex8⟩ : ∃ z : Int32, z = y2 + (1 : Int32) := ⟨_, rfl⟩
        replace hf := bnd_at ex8 hf
        refine lv_iinc (v := x8) (lv' := [(2, .int x8), (0, .ref (ad 48)), (1, .int y1)]) hx hb dX12_goesChance_84 hl (k := 2) rfl (by rw [ex8]; rfl) (by decide) rfl (fun ls hl => ?_)
        clear ex8
        refine lv_goto (tgt := 38) hx hb dX12_goesChance_87 (by decide) ?_
        exact ih g7 y1 x8 hf H locs ls h (lv_sub hl [1, 2, 0] rfl)
      · replace hf := if_f hq hf
        clear hq
        refine lv_goto (tgt := 84) hx hb dX12_goesChance_54 (by decide) ?_
        obtain ⟨x9, ex9⟩ : ∃ z : Int32, z = y2 + (1 : Int32) := ⟨_, rfl⟩
        replace hf := bnd_at ex9 hf
        refine lv_iinc (v := x9) (lv' := [(2, .int x9), (0, .ref (ad 48)), (1, .int y1)]) hx hb dX12_goesChance_84 hl (k := 2) rfl (by rw [ex9]; rfl) (by decide) rfl (fun ls hl => ?_)
        clear ex9
        refine lv_goto (tgt := 38) hx hb dX12_goesChance_87 (by decide) ?_
        exact ih g4 y1 x9 hf H locs ls h (lv_sub hl [1, 2, 0] rfl)

set_option maxHeartbeats 4000000 in
set_option maxRecDepth 100000 in
theorem wX12_goesChance_11 (C : MCx p s m args meth c A RX12 cX12_goesChance 3 none D cs)  {dR dd : Nat} (hdR : 4 + 1 * dd + 1 ≤ dR) {r_goesChance : MS → Int32 → Option (MS)} (h_goesChance : ∀ {g1 g2 : MS} {b0 : Int32}, r_goesChance g1 b0 = some g2 → GCon l D cs yX12_goesChance cX12_goesChance 3 none (rM (4 + 1 * dd)) 0 0 [.ref (ad 48), .int b0] (MW cs ad g1) none (MW cs ad g2)) {g' : MS}  : ∀ (g : MS), fX12_goesChance_11 r_goesChance g = some g' → ∀ (H : Heap) (locs : List Loc) (ls : Array Slot), MH D (MW cs ad g) A s H locs → lv_has ls 3 [(0, .ref (ad 48))] → W p l e (rM dR) s m args below meth c H locs 0 0 (MQ below (GPost D none (MW cs ad g') A) args s 0 0 A) (F0 m 11 ls []) := by
  have hx := C.1
  have hb := C.2.1
  intro g hf H locs ls h hl
  unfold fX12_goesChance_11 at hf
  refine lv_aload_n hx hb dX12_goesChance_11 rfl (lv_at hl 0 rfl) ?_
  replace hf := bndv_some hf
  obtain ⟨g10, hc, hf⟩ := hf
  refine m_callVv [] C h cv_X12_426 (qX12_aimsBehind hc) rfl ⟨rfl, rfl⟩ ⟨by simp only [rM]; omega, by simp only [rM]; omega⟩ (m_recv C h) hl.1 rfl (Nat.le_of_ble_eq_true rfl) ⟨Nat.le_refl _, Nat.le_refl _⟩ dX12_goesChance_12 (fun H locs h => ?_)
  clear hc
  refine lv_aload_n hx hb dX12_goesChance_15 rfl (lv_at hl 0 rfl) ?_
  replace hf := bndc_some hf
  obtain ⟨x11, g12, hc, hf⟩ := hf
  refine m_callVi [] C h cv_X12_313 (qX12_chairBy hc) rfl ⟨rfl, rfl⟩ ⟨by simp only [rM]; omega, by simp only [rM]; omega⟩ (m_recv C h) hl.1 rfl (Nat.le_of_ble_eq_true rfl) ⟨Nat.le_refl _, Nat.le_refl _⟩ dX12_goesChance_16 (fun H locs h => ?_)
  clear hc
  refine lv_istore_n (lv' := [(2, .int x11), (0, .ref (ad 48))]) hx hb dX12_goesChance_19 rfl hl (by decide) rfl (fun ls hl => ?_)
  refine lv_iload_n hx hb dX12_goesChance_20 rfl (lv_at hl 0 rfl) ?_
  refine lv_iconst (v := (-1 : Int32)) hx hb dX12_goesChance_21 (by decide) ?_
  refine lv_icmp_eq (tgt := 35) hx hb dX12_goesChance_22 (by decide) (fun hq => ?_) (fun hq => ?_)
  · replace hf := if_t hq hf
    clear hq
    have e1 := Option.some.inj hf
    subst e1
    exact m_vret C h dX12_goesChance_35
  · replace hf := if_f hq hf
    clear hq
    refine lv_aload_n hx hb dX12_goesChance_25 rfl (lv_at hl 1 rfl) ?_
    refine mg_30 C h dX12_goesChance_26 ?_
    refine lv_iload_n hx hb dX12_goesChance_29 rfl (lv_at hl 0 rfl) ?_
    refine lv_dup2_11 hx hb dX12_goesChance_30 rfl rfl ?_
    replace hf := chk_some hf
    obtain ⟨hq, hf⟩ := hf
    refine ml_30 C h hq dX12_goesChance_31 ?_
    clear hq
    refine lv_iconst (v := (1 : Int32)) hx hb dX12_goesChance_32 (by decide) ?_
    refine lv_iadd hx hb dX12_goesChance_33 ?_
    replace hf := chk_some hf
    obtain ⟨hq, hf⟩ := hf
    replace hf := bnd_ex hf
    obtain ⟨g13, eg13, hf⟩ := hf
    refine ms_30 C h hq dX12_goesChance_34 (fun H locs h => ?_)
    rw [← eg13] at h
    clear hq eg13
    have e1 := Option.some.inj hf
    subst e1
    exact m_vret C h dX12_goesChance_35

set_option maxHeartbeats 4000000 in
set_option maxRecDepth 100000 in
theorem qX12_goesChanceB {l : Launch} {D : va_G} {cs : Nat → ClassId} {ad : Nat → Nat} {dR dd : Nat} (hdR : 4 + 1 * dd + 1 ≤ dR) {r_goesChance : MS → Int32 → Option (MS)} (h_goesChance : ∀ {g1 g2 : MS} {b0 : Int32}, r_goesChance g1 b0 = some g2 → GCon l D cs yX12_goesChance cX12_goesChance 3 none (rM (4 + 1 * dd)) 0 0 [.ref (ad 48), .int b0] (MW cs ad g1) none (MW cs ad g2)) {g' : MS} {g : MS}  {a0 : Int32} (hf : fX12_goesChanceB r_goesChance g a0 = some g') : GCon l D cs yX12_goesChance cX12_goesChance 3 none (rM dR) 0 0 [.ref (ad 48), .int a0] (MW cs ad g) none (MW cs ad g') := by
  refine GCon.of (by decide) (Nat.le_of_ble_eq_true rfl) ?_
  intro p e s m args below meth c A ls H locs C h hl
  have hx := C.1
  have hb := C.2.1
  have C : MCx p s m args meth c A RX12 cX12_goesChance 3 none D cs := C
  have hl : lv_has ls 3 [(0, .ref (ad 48)), (1, .int a0)] := hl
  unfold fX12_goesChanceB at hf
  refine lv_iload_n hx hb dX12_goesChance_0 rfl (lv_at hl 1 rfl) ?_
  refine lv_if_eq (tgt := 11) hx hb dX12_goesChance_1 (by decide) (fun hq => ?_) (fun hq => ?_)
  · replace hf := if_t hq hf
    clear hq
    exact wX12_goesChance_11 C hdR h_goesChance g hf H locs ls h (lv_sub hl [0] rfl)
  · replace hf := if_f hq hf
    clear hq
    refine lv_aload_n hx hb dX12_goesChance_4 rfl (lv_at hl 0 rfl) ?_
    replace hf := bndc_some hf
    obtain ⟨x14, g15, hc, hf⟩ := hf
    refine m_callVi [] C h cv_X12_514 (qX12_loose hc) rfl ⟨rfl, rfl⟩ ⟨by simp only [rM]; omega, by simp only [rM]; omega⟩ (m_recv C h) hl.1 rfl (Nat.le_of_ble_eq_true rfl) ⟨Nat.le_refl _, Nat.le_refl _⟩ dX12_goesChance_5 (fun H locs h => ?_)
    clear hc
    refine lv_if_ne (tgt := 36) hx hb dX12_goesChance_8 (by decide) (fun hq => ?_) (fun hq => ?_)
    · replace hf := if_tn hq hf
      clear hq
      refine lv_iconst (v := (0 : Int32)) hx hb dX12_goesChance_36 (by decide) ?_
      refine lv_istore_n (lv' := [(2, .int (0 : Int32)), (0, .ref (ad 48)), (1, .int a0)]) hx hb dX12_goesChance_37 rfl hl (by decide) rfl (fun ls hl => ?_)
      exact wX12_goesChance_38 C hdR h_goesChance fuel g15 a0 (0 : Int32) hf H locs ls h (lv_sub hl [1, 2, 0] rfl)
    · replace hf := if_t hq hf
      clear hq
      exact wX12_goesChance_11 C hdR h_goesChance g15 hf H locs ls h (lv_sub hl [0] rfl)

theorem qX12_goesChanceD {l : Launch} {D : va_G} {cs : Nat → ClassId} {ad : Nat → Nat} : ∀ (n : Nat) {g g' : MS} {a0 : Int32}, fX12_goesChanceD n g a0 = some g' → GCon l D cs yX12_goesChance cX12_goesChance 3 none (rM (4 + 1 * n)) 0 0 [.ref (ad 48), .int a0] (MW cs ad g) none (MW cs ad g') := by
  intro n
  induction n with
  | zero =>
    intro g g' a0 hf
    exact absurd hf (by simp [fX12_goesChanceD])
  | succ n ih =>
    intro g g' a0 hf
    rw [fX12_goesChanceD] at hf
    exact qX12_goesChanceB (dR := 4 + 1 * (n + 1)) (dd := n) (by omega) ih hf

theorem qX12_goesChance {l : Launch} {D : va_G} {cs : Nat → ClassId} {ad : Nat → Nat} {g g' : MS} {a0 : Int32} (hf : fX12_goesChance g a0 = some g') : GCon l D cs yX12_goesChance cX12_goesChance 3 none (rM 16) 0 0 [.ref (ad 48), .int a0] (MW cs ad g) none (MW cs ad g') := qX12_goesChanceD 12 hf

set_option maxHeartbeats 4000000 in
set_option maxRecDepth 100000 in
theorem wX12_laysChance_2 (C : MCx p s m args meth c A RX12 cX12_laysChance 3 none D cs)  {g' : MS}  : ∀ (n : Nat) (g : MS) (y1 : Int32) (y2 : Int32), fX12_laysChance_2 n g y1 y2 = some g' → ∀ (H : Heap) (locs : List Loc) (ls : Array Slot), MH D (MW cs ad g) A s H locs → lv_has ls 3 [(0, .ref (ad 48)), (1, .int y1), (2, .int y2)] → W p l e (rM 17) s m args below meth c H locs 0 0 (MQ below (GPost D none (MW cs ad g') A) args s 0 0 A) (F0 m 2 ls []) := by
  have hx := C.1
  have hb := C.2.1
  intro n
  induction n with
  | zero =>
    intro g y1 y2 hf
    exact absurd hf (by simp [fX12_laysChance_2])
  | succ n ih =>
    intro g y1 y2 hf H locs ls h hl
    rw [fX12_laysChance_2] at hf
    refine lv_iload_n hx hb dX12_laysChance_2 rfl (lv_at hl 2 rfl) ?_
    refine lv_bipush (v := (6 : Int32)) hx hb dX12_laysChance_3 (by decide) ?_
    refine lv_icmp_ge (tgt := 28) hx hb dX12_laysChance_5 (by decide) (fun hq => ?_) (fun hq => ?_)
    · replace hf := if_t hq hf
      clear hq
      refine lv_aload_n hx hb dX12_laysChance_28 rfl (lv_at hl 0 rfl) ?_
      replace hf := bndv_some hf
      obtain ⟨g1, hc, hf⟩ := hf
      refine m_callVv [] C h cv_X12_423 (qX12_laysAlong hc) rfl ⟨rfl, rfl⟩ ⟨Nat.le_of_ble_eq_true rfl, Nat.le_of_ble_eq_true rfl⟩ (m_recv C h) hl.1 rfl (Nat.le_of_ble_eq_true rfl) ⟨Nat.le_refl _, Nat.le_refl _⟩ dX12_laysChance_29 (fun H locs h => ?_)
      clear hc
      refine lv_aload_n hx hb dX12_laysChance_32 rfl (lv_at hl 0 rfl) ?_
      refine lv_iload_n hx hb dX12_laysChance_33 rfl (lv_at hl 1 rfl) ?_
      replace hf := bndv_some hf
      obtain ⟨g2, hc, hf⟩ := hf
      refine m_callVv [.int y1] C h cv_X12_517 (qX12_goesChance hc) rfl ⟨rfl, rfl⟩ ⟨Nat.le_of_ble_eq_true rfl, Nat.le_of_ble_eq_true rfl⟩ (m_recv C h) hl.1 rfl (Nat.le_of_ble_eq_true rfl) ⟨Nat.le_refl _, Nat.le_refl _⟩ dX12_laysChance_34 (fun H locs h => ?_)
      clear hc
      have e1 := Option.some.inj hf
      subst e1
      exact m_vret C h dX12_laysChance_37
    · replace hf := if_f hq hf
      clear hq
      refine lv_aload_n hx hb dX12_laysChance_8 rfl (lv_at hl 0 rfl) ?_
      refine mg_30 C h dX12_laysChance_9 ?_
      refine lv_iload_n hx hb dX12_laysChance_12 rfl (lv_at hl 2 rfl) ?_
      refine lv_iconst (v := (0 : Int32)) hx hb dX12_laysChance_13 (by decide) ?_
      replace hf := chk_some hf
      obtain ⟨hq, hf⟩ := hf
      replace hf := bnd_ex hf
      obtain ⟨g3, eg3, hf⟩ := hf
      refine ms_30 C h hq dX12_laysChance_14 (fun H locs h => ?_)
      rw [← eg3] at h
      clear hq eg3
      refine lv_aload_n hx hb dX12_laysChance_15 rfl (lv_at hl 0 rfl) ?_
      refine mg_26 C h dX12_laysChance_16 ?_
      refine lv_iload_n hx hb dX12_laysChance_19 rfl (lv_at hl 2 rfl) ?_
      refine lv_iconst (v := (0 : Int32)) hx hb dX12_laysChance_20 (by decide) ?_
      replace hf := chk_some hf
      obtain ⟨hq, hf⟩ := hf
      replace hf := bnd_ex hf
      obtain ⟨g4, eg4, hf⟩ := hf
      refine ms_26 C h hq dX12_laysChance_21 (fun H locs h => ?_)
      rw [← eg4] at h
      clear hq eg4
      obtain ⟨x5, ex5⟩ : ∃ z : Int32, z = y2 + (1 : Int32) := ⟨_, rfl⟩
      replace hf := bnd_at ex5 hf
      refine lv_iinc (v := x5) (lv' := [(2, .int x5), (0, .ref (ad 48)), (1, .int y1)]) hx hb dX12_laysChance_22 hl (k := 2) rfl (by rw [ex5]; rfl) (by decide) rfl (fun ls hl => ?_)
      clear ex5
      refine lv_goto (tgt := 2) hx hb dX12_laysChance_25 (by decide) ?_
      exact ih g4 y1 x5 hf H locs ls h (lv_sub hl [1, 2, 0] rfl)

set_option maxHeartbeats 4000000 in
set_option maxRecDepth 100000 in
theorem qX12_laysChance {l : Launch} {D : va_G} {cs : Nat → ClassId} {ad : Nat → Nat} {g' : MS} {g : MS}  {a0 : Int32} (hf : fX12_laysChance g a0 = some g') : GCon l D cs yX12_laysChance cX12_laysChance 3 none (rM 17) 0 0 [.ref (ad 48), .int a0] (MW cs ad g) none (MW cs ad g') := by
  refine GCon.of (by decide) (Nat.le_of_ble_eq_true rfl) ?_
  intro p e s m args below meth c A ls H locs C h hl
  have hx := C.1
  have hb := C.2.1
  have C : MCx p s m args meth c A RX12 cX12_laysChance 3 none D cs := C
  have hl : lv_has ls 3 [(0, .ref (ad 48)), (1, .int a0)] := hl
  unfold fX12_laysChance at hf
  refine lv_iconst (v := (0 : Int32)) hx hb dX12_laysChance_0 (by decide) ?_
  refine lv_istore_n (lv' := [(2, .int (0 : Int32)), (0, .ref (ad 48)), (1, .int a0)]) hx hb dX12_laysChance_1 rfl hl (by decide) rfl (fun ls hl => ?_)
  exact wX12_laysChance_2 C fuel g a0 (0 : Int32) hf H locs ls h (lv_sub hl [1, 2, 0] rfl)

set_option maxHeartbeats 4000000 in
set_option maxRecDepth 100000 in
theorem wX12_common_4 (C : MCx p s m args meth c A RX12 cX12_common 5 (some .int) D cs)  {r : Int32}  : ∀ (n : Nat) (y2 : Int32) (y3 : Int32), fX12_common_4 n y2 y3 = some r → ∀ (H : Heap) (locs : List Loc) (ls : Array Slot), MH D [] A s H locs → lv_has ls 5 [(2, .int y2), (3, .int y3)] → W p l e (rM 0) s m args below meth c H locs 0 0 (MQ below (GPost D (some (.int r)) [] A) args s 0 0 A) (F0 m 4 ls []) := by
  have hx := C.1
  have hb := C.2.1
  intro n
  induction n with
  | zero =>
    intro y2 y3 hf
    exact absurd hf (by simp [fX12_common_4])
  | succ n ih =>
    intro y2 y3 hf H locs ls h hl
    rw [fX12_common_4] at hf
    refine lv_iload_n hx hb dX12_common_4 rfl (lv_at hl 1 rfl) ?_
    refine lv_if_eq (tgt := 21) hx hb dX12_common_5 (by decide) (fun hq => ?_) (fun hq => ?_)
    · replace hf := if_t hq hf
      clear hq
      refine lv_iload_n hx hb dX12_common_21 rfl (lv_at hl 0 rfl) ?_
      have e1 := Option.some.inj hf
      subst e1
      exact m_iret C h dX12_common_22
    · replace hf := if_f hq hf
      clear hq
      refine lv_iload_n hx hb dX12_common_8 rfl (lv_at hl 0 rfl) ?_
      refine lv_iload_n hx hb dX12_common_9 rfl (lv_at hl 1 rfl) ?_
      replace hf := chk_some hf
      obtain ⟨hq, hf⟩ := hf
      refine x_irem hx hb dX12_common_10 (nz_ne hq) ?_
      clear hq
      refine lv_topi (fun x1 ex1 => ?_)
      replace hf := bnd_at ex1 hf
      clear ex1
      refine lv_istore (lv' := [(4, .int x1), (2, .int y2), (3, .int y3)]) hx hb dX12_common_11 hl (by decide) rfl (fun ls hl => ?_)
      refine lv_iload_n hx hb dX12_common_13 rfl (lv_at hl 2 rfl) ?_
      refine lv_istore_n (lv' := [(2, .int y3), (4, .int x1), (3, .int y3)]) hx hb dX12_common_14 rfl hl (by decide) rfl (fun ls hl => ?_)
      refine lv_iload hx hb dX12_common_15 (lv_at hl 1 rfl) ?_
      refine lv_istore_n (lv' := [(3, .int x1), (2, .int y3), (4, .int x1)]) hx hb dX12_common_17 rfl hl (by decide) rfl (fun ls hl => ?_)
      refine lv_goto (tgt := 4) hx hb dX12_common_18 (by decide) ?_
      exact ih y3 x1 hf H locs ls h (lv_sub hl [1, 0] rfl)

set_option maxHeartbeats 4000000 in
set_option maxRecDepth 100000 in
theorem qX12_common {l : Launch} {D : va_G} {cs : Nat → ClassId} {r : Int32}  {a0 : Int32} {a1 : Int32} (hf : fX12_common a0 a1 = some r) : GCon l D cs yX12_common cX12_common 5 (some .int) (rM 0) 0 0 [.int a0, .int a1] [] (some (.int r)) [] := by
  refine GCon.of (by decide) (Nat.le_of_ble_eq_true rfl) ?_
  intro p e s m args below meth c A ls H locs C h hl
  have hx := C.1
  have hb := C.2.1
  have C : MCx p s m args meth c A RX12 cX12_common 5 (some .int) D cs := C
  have hl : lv_has ls 5 [(0, .int a0), (1, .int a1)] := hl
  unfold fX12_common at hf
  refine lv_iload_n hx hb dX12_common_0 rfl (lv_at hl 0 rfl) ?_
  refine lv_istore_n (lv' := [(2, .int a0), (0, .int a0), (1, .int a1)]) hx hb dX12_common_1 rfl hl (by decide) rfl (fun ls hl => ?_)
  refine lv_iload_n hx hb dX12_common_2 rfl (lv_at hl 2 rfl) ?_
  refine lv_istore_n (lv' := [(3, .int a1), (2, .int a0), (0, .int a0), (1, .int a1)]) hx hb dX12_common_3 rfl hl (by decide) rfl (fun ls hl => ?_)
  exact wX12_common_4 C fuel a0 a1 hf H locs ls h (lv_sub hl [1, 0] rfl)

set_option maxHeartbeats 4000000 in
set_option maxRecDepth 100000 in
theorem wX12_chance_92 (C : MCx p s m args meth c A RX12 cX12_chance 6 (some .int) D cs)  {r : Int32} {g' : MS}  : ∀ (g : MS) (y1 : Int32) (y3 : Int32) (y4 : Int32), fX12_chance_92 g y1 y3 y4 = some (r, g') → ∀ (H : Heap) (locs : List Loc) (ls : Array Slot), MH D (MW cs ad g) A s H locs → lv_has ls 6 [(0, .ref (ad 48)), (1, .int y1), (3, .int y3), (4, .int y4)] → W p l e (rM 18) s m args below meth c H locs 0 0 (MQ below (GPost D (some (.int r)) (MW cs ad g') A) args s 0 0 A) (F0 m 92 ls []) := by
  have hx := C.1
  have hb := C.2.1
  intro g y1 y3 y4 hf H locs ls h hl
  unfold fX12_chance_92 at hf
  refine lv_iload hx hb dX12_chance_92 (lv_at hl 3 rfl) ?_
  refine lv_aload_n hx hb dX12_chance_94 rfl (lv_at hl 0 rfl) ?_
  refine mg_30 C h dX12_chance_95 ?_
  refine lv_iload_n hx hb dX12_chance_98 rfl (lv_at hl 1 rfl) ?_
  replace hf := chk_some hf
  obtain ⟨hq, hf⟩ := hf
  refine ml_30 C h hq dX12_chance_99 ?_
  clear hq
  replace hf := bndv_some hf
  obtain ⟨x1, hc, hf⟩ := hf
  refine m_callSi [.int y4, .int (g.2.1 30 (ix y1))] C h cs_X12_525 (qX12_common hc) rfl ⟨rfl, rfl⟩ ⟨Nat.le_of_ble_eq_true rfl, Nat.le_of_ble_eq_true rfl⟩ hl.1 rfl (Nat.le_of_ble_eq_true rfl) ⟨Nat.le_refl _, Nat.le_refl _⟩ dX12_chance_100 (fun H locs h => ?_)
  clear hc
  refine lv_istore (lv' := [(5, .int x1), (0, .ref (ad 48)), (1, .int y1), (3, .int y3), (4, .int y4)]) hx hb dX12_chance_103 hl (by decide) rfl (fun ls hl => ?_)
  refine lv_iload_n hx hb dX12_chance_105 rfl (lv_at hl 3 rfl) ?_
  refine lv_if_ne (tgt := 121) hx hb dX12_chance_106 (by decide) (fun hq => ?_) (fun hq => ?_)
  · replace hf := if_tn hq hf
    clear hq
    refine lv_iload hx hb dX12_chance_121 (lv_at hl 4 rfl) ?_
    refine lv_iload hx hb dX12_chance_123 (lv_at hl 0 rfl) ?_
    replace hf := chk_some hf
    obtain ⟨hq, hf⟩ := hf
    refine lv_idiv hx hb dX12_chance_125 (nz_ne hq) ?_
    clear hq
    obtain ⟨e1, e2⟩ := pr_inj hf
    subst e1 e2
    exact m_iret C h dX12_chance_126
  · replace hf := if_t hq hf
    clear hq
    refine lv_aload_n hx hb dX12_chance_109 rfl (lv_at hl 1 rfl) ?_
    refine mg_30 C h dX12_chance_110 ?_
    refine lv_iload_n hx hb dX12_chance_113 rfl (lv_at hl 2 rfl) ?_
    replace hf := chk_some hf
    obtain ⟨hq, hf⟩ := hf
    refine ml_30 C h hq dX12_chance_114 ?_
    clear hq
    refine lv_iload hx hb dX12_chance_115 (lv_at hl 0 rfl) ?_
    replace hf := chk_some hf
    obtain ⟨hq, hf⟩ := hf
    refine lv_idiv hx hb dX12_chance_117 (nz_ne hq) ?_
    clear hq
    refine lv_goto (tgt := 126) hx hb dX12_chance_118 (by decide) ?_
    obtain ⟨e1, e2⟩ := pr_inj hf
    subst e1 e2
    exact m_iret C h dX12_chance_126

set_option maxHeartbeats 4000000 in
set_option maxRecDepth 100000 in
theorem wX12_chance_64 (C : MCx p s m args meth c A RX12 cX12_chance 6 (some .int) D cs)  {r : Int32} {g' : MS}  : ∀ (n : Nat) (g : MS) (y1 : Int32) (y2 : Int32) (y3 : Int32) (y4 : Int32) (y5 : Int32), fX12_chance_64 n g y1 y2 y3 y4 y5 = some (r, g') → ∀ (H : Heap) (locs : List Loc) (ls : Array Slot), MH D (MW cs ad g) A s H locs → lv_has ls 6 [(0, .ref (ad 48)), (1, .int y1), (2, .int y2), (3, .int y3), (4, .int y4), (5, .int y5)] → W p l e (rM 18) s m args below meth c H locs 0 0 (MQ below (GPost D (some (.int r)) (MW cs ad g') A) args s 0 0 A) (F0 m 64 ls []) := by
  have hx := C.1
  have hb := C.2.1
  intro n
  induction n with
  | zero =>
    intro g y1 y2 y3 y4 y5 hf
    exact absurd hf (by simp [fX12_chance_64])
  | succ n ih =>
    intro g y1 y2 y3 y4 y5 hf H locs ls h hl
    rw [fX12_chance_64] at hf
    refine lv_iload hx hb dX12_chance_64 (lv_at hl 5 rfl) ?_
    refine lv_iload_n hx hb dX12_chance_66 rfl (lv_at hl 2 rfl) ?_
    refine lv_icmp_ge (tgt := 92) hx hb dX12_chance_67 (by decide) (fun hq => ?_) (fun hq => ?_)
    · replace hf := if_t hq hf
      clear hq
      exact wX12_chance_92 C g y1 y3 y4 hf H locs ls h (lv_sub hl [0, 1, 3, 4] rfl)
    · replace hf := if_f hq hf
      clear hq
      refine lv_aload_n hx hb dX12_chance_70 rfl (lv_at hl 0 rfl) ?_
      replace hf := bndc_some hf
      obtain ⟨x2, g3, hc, hf⟩ := hf
      refine m_callVi [] C h cv_X12_514 (qX12_loose hc) rfl ⟨rfl, rfl⟩ ⟨Nat.le_of_ble_eq_true rfl, Nat.le_of_ble_eq_true rfl⟩ (m_recv C h) hl.1 rfl (Nat.le_of_ble_eq_true rfl) ⟨Nat.le_refl _, Nat.le_refl _⟩ dX12_chance_71 (fun H locs h => ?_)
      clear hc
      refine lv_if_le (tgt := 92) hx hb dX12_chance_74 (by decide) (fun hq => ?_) (fun hq => ?_)
      · replace hf := if_t hq hf
        clear hq
        exact wX12_chance_92 C g3 y1 y3 y4 hf H locs ls h (lv_sub hl [0, 1, 3, 4] rfl)
      · replace hf := if_f hq hf
        clear hq
        refine lv_iload hx hb dX12_chance_77 (lv_at hl 4 rfl) ?_
        refine lv_aload_n hx hb dX12_chance_79 rfl (lv_at hl 0 rfl) ?_
        replace hf := bndc_some hf
        obtain ⟨x4, g5, hc, hf⟩ := hf
        refine m_callVi [] C h cv_X12_514 (qX12_loose hc) rfl ⟨rfl, rfl⟩ ⟨Nat.le_of_ble_eq_true rfl, Nat.le_of_ble_eq_true rfl⟩ (m_recv C h) hl.1 rfl (Nat.le_of_ble_eq_true rfl) ⟨Nat.le_refl _, Nat.le_refl _⟩ dX12_chance_80 (fun H locs h => ?_)
        clear hc
        refine lv_imul hx hb dX12_chance_83 ?_
        refine lv_topi (fun x6 ex6 => ?_)
        replace hf := bnd_at ex6 hf
        clear ex6
        refine lv_istore (lv' := [(4, .int x6), (0, .ref (ad 48)), (1, .int y1), (2, .int y2), (3, .int y3), (5, .int y5)]) hx hb dX12_chance_84 hl (by decide) rfl (fun ls hl => ?_)
        obtain ⟨x7, ex7⟩ : ∃ z : Int32, z = y5 + (1 : Int32) := ⟨_, rfl⟩
        replace hf := bnd_at ex7 hf
        refine lv_iinc (v := x7) (lv' := [(5, .int x7), (4, .int x6), (0, .ref (ad 48)), (1, .int y1), (2, .int y2), (3, .int y3)]) hx hb dX12_chance_86 hl (k := 5) rfl (by rw [ex7]; rfl) (by decide) rfl (fun ls hl => ?_)
        clear ex7
        refine lv_goto (tgt := 64) hx hb dX12_chance_89 (by decide) ?_
        exact ih g5 y1 y2 y3 x6 x7 hf H locs ls h (lv_sub hl [2, 3, 4, 5, 1, 0] rfl)

set_option maxHeartbeats 4000000 in
set_option maxRecDepth 100000 in
theorem wX12_chance_41 (C : MCx p s m args meth c A RX12 cX12_chance 6 (some .int) D cs)  {r : Int32} {g' : MS}  : ∀ (g : MS) (y1 : Int32) (y2 : Int32) (y3 : Int32) (t1 : Int32), fX12_chance_41 g y1 y2 y3 t1 = some (r, g') → ∀ (H : Heap) (locs : List Loc) (ls : Array Slot), MH D (MW cs ad g) A s H locs → lv_has ls 6 [(0, .ref (ad 48)), (1, .int y1), (2, .int y2), (3, .int y3)] → W p l e (rM 18) s m args below meth c H locs 0 0 (MQ below (GPost D (some (.int r)) (MW cs ad g') A) args s 0 0 A) (F0 m 41 ls [.int t1, .ref (ad 48)]) := by
  have hx := C.1
  have hb := C.2.1
  intro g y1 y2 y3 t1 hf H locs ls h hl
  unfold fX12_chance_41 at hf
  replace hf := bnd_ex hf
  obtain ⟨g8, eg8, hf⟩ := hf
  refine mp_4 C h dX12_chance_41 (fun H locs h => ?_)
  rw [← eg8] at h
  clear eg8
  refine lv_aload_n hx hb dX12_chance_44 rfl (lv_at hl 0 rfl) ?_
  refine mg_4 C h dX12_chance_45 ?_
  refine lv_if_le (tgt := 53) hx hb dX12_chance_48 (by decide) (fun hq => ?_) (fun hq => ?_)
  · replace hf := if_t hq hf
    clear hq
    refine lv_aload_n hx hb dX12_chance_53 rfl (lv_at hl 0 rfl) ?_
    refine lv_iload_n hx hb dX12_chance_54 rfl (lv_at hl 2 rfl) ?_
    replace hf := bndv_some hf
    obtain ⟨g9, hc, hf⟩ := hf
    refine m_callVv [.int y2] C h cv_X12_522 (qX12_laysChance hc) rfl ⟨rfl, rfl⟩ ⟨Nat.le_of_ble_eq_true rfl, Nat.le_of_ble_eq_true rfl⟩ (m_recv C h) hl.1 rfl (Nat.le_of_ble_eq_true rfl) ⟨Nat.le_refl _, Nat.le_refl _⟩ dX12_chance_55 (fun H locs h => ?_)
    clear hc
    refine lv_iconst (v := (1 : Int32)) hx hb dX12_chance_58 (by decide) ?_
    refine lv_istore (lv' := [(4, .int (1 : Int32)), (0, .ref (ad 48)), (1, .int y1), (2, .int y2), (3, .int y3)]) hx hb dX12_chance_59 hl (by decide) rfl (fun ls hl => ?_)
    refine lv_iconst (v := (0 : Int32)) hx hb dX12_chance_61 (by decide) ?_
    refine lv_istore (lv' := [(5, .int (0 : Int32)), (4, .int (1 : Int32)), (0, .ref (ad 48)), (1, .int y1), (2, .int y2), (3, .int y3)]) hx hb dX12_chance_62 hl (by decide) rfl (fun ls hl => ?_)
    exact wX12_chance_64 C fuel g9 y1 y2 y3 (1 : Int32) (0 : Int32) hf H locs ls h (lv_sub hl [2, 3, 4, 5, 1, 0] rfl)
  · replace hf := if_f hq hf
    clear hq
    refine lv_iconst (v := (0 : Int32)) hx hb dX12_chance_51 (by decide) ?_
    obtain ⟨e1, e2⟩ := pr_inj hf
    subst e1 e2
    exact m_iret C h dX12_chance_52

set_option maxHeartbeats 4000000 in
set_option maxRecDepth 100000 in
theorem wX12_chance_40 (C : MCx p s m args meth c A RX12 cX12_chance 6 (some .int) D cs)  {r : Int32} {g' : MS}  : ∀ (g : MS) (y1 : Int32) (y2 : Int32) (y3 : Int32), fX12_chance_40 g y1 y2 y3 = some (r, g') → ∀ (H : Heap) (locs : List Loc) (ls : Array Slot), MH D (MW cs ad g) A s H locs → lv_has ls 6 [(0, .ref (ad 48)), (1, .int y1), (2, .int y2), (3, .int y3)] → W p l e (rM 18) s m args below meth c H locs 0 0 (MQ below (GPost D (some (.int r)) (MW cs ad g') A) args s 0 0 A) (F0 m 40 ls [.ref (ad 48)]) := by
  have hx := C.1
  have hb := C.2.1
  intro g y1 y2 y3 hf H locs ls h hl
  unfold fX12_chance_40 at hf
  refine lv_iconst (v := (2 : Int32)) hx hb dX12_chance_40 (by decide) ?_
  exact wX12_chance_41 C g y1 y2 y3 (2 : Int32) hf H locs ls h (lv_sub hl [0, 1, 2, 3] rfl)

set_option maxHeartbeats 4000000 in
set_option maxRecDepth 100000 in
theorem qX12_chance {l : Launch} {D : va_G} {cs : Nat → ClassId} {ad : Nat → Nat} {r : Int32} {g' : MS} {g : MS}  {a0 : Int32} {a1 : Int32} {a2 : Int32} (hf : fX12_chance g a0 a1 a2 = some (r, g')) : GCon l D cs yX12_chance cX12_chance 6 (some .int) (rM 18) 0 0 [.ref (ad 48), .int a0, .int a1, .int a2] (MW cs ad g) (some (.int r)) (MW cs ad g') := by
  refine GCon.of (by decide) (Nat.le_of_ble_eq_true rfl) ?_
  intro p e s m args below meth c A ls H locs C h hl
  have hx := C.1
  have hb := C.2.1
  have C : MCx p s m args meth c A RX12 cX12_chance 6 (some .int) D cs := C
  have hl : lv_has ls 6 [(0, .ref (ad 48)), (1, .int a0), (2, .int a1), (3, .int a2)] := hl
  unfold fX12_chance at hf
  refine lv_aload_n hx hb dX12_chance_0 rfl (lv_at hl 0 rfl) ?_
  refine lv_aload_n hx hb dX12_chance_1 rfl (lv_at hl 0 rfl) ?_
  refine lv_iload_n hx hb dX12_chance_2 rfl (lv_at hl 1 rfl) ?_
  refine lv_i2l hx hb dX12_chance_3 rfl ?_
  replace hf := bndc_some hf
  obtain ⟨x10, g11, hc, hf⟩ := hf
  refine m_callVi [.long a0.toInt64] C h cv_X12_319 (qX12_isMember hc) rfl ⟨rfl, rfl⟩ ⟨Nat.le_of_ble_eq_true rfl, Nat.le_of_ble_eq_true rfl⟩ (m_recv C h) hl.1 rfl (Nat.le_of_ble_eq_true rfl) ⟨Nat.le_refl _, Nat.le_refl _⟩ dX12_chance_4 (fun H locs h => ?_)
  clear hc
  refine lv_if_ne (tgt := 14) hx hb dX12_chance_7 (by decide) (fun hq => ?_) (fun hq => ?_)
  · replace hf := if_tn hq hf
    clear hq
    refine lv_iload_n hx hb dX12_chance_14 rfl (lv_at hl 2 rfl) ?_
    refine lv_i2l hx hb dX12_chance_15 rfl ?_
    refine lv_lconst (v := (0 : Int64)) hx hb dX12_chance_16 rfl ?_
    refine lv_ldc2 hx hb C.2.2.2.1 (C.2.2.2.2.1 _ tb_66_2) dX12_chance_17 ?_
    replace hf := bndv_some hf
    obtain ⟨x12, hc, hf⟩ := hf
    refine m_callSi [.long a1.toInt64, .long (0 : Int64), .long (6 : Int64)] C h cs_X12_147 (qX12_within hc) rfl ⟨rfl, rfl⟩ ⟨Nat.le_of_ble_eq_true rfl, Nat.le_of_ble_eq_true rfl⟩ hl.1 rfl (Nat.le_of_ble_eq_true rfl) ⟨Nat.le_refl _, Nat.le_refl _⟩ dX12_chance_20 (fun H locs h => ?_)
    clear hc
    refine lv_if_eq (tgt := 40) hx hb dX12_chance_23 (by decide) (fun hq => ?_) (fun hq => ?_)
    · replace hf := if_t hq hf
      clear hq
      exact wX12_chance_40 C g11 a0 a1 a2 hf H locs ls h (lv_sub hl [0, 1, 2, 3] rfl)
    · replace hf := if_f hq hf
      clear hq
      refine lv_iload_n hx hb dX12_chance_26 rfl (lv_at hl 3 rfl) ?_
      refine lv_i2l hx hb dX12_chance_27 rfl ?_
      refine lv_lconst (v := (0 : Int64)) hx hb dX12_chance_28 rfl ?_
      refine lv_lconst (v := (1 : Int64)) hx hb dX12_chance_29 rfl ?_
      replace hf := bndv_some hf
      obtain ⟨x13, hc, hf⟩ := hf
      refine m_callSi [.long a2.toInt64, .long (0 : Int64), .long (1 : Int64)] C h cs_X12_147 (qX12_within hc) rfl ⟨rfl, rfl⟩ ⟨Nat.le_of_ble_eq_true rfl, Nat.le_of_ble_eq_true rfl⟩ hl.1 rfl (Nat.le_of_ble_eq_true rfl) ⟨Nat.le_refl _, Nat.le_refl _⟩ dX12_chance_30 (fun H locs h => ?_)
      clear hc
      refine lv_if_eq (tgt := 40) hx hb dX12_chance_33 (by decide) (fun hq => ?_) (fun hq => ?_)
      · replace hf := if_t hq hf
        clear hq
        exact wX12_chance_40 C g11 a0 a1 a2 hf H locs ls h (lv_sub hl [0, 1, 2, 3] rfl)
      · replace hf := if_f hq hf
        clear hq
        refine lv_iconst (v := (0 : Int32)) hx hb dX12_chance_36 (by decide) ?_
        refine lv_goto (tgt := 41) hx hb dX12_chance_37 (by decide) ?_
        exact wX12_chance_41 C g11 a0 a1 a2 (0 : Int32) hf H locs ls h (lv_sub hl [0, 1, 2, 3] rfl)
  · replace hf := if_t hq hf
    clear hq
    refine lv_iconst (v := (1 : Int32)) hx hb dX12_chance_10 (by decide) ?_
    refine lv_goto (tgt := 41) hx hb dX12_chance_11 (by decide) ?_
    exact wX12_chance_41 C g11 a0 a1 a2 (1 : Int32) hf H locs ls h (lv_sub hl [0, 1, 2, 3] rfl)

set_option maxHeartbeats 4000000 in
set_option maxRecDepth 100000 in
theorem wX12_likeliest_61 (C : MCx p s m args meth c A RX12 cX12_likeliest 4 (some .int) D cs)  {r : Int32} {g' : MS}  {k32 : MS → Int32 → Int32 → Option (Int32 × MS)} (hk32 : ∀ (g : MS) (y2 : Int32) (y3 : Int32), k32 g y2 y3 = some (r, g') → ∀ (H : Heap) (locs : List Loc) (ls : Array Slot), MH D (MW cs ad g) A s H locs → lv_has ls 4 [(0, .ref (ad 48)), (2, .int y2), (3, .int y3)] → W p l e (rM 18) s m args below meth c H locs 0 0 (MQ below (GPost D (some (.int r)) (MW cs ad g') A) args s 0 0 A) (F0 m 32 ls [])) : ∀ (g : MS) (y2 : Int32) (y3 : Int32) (t0 : Int32) (t1 : Int32), fX12_likeliest_61 k32 g y2 y3 t0 t1 = some (r, g') → ∀ (H : Heap) (locs : List Loc) (ls : Array Slot), MH D (MW cs ad g) A s H locs → lv_has ls 4 [(0, .ref (ad 48)), (2, .int y2), (3, .int y3)] → W p l e (rM 18) s m args below meth c H locs 0 0 (MQ below (GPost D (some (.int r)) (MW cs ad g') A) args s 0 0 A) (F0 m 61 ls [.int t1, .int t0]) := by
  have hx := C.1
  have hb := C.2.1
  intro g y2 y3 t0 t1 hf H locs ls h hl
  unfold fX12_likeliest_61 at hf
  refine lv_icmp_le (tgt := 66) hx hb dX12_likeliest_61 (by decide) (fun hq => ?_) (fun hq => ?_)
  · replace hf := if_t hq hf
    clear hq
    obtain ⟨x1, ex1⟩ : ∃ z : Int32, z = y3 + (1 : Int32) := ⟨_, rfl⟩
    replace hf := bnd_at ex1 hf
    refine lv_iinc (v := x1) (lv' := [(3, .int x1), (0, .ref (ad 48)), (2, .int y2)]) hx hb dX12_likeliest_66 hl (k := 2) rfl (by rw [ex1]; rfl) (by decide) rfl (fun ls hl => ?_)
    clear ex1
    refine lv_goto (tgt := 32) hx hb dX12_likeliest_69 (by decide) ?_
    exact hk32 g y2 x1 hf H locs ls h (lv_sub hl [1, 2, 0] rfl)
  · replace hf := if_f hq hf
    clear hq
    refine lv_iload_n hx hb dX12_likeliest_64 rfl (lv_at hl 2 rfl) ?_
    refine lv_istore_n (lv' := [(2, .int y3), (0, .ref (ad 48)), (3, .int y3)]) hx hb dX12_likeliest_65 rfl hl (by decide) rfl (fun ls hl => ?_)
    obtain ⟨x2, ex2⟩ : ∃ z : Int32, z = y3 + (1 : Int32) := ⟨_, rfl⟩
    replace hf := bnd_at ex2 hf
    refine lv_iinc (v := x2) (lv' := [(3, .int x2), (2, .int y3), (0, .ref (ad 48))]) hx hb dX12_likeliest_66 hl (k := 2) rfl (by rw [ex2]; rfl) (by decide) rfl (fun ls hl => ?_)
    clear ex2
    refine lv_goto (tgt := 32) hx hb dX12_likeliest_69 (by decide) ?_
    exact hk32 g y3 x2 hf H locs ls h (lv_sub hl [2, 1, 0] rfl)

set_option maxHeartbeats 4000000 in
set_option maxRecDepth 100000 in
theorem wX12_likeliest_32 (C : MCx p s m args meth c A RX12 cX12_likeliest 4 (some .int) D cs)  {r : Int32} {g' : MS}  : ∀ (n : Nat) (g : MS) (y2 : Int32) (y3 : Int32), fX12_likeliest_32 n g y2 y3 = some (r, g') → ∀ (H : Heap) (locs : List Loc) (ls : Array Slot), MH D (MW cs ad g) A s H locs → lv_has ls 4 [(0, .ref (ad 48)), (2, .int y2), (3, .int y3)] → W p l e (rM 18) s m args below meth c H locs 0 0 (MQ below (GPost D (some (.int r)) (MW cs ad g') A) args s 0 0 A) (F0 m 32 ls []) := by
  have hx := C.1
  have hb := C.2.1
  intro n
  induction n with
  | zero =>
    intro g y2 y3 hf
    exact absurd hf (by simp [fX12_likeliest_32])
  | succ n ih =>
    intro g y2 y3 hf H locs ls h hl
    rw [fX12_likeliest_32] at hf
    refine lv_iload_n hx hb dX12_likeliest_32 rfl (lv_at hl 2 rfl) ?_
    refine lv_aload_n hx hb dX12_likeliest_33 rfl (lv_at hl 0 rfl) ?_
    replace hf := bndc_some hf
    obtain ⟨x3, g4, hc, hf⟩ := hf
    refine m_callVi [] C h cv_X12_254 (qX12_size hc) rfl ⟨rfl, rfl⟩ ⟨Nat.le_of_ble_eq_true rfl, Nat.le_of_ble_eq_true rfl⟩ (m_recv C h) hl.1 rfl (Nat.le_of_ble_eq_true rfl) ⟨Nat.le_refl _, Nat.le_refl _⟩ dX12_likeliest_34 (fun H locs h => ?_)
    clear hc
    refine lv_icmp_ge (tgt := 72) hx hb dX12_likeliest_37 (by decide) (fun hq => ?_) (fun hq => ?_)
    · replace hf := if_t hq hf
      clear hq
      refine lv_iload_n hx hb dX12_likeliest_72 rfl (lv_at hl 1 rfl) ?_
      obtain ⟨e1, e2⟩ := pr_inj hf
      subst e1 e2
      exact m_iret C h dX12_likeliest_73
    · replace hf := if_f hq hf
      clear hq
      refine lv_aload_n hx hb dX12_likeliest_40 rfl (lv_at hl 0 rfl) ?_
      refine mg_30 C h dX12_likeliest_41 ?_
      refine lv_iload_n hx hb dX12_likeliest_44 rfl (lv_at hl 2 rfl) ?_
      replace hf := chk_some hf
      obtain ⟨hq, hf⟩ := hf
      refine ml_30 C h hq dX12_likeliest_45 ?_
      clear hq
      refine lv_iload_n hx hb dX12_likeliest_46 rfl (lv_at hl 1 rfl) ?_
      refine lv_iconst (v := (-1 : Int32)) hx hb dX12_likeliest_47 (by decide) ?_
      refine lv_icmp_ne (tgt := 55) hx hb dX12_likeliest_48 (by decide) (fun hq => ?_) (fun hq => ?_)
      · replace hf := if_tn hq hf
        clear hq
        refine lv_aload_n hx hb dX12_likeliest_55 rfl (lv_at hl 0 rfl) ?_
        refine mg_30 C h dX12_likeliest_56 ?_
        refine lv_iload_n hx hb dX12_likeliest_59 rfl (lv_at hl 1 rfl) ?_
        replace hf := chk_some hf
        obtain ⟨hq, hf⟩ := hf
        refine ml_30 C h hq dX12_likeliest_60 ?_
        clear hq
        exact wX12_likeliest_61 C ih g4 y2 y3 (g4.2.1 30 (ix y3)) (g4.2.1 30 (ix y2)) hf H locs ls h (lv_sub hl [0, 1, 2] rfl)
      · replace hf := if_t hq hf
        clear hq
        refine lv_iconst (v := (0 : Int32)) hx hb dX12_likeliest_51 (by decide) ?_
        refine lv_goto (tgt := 61) hx hb dX12_likeliest_52 (by decide) ?_
        exact wX12_likeliest_61 C ih g4 y2 y3 (g4.2.1 30 (ix y3)) (0 : Int32) hf H locs ls h (lv_sub hl [0, 1, 2] rfl)

set_option maxHeartbeats 4000000 in
set_option maxRecDepth 100000 in
theorem qX12_likeliest {l : Launch} {D : va_G} {cs : Nat → ClassId} {ad : Nat → Nat} {r : Int32} {g' : MS} {g : MS}  {a0 : Int32} (hf : fX12_likeliest g a0 = some (r, g')) : GCon l D cs yX12_likeliest cX12_likeliest 4 (some .int) (rM 18) 0 0 [.ref (ad 48), .int a0] (MW cs ad g) (some (.int r)) (MW cs ad g') := by
  refine GCon.of (by decide) (Nat.le_of_ble_eq_true rfl) ?_
  intro p e s m args below meth c A ls H locs C h hl
  have hx := C.1
  have hb := C.2.1
  have C : MCx p s m args meth c A RX12 cX12_likeliest 4 (some .int) D cs := C
  have hl : lv_has ls 4 [(0, .ref (ad 48)), (1, .int a0)] := hl
  unfold fX12_likeliest at hf
  refine lv_aload_n hx hb dX12_likeliest_0 rfl (lv_at hl 0 rfl) ?_
  refine lv_iconst (v := (0 : Int32)) hx hb dX12_likeliest_1 (by decide) ?_
  replace hf := bnd_ex hf
  obtain ⟨g5, eg5, hf⟩ := hf
  refine mp_4 C h dX12_likeliest_2 (fun H locs h => ?_)
  rw [← eg5] at h
  clear eg5
  refine lv_iload_n hx hb dX12_likeliest_5 rfl (lv_at hl 1 rfl) ?_
  refine lv_i2l hx hb dX12_likeliest_6 rfl ?_
  refine lv_lconst (v := (0 : Int64)) hx hb dX12_likeliest_7 rfl ?_
  refine lv_ldc2 hx hb C.2.2.2.1 (C.2.2.2.2.1 _ tb_66_2) dX12_likeliest_8 ?_
  replace hf := bndv_some hf
  obtain ⟨x6, hc, hf⟩ := hf
  refine m_callSi [.long a0.toInt64, .long (0 : Int64), .long (6 : Int64)] C h cs_X12_147 (qX12_within hc) rfl ⟨rfl, rfl⟩ ⟨Nat.le_of_ble_eq_true rfl, Nat.le_of_ble_eq_true rfl⟩ hl.1 rfl (Nat.le_of_ble_eq_true rfl) ⟨Nat.le_refl _, Nat.le_refl _⟩ dX12_likeliest_11 (fun H locs h => ?_)
  clear hc
  refine lv_if_ne (tgt := 23) hx hb dX12_likeliest_14 (by decide) (fun hq => ?_) (fun hq => ?_)
  · replace hf := if_tn hq hf
    clear hq
    refine lv_aload_n hx hb dX12_likeliest_23 rfl (lv_at hl 0 rfl) ?_
    refine lv_iload_n hx hb dX12_likeliest_24 rfl (lv_at hl 1 rfl) ?_
    replace hf := bndv_some hf
    obtain ⟨g7, hc, hf⟩ := hf
    refine m_callVv [.int a0] C h cv_X12_522 (qX12_laysChance hc) rfl ⟨rfl, rfl⟩ ⟨Nat.le_of_ble_eq_true rfl, Nat.le_of_ble_eq_true rfl⟩ (m_recv C h) hl.1 rfl (Nat.le_of_ble_eq_true rfl) ⟨Nat.le_refl _, Nat.le_refl _⟩ dX12_likeliest_25 (fun H locs h => ?_)
    clear hc
    refine lv_iconst (v := (-1 : Int32)) hx hb dX12_likeliest_28 (by decide) ?_
    refine lv_istore_n (lv' := [(2, .int (-1 : Int32)), (0, .ref (ad 48)), (1, .int a0)]) hx hb dX12_likeliest_29 rfl hl (by decide) rfl (fun ls hl => ?_)
    refine lv_iconst (v := (0 : Int32)) hx hb dX12_likeliest_30 (by decide) ?_
    refine lv_istore_n (lv' := [(3, .int (0 : Int32)), (2, .int (-1 : Int32)), (0, .ref (ad 48)), (1, .int a0)]) hx hb dX12_likeliest_31 rfl hl (by decide) rfl (fun ls hl => ?_)
    exact wX12_likeliest_32 C fuel g7 (-1 : Int32) (0 : Int32) hf H locs ls h (lv_sub hl [2, 1, 0] rfl)
  · replace hf := if_t hq hf
    clear hq
    refine lv_aload_n hx hb dX12_likeliest_17 rfl (lv_at hl 0 rfl) ?_
    refine lv_iconst (v := (1 : Int32)) hx hb dX12_likeliest_18 (by decide) ?_
    replace hf := bndc_some hf
    obtain ⟨x8, g9, hc, hf⟩ := hf
    refine m_callVi [.int (1 : Int32)] C h cv_X12_239 (qX12_fails hc) rfl ⟨rfl, rfl⟩ ⟨Nat.le_of_ble_eq_true rfl, Nat.le_of_ble_eq_true rfl⟩ (m_recv C h) hl.1 rfl (Nat.le_of_ble_eq_true rfl) ⟨Nat.le_refl _, Nat.le_refl _⟩ dX12_likeliest_19 (fun H locs h => ?_)
    clear hc
    obtain ⟨e1, e2⟩ := pr_inj hf
    subst e1 e2
    exact m_iret C h dX12_likeliest_22

set_option maxHeartbeats 4000000 in
set_option maxRecDepth 100000 in
theorem wX12_tray_69 (C : MCx p s m args meth c A RX12 cX12_tray 5 none D cs)  {g' : MS}  : ∀ (n : Nat) (g : MS) (y1 : Int32) (y4 : Int32), fX12_tray_69 n g y1 y4 = some g' → ∀ (H : Heap) (locs : List Loc) (ls : Array Slot), MH D (MW cs ad g) A s H locs → lv_has ls 5 [(0, .ref (ad 48)), (1, .int y1), (4, .int y4)] → W p l e (rM 2) s m args below meth c H locs 0 0 (MQ below (GPost D none (MW cs ad g') A) args s 0 0 A) (F0 m 69 ls []) := by
  have hx := C.1
  have hb := C.2.1
  intro n
  induction n with
  | zero =>
    intro g y1 y4 hf
    exact absurd hf (by simp [fX12_tray_69])
  | succ n ih =>
    intro g y1 y4 hf H locs ls h hl
    rw [fX12_tray_69] at hf
    refine lv_iload hx hb dX12_tray_69 (lv_at hl 2 rfl) ?_
    refine lv_bipush (v := (30 : Int32)) hx hb dX12_tray_71 (by decide) ?_
    refine lv_icmp_ge (tgt := 95) hx hb dX12_tray_73 (by decide) (fun hq => ?_) (fun hq => ?_)
    · replace hf := if_t hq hf
      clear hq
      have e1 := Option.some.inj hf
      subst e1
      exact m_vret C h dX12_tray_95
    · replace hf := if_f hq hf
      clear hq
      refine lv_aload_n hx hb dX12_tray_76 rfl (lv_at hl 0 rfl) ?_
      refine mg_47 C h dX12_tray_77 ?_
      refine lv_bipush (v := (30 : Int32)) hx hb dX12_tray_80 (by decide) ?_
      refine lv_iload_n hx hb dX12_tray_82 rfl (lv_at hl 1 rfl) ?_
      refine lv_imul hx hb dX12_tray_83 ?_
      refine lv_iload hx hb dX12_tray_84 (lv_at hl 2 rfl) ?_
      refine lv_iadd hx hb dX12_tray_86 ?_
      refine lv_lconst (v := (0 : Int64)) hx hb dX12_tray_87 rfl ?_
      replace hf := chk_some hf
      obtain ⟨hq, hf⟩ := hf
      replace hf := bnd_ex hf
      obtain ⟨g1, eg1, hf⟩ := hf
      refine ms_47 C h hq dX12_tray_88 (fun H locs h => ?_)
      rw [← eg1] at h
      clear hq eg1
      obtain ⟨x2, ex2⟩ : ∃ z : Int32, z = y4 + (1 : Int32) := ⟨_, rfl⟩
      replace hf := bnd_at ex2 hf
      refine lv_iinc (v := x2) (lv' := [(4, .int x2), (0, .ref (ad 48)), (1, .int y1)]) hx hb dX12_tray_89 hl (k := 2) rfl (by rw [ex2]; rfl) (by decide) rfl (fun ls hl => ?_)
      clear ex2
      refine lv_goto (tgt := 69) hx hb dX12_tray_92 (by decide) ?_
      exact ih g1 y1 x2 hf H locs ls h (lv_sub hl [1, 2, 0] rfl)

set_option maxHeartbeats 4000000 in
set_option maxRecDepth 100000 in
theorem wX12_tray_41 (C : MCx p s m args meth c A RX12 cX12_tray 5 none D cs)  {g' : MS}  : ∀ (g : MS) (y1 : Int32) (y2 : Int32) (y3 : Int32) (t1 : Int32), fX12_tray_41 g y1 y2 y3 t1 = some g' → ∀ (H : Heap) (locs : List Loc) (ls : Array Slot), MH D (MW cs ad g) A s H locs → lv_has ls 5 [(0, .ref (ad 48)), (1, .int y1), (2, .int y2), (3, .int y3)] → W p l e (rM 2) s m args below meth c H locs 0 0 (MQ below (GPost D none (MW cs ad g') A) args s 0 0 A) (F0 m 41 ls [.int t1, .ref (ad 48)]) := by
  have hx := C.1
  have hb := C.2.1
  intro g y1 y2 y3 t1 hf H locs ls h hl
  unfold fX12_tray_41 at hf
  replace hf := bnd_ex hf
  obtain ⟨g3, eg3, hf⟩ := hf
  refine mp_4 C h dX12_tray_41 (fun H locs h => ?_)
  rw [← eg3] at h
  clear eg3
  refine lv_aload_n hx hb dX12_tray_44 rfl (lv_at hl 0 rfl) ?_
  refine mg_4 C h dX12_tray_45 ?_
  refine lv_if_le (tgt := 52) hx hb dX12_tray_48 (by decide) (fun hq => ?_) (fun hq => ?_)
  · replace hf := if_t hq hf
    clear hq
    refine lv_aload_n hx hb dX12_tray_52 rfl (lv_at hl 0 rfl) ?_
    refine mg_45 C h dX12_tray_53 ?_
    refine lv_iload_n hx hb dX12_tray_56 rfl (lv_at hl 1 rfl) ?_
    refine lv_iload_n hx hb dX12_tray_57 rfl (lv_at hl 2 rfl) ?_
    replace hf := chk_some hf
    obtain ⟨hq, hf⟩ := hf
    replace hf := bnd_ex hf
    obtain ⟨g4, eg4, hf⟩ := hf
    refine ms_45 C h hq dX12_tray_58 (fun H locs h => ?_)
    rw [← eg4] at h
    clear hq eg4
    refine lv_aload_n hx hb dX12_tray_59 rfl (lv_at hl 0 rfl) ?_
    refine mg_46 C h dX12_tray_60 ?_
    refine lv_iload_n hx hb dX12_tray_63 rfl (lv_at hl 1 rfl) ?_
    refine lv_iload_n hx hb dX12_tray_64 rfl (lv_at hl 3 rfl) ?_
    replace hf := chk_some hf
    obtain ⟨hq, hf⟩ := hf
    replace hf := bnd_ex hf
    obtain ⟨g5, eg5, hf⟩ := hf
    refine ms_46 C h hq dX12_tray_65 (fun H locs h => ?_)
    rw [← eg5] at h
    clear hq eg5
    refine lv_iconst (v := (0 : Int32)) hx hb dX12_tray_66 (by decide) ?_
    refine lv_istore (lv' := [(4, .int (0 : Int32)), (0, .ref (ad 48)), (1, .int y1), (2, .int y2), (3, .int y3)]) hx hb dX12_tray_67 hl (by decide) rfl (fun ls hl => ?_)
    exact wX12_tray_69 C fuel g5 y1 (0 : Int32) hf H locs ls h (lv_sub hl [1, 2, 0] rfl)
  · replace hf := if_f hq hf
    clear hq
    have e1 := Option.some.inj hf
    subst e1
    exact m_vret C h dX12_tray_51

set_option maxHeartbeats 4000000 in
set_option maxRecDepth 100000 in
theorem wX12_tray_36 (C : MCx p s m args meth c A RX12 cX12_tray 5 none D cs)  {g' : MS}  : ∀ (g : MS) (y1 : Int32) (y2 : Int32) (y3 : Int32), fX12_tray_36 g y1 y2 y3 = some g' → ∀ (H : Heap) (locs : List Loc) (ls : Array Slot), MH D (MW cs ad g) A s H locs → lv_has ls 5 [(0, .ref (ad 48)), (1, .int y1), (2, .int y2), (3, .int y3)] → W p l e (rM 2) s m args below meth c H locs 0 0 (MQ below (GPost D none (MW cs ad g') A) args s 0 0 A) (F0 m 36 ls [.ref (ad 48)]) := by
  have hx := C.1
  have hb := C.2.1
  intro g y1 y2 y3 hf H locs ls h hl
  unfold fX12_tray_36 at hf
  refine lv_iconst (v := (2 : Int32)) hx hb dX12_tray_36 (by decide) ?_
  refine lv_goto (tgt := 41) hx hb dX12_tray_37 (by decide) ?_
  exact wX12_tray_41 C g y1 y2 y3 (2 : Int32) hf H locs ls h (lv_sub hl [0, 1, 2, 3] rfl)

set_option maxHeartbeats 4000000 in
set_option maxRecDepth 100000 in
theorem qX12_tray {l : Launch} {D : va_G} {cs : Nat → ClassId} {ad : Nat → Nat} {g' : MS} {g : MS}  {a0 : Int32} {a1 : Int32} {a2 : Int32} (hf : fX12_tray g a0 a1 a2 = some g') : GCon l D cs yX12_tray cX12_tray 5 none (rM 2) 0 0 [.ref (ad 48), .int a0, .int a1, .int a2] (MW cs ad g) none (MW cs ad g') := by
  refine GCon.of (by decide) (Nat.le_of_ble_eq_true rfl) ?_
  intro p e s m args below meth c A ls H locs C h hl
  have hx := C.1
  have hb := C.2.1
  have C : MCx p s m args meth c A RX12 cX12_tray 5 none D cs := C
  have hl : lv_has ls 5 [(0, .ref (ad 48)), (1, .int a0), (2, .int a1), (3, .int a2)] := hl
  unfold fX12_tray at hf
  refine lv_aload_n hx hb dX12_tray_0 rfl (lv_at hl 0 rfl) ?_
  refine lv_iload_n hx hb dX12_tray_1 rfl (lv_at hl 1 rfl) ?_
  replace hf := bndv_some hf
  obtain ⟨x6, hc, hf⟩ := hf
  refine m_callSi [.int a0] C h cs_X12_356 (qX12_isTray hc) rfl ⟨rfl, rfl⟩ ⟨Nat.le_of_ble_eq_true rfl, Nat.le_of_ble_eq_true rfl⟩ hl.1 rfl (Nat.le_of_ble_eq_true rfl) ⟨Nat.le_refl _, Nat.le_refl _⟩ dX12_tray_2 (fun H locs h => ?_)
  clear hc
  refine lv_if_ne (tgt := 12) hx hb dX12_tray_5 (by decide) (fun hq => ?_) (fun hq => ?_)
  · replace hf := if_tn hq hf
    clear hq
    refine lv_iload_n hx hb dX12_tray_12 rfl (lv_at hl 2 rfl) ?_
    refine lv_i2l hx hb dX12_tray_13 rfl ?_
    refine lv_lconst (v := (0 : Int64)) hx hb dX12_tray_14 rfl ?_
    refine lv_ldc2 hx hb C.2.2.2.1 (C.2.2.2.2.1 _ tb_40_5) dX12_tray_15 ?_
    replace hf := bndv_some hf
    obtain ⟨x7, hc, hf⟩ := hf
    refine m_callSi [.long a1.toInt64, .long (0 : Int64), .long (3 : Int64)] C h cs_X12_147 (qX12_within hc) rfl ⟨rfl, rfl⟩ ⟨Nat.le_of_ble_eq_true rfl, Nat.le_of_ble_eq_true rfl⟩ hl.1 rfl (Nat.le_of_ble_eq_true rfl) ⟨Nat.le_refl _, Nat.le_refl _⟩ dX12_tray_18 (fun H locs h => ?_)
    clear hc
    refine lv_if_eq (tgt := 36) hx hb dX12_tray_21 (by decide) (fun hq => ?_) (fun hq => ?_)
    · replace hf := if_t hq hf
      clear hq
      exact wX12_tray_36 C g a0 a1 a2 hf H locs ls h (lv_sub hl [0, 1, 2, 3] rfl)
    · replace hf := if_f hq hf
      clear hq
      refine lv_iload_n hx hb dX12_tray_24 rfl (lv_at hl 3 rfl) ?_
      refine lv_i2l hx hb dX12_tray_25 rfl ?_
      refine lv_lconst (v := (0 : Int64)) hx hb dX12_tray_26 rfl ?_
      refine lv_ldc2 hx hb C.2.2.2.1 (C.2.2.2.2.1 _ tb_42_17) dX12_tray_27 ?_
      replace hf := bndv_some hf
      obtain ⟨x8, hc, hf⟩ := hf
      refine m_callSi [.long a2.toInt64, .long (0 : Int64), .long (30 : Int64)] C h cs_X12_147 (qX12_within hc) rfl ⟨rfl, rfl⟩ ⟨Nat.le_of_ble_eq_true rfl, Nat.le_of_ble_eq_true rfl⟩ hl.1 rfl (Nat.le_of_ble_eq_true rfl) ⟨Nat.le_refl _, Nat.le_refl _⟩ dX12_tray_30 (fun H locs h => ?_)
      clear hc
      refine lv_if_ne (tgt := 40) hx hb dX12_tray_33 (by decide) (fun hq => ?_) (fun hq => ?_)
      · replace hf := if_tn hq hf
        clear hq
        refine lv_iconst (v := (0 : Int32)) hx hb dX12_tray_40 (by decide) ?_
        exact wX12_tray_41 C g a0 a1 a2 (0 : Int32) hf H locs ls h (lv_sub hl [0, 1, 2, 3] rfl)
      · replace hf := if_t hq hf
        clear hq
        exact wX12_tray_36 C g a0 a1 a2 hf H locs ls h (lv_sub hl [0, 1, 2, 3] rfl)
  · replace hf := if_t hq hf
    clear hq
    refine lv_iconst (v := (1 : Int32)) hx hb dX12_tray_8 (by decide) ?_
    refine lv_goto (tgt := 41) hx hb dX12_tray_9 (by decide) ?_
    exact wX12_tray_41 C g a0 a1 a2 (1 : Int32) hf H locs ls h (lv_sub hl [0, 1, 2, 3] rfl)

set_option maxHeartbeats 4000000 in
set_option maxRecDepth 100000 in
theorem qX12_cut {l : Launch} {D : va_G} {cs : Nat → ClassId} {ad : Nat → Nat} {r : Int64} {g' : MS} {g : MS}  {a0 : Int32} {a1 : Int32} {a2 : Int64} (hf : fX12_cut g a0 a1 a2 = some (r, g')) : GCon l D cs yX12_cut cX12_cut 6 (some .long) (rM 0) 0 0 [.ref (ad 48), .int a0, .int a1, .long a2] (MW cs ad g) (some (.long r)) (MW cs ad g') := by
  refine GCon.of (by decide) (Nat.le_of_ble_eq_true rfl) ?_
  intro p e s m args below meth c A ls H locs C h hl
  have hx := C.1
  have hb := C.2.1
  have C : MCx p s m args meth c A RX12 cX12_cut 6 (some .long) D cs := C
  have hl : lv_has ls 6 [(0, .ref (ad 48)), (1, .int a0), (2, .int a1), (3, .long a2)] := hl
  unfold fX12_cut at hf
  refine lv_bipush (v := (64 : Int32)) hx hb dX12_cut_0 (by decide) ?_
  refine lv_bipush (v := (8 : Int32)) hx hb dX12_cut_2 (by decide) ?_
  refine lv_aload_n hx hb dX12_cut_4 rfl (lv_at hl 0 rfl) ?_
  refine mg_45 C h dX12_cut_5 ?_
  refine lv_iload_n hx hb dX12_cut_8 rfl (lv_at hl 1 rfl) ?_
  replace hf := chk_some hf
  obtain ⟨hq, hf⟩ := hf
  refine ml_45 C h hq dX12_cut_9 ?_
  clear hq
  refine x_ishl hx hb dX12_cut_10 ?_
  refine lv_isub hx hb dX12_cut_11 ?_
  refine lv_topi (fun x1 ex1 => ?_)
  replace hf := bnd_at ex1 hf
  clear ex1
  refine lv_istore (lv' := [(5, .int x1), (0, .ref (ad 48)), (1, .int a0), (2, .int a1), (3, .long a2)]) hx hb dX12_cut_12 hl (by decide) rfl (fun ls hl => ?_)
  refine lv_aload_n hx hb dX12_cut_14 rfl (lv_at hl 1 rfl) ?_
  refine mg_47 C h dX12_cut_15 ?_
  refine lv_bipush (v := (30 : Int32)) hx hb dX12_cut_18 (by decide) ?_
  refine lv_iload_n hx hb dX12_cut_20 rfl (lv_at hl 2 rfl) ?_
  refine lv_imul hx hb dX12_cut_21 ?_
  refine lv_iload_n hx hb dX12_cut_22 rfl (lv_at hl 3 rfl) ?_
  refine lv_iadd hx hb dX12_cut_23 ?_
  refine lv_lload_n hx hb dX12_cut_24 rfl (lv_at hl 4 rfl) ?_
  refine lv_iload hx hb dX12_cut_25 (lv_at hl 0 rfl) ?_
  refine x_lshl hx hb dX12_cut_27 ?_
  refine lv_iload hx hb dX12_cut_28 (lv_at hl 0 rfl) ?_
  refine x_lshr hx hb dX12_cut_30 ?_
  replace hf := chk_some hf
  obtain ⟨hq, hf⟩ := hf
  replace hf := bnd_ex hf
  obtain ⟨g2, eg2, hf⟩ := hf
  refine ms_47 C h hq dX12_cut_31 (fun H locs h => ?_)
  rw [← eg2] at h
  clear hq eg2
  refine lv_aload_n hx hb dX12_cut_32 rfl (lv_at hl 1 rfl) ?_
  refine mg_47 C h dX12_cut_33 ?_
  refine lv_bipush (v := (30 : Int32)) hx hb dX12_cut_36 (by decide) ?_
  refine lv_iload_n hx hb dX12_cut_38 rfl (lv_at hl 2 rfl) ?_
  refine lv_imul hx hb dX12_cut_39 ?_
  refine lv_iload_n hx hb dX12_cut_40 rfl (lv_at hl 3 rfl) ?_
  refine lv_iadd hx hb dX12_cut_41 ?_
  replace hf := chk_some hf
  obtain ⟨hq, hf⟩ := hf
  refine ml_47 C h hq dX12_cut_42 ?_
  clear hq
  obtain ⟨e1, e2⟩ := pr_inj hf
  subst e1 e2
  exact m_lret C h dX12_cut_43

set_option maxHeartbeats 4000000 in
set_option maxRecDepth 100000 in
theorem qX12_write {l : Launch} {D : va_G} {cs : Nat → ClassId} {ad : Nat → Nat} {r : Int64} {g' : MS} {g : MS}  {a0 : Int32} {a1 : Int32} {a2 : Int64} (hf : fX12_write g a0 a1 a2 = some (r, g')) : GCon l D cs yX12_write cX12_write 5 (some .long) (rM 3) 0 0 [.ref (ad 48), .int a0, .int a1, .long a2] (MW cs ad g) (some (.long r)) (MW cs ad g') := by
  refine GCon.of (by decide) (Nat.le_of_ble_eq_true rfl) ?_
  intro p e s m args below meth c A ls H locs C h hl
  have hx := C.1
  have hb := C.2.1
  have C : MCx p s m args meth c A RX12 cX12_write 5 (some .long) D cs := C
  have hl : lv_has ls 5 [(0, .ref (ad 48)), (1, .int a0), (2, .int a1), (3, .long a2)] := hl
  unfold fX12_write at hf
  refine lv_aload_n hx hb dX12_write_0 rfl (lv_at hl 0 rfl) ?_
  refine lv_aload_n hx hb dX12_write_1 rfl (lv_at hl 0 rfl) ?_
  refine lv_iload_n hx hb dX12_write_2 rfl (lv_at hl 1 rfl) ?_
  replace hf := bndc_some hf
  obtain ⟨x1, g2, hc, hf⟩ := hf
  refine m_callVi [.int a0] C h cv_X12_369 (qX12_trayFault hc) rfl ⟨rfl, rfl⟩ ⟨Nat.le_of_ble_eq_true rfl, Nat.le_of_ble_eq_true rfl⟩ (m_recv C h) hl.1 rfl (Nat.le_of_ble_eq_true rfl) ⟨Nat.le_refl _, Nat.le_refl _⟩ dX12_write_3 (fun H locs h => ?_)
  clear hc
  replace hf := bnd_ex hf
  obtain ⟨g3, eg3, hf⟩ := hf
  refine mp_4 C h dX12_write_6 (fun H locs h => ?_)
  rw [← eg3] at h
  clear eg3
  refine lv_aload_n hx hb dX12_write_9 rfl (lv_at hl 0 rfl) ?_
  refine mg_4 C h dX12_write_10 ?_
  refine lv_if_le (tgt := 18) hx hb dX12_write_13 (by decide) (fun hq => ?_) (fun hq => ?_)
  · replace hf := if_t hq hf
    clear hq
    refine lv_iload_n hx hb dX12_write_18 rfl (lv_at hl 2 rfl) ?_
    refine lv_i2l hx hb dX12_write_19 rfl ?_
    refine lv_lconst (v := (0 : Int64)) hx hb dX12_write_20 rfl ?_
    refine lv_aload_n hx hb dX12_write_21 rfl (lv_at hl 0 rfl) ?_
    refine mg_46 C h dX12_write_22 ?_
    refine lv_iload_n hx hb dX12_write_25 rfl (lv_at hl 1 rfl) ?_
    replace hf := chk_some hf
    obtain ⟨hq, hf⟩ := hf
    refine ml_46 C h hq dX12_write_26 ?_
    clear hq
    refine lv_iconst (v := (1 : Int32)) hx hb dX12_write_27 (by decide) ?_
    refine lv_isub hx hb dX12_write_28 ?_
    refine lv_i2l hx hb dX12_write_29 rfl ?_
    replace hf := bndv_some hf
    obtain ⟨x4, hc, hf⟩ := hf
    refine m_callSi [.long a1.toInt64, .long (0 : Int64), .long (((g3.2.1 46 (ix a0)) - (1 : Int32)).toInt64)] C h cs_X12_147 (qX12_within hc) rfl ⟨rfl, rfl⟩ ⟨Nat.le_of_ble_eq_true rfl, Nat.le_of_ble_eq_true rfl⟩ hl.1 rfl (Nat.le_of_ble_eq_true rfl) ⟨Nat.le_refl _, Nat.le_refl _⟩ dX12_write_30 (fun H locs h => ?_)
    clear hc
    refine lv_if_eq (tgt := 46) hx hb dX12_write_33 (by decide) (fun hq => ?_) (fun hq => ?_)
    · replace hf := if_t hq hf
      clear hq
      refine lv_aload_n hx hb dX12_write_46 rfl (lv_at hl 0 rfl) ?_
      refine lv_iconst (v := (3 : Int32)) hx hb dX12_write_47 (by decide) ?_
      replace hf := bndc_some hf
      obtain ⟨x5, g6, hc, hf⟩ := hf
      refine m_callVi [.int (3 : Int32)] C h cv_X12_239 (qX12_fails hc) rfl ⟨rfl, rfl⟩ ⟨Nat.le_of_ble_eq_true rfl, Nat.le_of_ble_eq_true rfl⟩ (m_recv C h) hl.1 rfl (Nat.le_of_ble_eq_true rfl) ⟨Nat.le_refl _, Nat.le_refl _⟩ dX12_write_48 (fun H locs h => ?_)
      clear hc
      refine lv_i2l hx hb dX12_write_51 rfl ?_
      obtain ⟨e1, e2⟩ := pr_inj hf
      subst e1 e2
      exact m_lret C h dX12_write_52
    · replace hf := if_f hq hf
      clear hq
      refine lv_aload_n hx hb dX12_write_36 rfl (lv_at hl 0 rfl) ?_
      refine lv_iload_n hx hb dX12_write_37 rfl (lv_at hl 1 rfl) ?_
      refine lv_iload_n hx hb dX12_write_38 rfl (lv_at hl 2 rfl) ?_
      refine lv_lload_n hx hb dX12_write_39 rfl (lv_at hl 3 rfl) ?_
      replace hf := bndc_some hf
      obtain ⟨x7, g8, hc, hf⟩ := hf
      refine m_callVl [.int a0, .int a1, .long a2] C h cv_X12_528 (qX12_cut hc) rfl ⟨rfl, rfl⟩ ⟨Nat.le_of_ble_eq_true rfl, Nat.le_of_ble_eq_true rfl⟩ (m_recv C h) hl.1 rfl (Nat.le_of_ble_eq_true rfl) ⟨Nat.le_refl _, Nat.le_refl _⟩ dX12_write_40 (fun H locs h => ?_)
      clear hc
      refine lv_goto (tgt := 52) hx hb dX12_write_43 (by decide) ?_
      obtain ⟨e1, e2⟩ := pr_inj hf
      subst e1 e2
      exact m_lret C h dX12_write_52
  · replace hf := if_f hq hf
    clear hq
    refine lv_lconst (v := (0 : Int64)) hx hb dX12_write_16 rfl ?_
    obtain ⟨e1, e2⟩ := pr_inj hf
    subst e1 e2
    exact m_lret C h dX12_write_17

set_option maxHeartbeats 4000000 in
set_option maxRecDepth 100000 in
theorem wX12_copy_59 (C : MCx p s m args meth c A RX12 cX12_copy 5 (some .int) D cs)  {r : Int32} {g' : MS}  : ∀ (n : Nat) (g : MS) (y1 : Int32) (y3 : Int32) (y4 : Int32), fX12_copy_59 n g y1 y3 y4 = some (r, g') → ∀ (H : Heap) (locs : List Loc) (ls : Array Slot), MH D (MW cs ad g) A s H locs → lv_has ls 5 [(0, .ref (ad 48)), (1, .int y1), (3, .int y3), (4, .int y4)] → W p l e (rM 8) s m args below meth c H locs 0 0 (MQ below (GPost D (some (.int r)) (MW cs ad g') A) args s 0 0 A) (F0 m 59 ls []) := by
  have hx := C.1
  have hb := C.2.1
  intro n
  induction n with
  | zero =>
    intro g y1 y3 y4 hf
    exact absurd hf (by simp [fX12_copy_59])
  | succ n ih =>
    intro g y1 y3 y4 hf H locs ls h hl
    rw [fX12_copy_59] at hf
    refine lv_iload hx hb dX12_copy_59 (lv_at hl 3 rfl) ?_
    refine lv_iload_n hx hb dX12_copy_61 rfl (lv_at hl 2 rfl) ?_
    refine lv_icmp_ge (tgt := 87) hx hb dX12_copy_62 (by decide) (fun hq => ?_) (fun hq => ?_)
    · replace hf := if_t hq hf
      clear hq
      refine lv_iload_n hx hb dX12_copy_87 rfl (lv_at hl 2 rfl) ?_
      obtain ⟨e1, e2⟩ := pr_inj hf
      subst e1 e2
      exact m_iret C h dX12_copy_88
    · replace hf := if_f hq hf
      clear hq
      refine lv_aload_n hx hb dX12_copy_65 rfl (lv_at hl 0 rfl) ?_
      refine lv_iload_n hx hb dX12_copy_66 rfl (lv_at hl 1 rfl) ?_
      refine lv_iload hx hb dX12_copy_67 (lv_at hl 3 rfl) ?_
      refine lv_aload_n hx hb dX12_copy_69 rfl (lv_at hl 0 rfl) ?_
      refine mg_21 C h dX12_copy_70 ?_
      refine lv_iload hx hb dX12_copy_73 (lv_at hl 3 rfl) ?_
      replace hf := chk_some hf
      obtain ⟨hq, hf⟩ := hf
      refine ml_21 C h hq dX12_copy_75 ?_
      clear hq
      refine lv_i2l hx hb dX12_copy_76 rfl ?_
      replace hf := bndc_some hf
      obtain ⟨x1, g2, hc, hf⟩ := hf
      refine m_callVl [.int y1, .int y4, .long ((g.2.1 21 (ix y4)).toInt64)] C h cv_X12_528 (qX12_cut hc) rfl ⟨rfl, rfl⟩ ⟨Nat.le_of_ble_eq_true rfl, Nat.le_of_ble_eq_true rfl⟩ (m_recv C h) hl.1 rfl (Nat.le_of_ble_eq_true rfl) ⟨Nat.le_refl _, Nat.le_refl _⟩ dX12_copy_77 (fun H locs h => ?_)
      clear hc
      refine lv_pop2_2 hx hb dX12_copy_80 rfl ?_
      obtain ⟨x3, ex3⟩ : ∃ z : Int32, z = y4 + (1 : Int32) := ⟨_, rfl⟩
      replace hf := bnd_at ex3 hf
      refine lv_iinc (v := x3) (lv' := [(4, .int x3), (0, .ref (ad 48)), (1, .int y1), (3, .int y3)]) hx hb dX12_copy_81 hl (k := 3) rfl (by rw [ex3]; rfl) (by decide) rfl (fun ls hl => ?_)
      clear ex3
      refine lv_goto (tgt := 59) hx hb dX12_copy_84 (by decide) ?_
      exact ih g2 y1 y3 x3 hf H locs ls h (lv_sub hl [1, 2, 3, 0] rfl)

set_option maxHeartbeats 4000000 in
set_option maxRecDepth 100000 in
theorem wX12_copy_28 (C : MCx p s m args meth c A RX12 cX12_copy 5 (some .int) D cs)  {r : Int32} {g' : MS}  : ∀ (g : MS) (y1 : Int32) (y2 : Int32), fX12_copy_28 g y1 y2 = some (r, g') → ∀ (H : Heap) (locs : List Loc) (ls : Array Slot), MH D (MW cs ad g) A s H locs → lv_has ls 5 [(0, .ref (ad 48)), (1, .int y1), (2, .int y2)] → W p l e (rM 8) s m args below meth c H locs 0 0 (MQ below (GPost D (some (.int r)) (MW cs ad g') A) args s 0 0 A) (F0 m 28 ls []) := by
  have hx := C.1
  have hb := C.2.1
  intro g y1 y2 hf H locs ls h hl
  unfold fX12_copy_28 at hf
  refine lv_aload_n hx hb dX12_copy_28 rfl (lv_at hl 0 rfl) ?_
  refine mg_4 C h dX12_copy_29 ?_
  refine lv_if_le (tgt := 37) hx hb dX12_copy_32 (by decide) (fun hq => ?_) (fun hq => ?_)
  · replace hf := if_t hq hf
    clear hq
    refine lv_aload_n hx hb dX12_copy_37 rfl (lv_at hl 0 rfl) ?_
    refine lv_iload_n hx hb dX12_copy_38 rfl (lv_at hl 2 rfl) ?_
    replace hf := bndv_some hf
    obtain ⟨g4, hc, hf⟩ := hf
    refine m_callVv [.int y2] C h cv_X12_500 (qX12_aimsIn hc) rfl ⟨rfl, rfl⟩ ⟨Nat.le_of_ble_eq_true rfl, Nat.le_of_ble_eq_true rfl⟩ (m_recv C h) hl.1 rfl (Nat.le_of_ble_eq_true rfl) ⟨Nat.le_refl _, Nat.le_refl _⟩ dX12_copy_39 (fun H locs h => ?_)
    clear hc
    refine lv_aload_n hx hb dX12_copy_42 rfl (lv_at hl 0 rfl) ?_
    refine mg_46 C h dX12_copy_43 ?_
    refine lv_iload_n hx hb dX12_copy_46 rfl (lv_at hl 1 rfl) ?_
    replace hf := chk_some hf
    obtain ⟨hq, hf⟩ := hf
    refine ml_46 C h hq dX12_copy_47 ?_
    clear hq
    refine lv_aload_n hx hb dX12_copy_48 rfl (lv_at hl 0 rfl) ?_
    replace hf := bndc_some hf
    obtain ⟨x5, g6, hc, hf⟩ := hf
    refine m_callVi [] C h cv_X12_254 (qX12_size hc) rfl ⟨rfl, rfl⟩ ⟨Nat.le_of_ble_eq_true rfl, Nat.le_of_ble_eq_true rfl⟩ (m_recv C h) hl.1 rfl (Nat.le_of_ble_eq_true rfl) ⟨Nat.le_refl _, Nat.le_refl _⟩ dX12_copy_49 (fun H locs h => ?_)
    clear hc
    refine x_min tb_29_20 C hl.1 (Nat.le_of_ble_eq_true rfl) (Nat.le_of_ble_eq_true rfl) (Nat.le_refl _) (Nat.le_refl _) dX12_copy_52 ?_
    refine lv_topi (fun x7 ex7 => ?_)
    replace hf := bnd_at ex7 hf
    clear ex7
    refine lv_istore_n (lv' := [(3, .int x7), (0, .ref (ad 48)), (1, .int y1), (2, .int y2)]) hx hb dX12_copy_55 rfl hl (by decide) rfl (fun ls hl => ?_)
    refine lv_iconst (v := (0 : Int32)) hx hb dX12_copy_56 (by decide) ?_
    refine lv_istore (lv' := [(4, .int (0 : Int32)), (3, .int x7), (0, .ref (ad 48)), (1, .int y1), (2, .int y2)]) hx hb dX12_copy_57 hl (by decide) rfl (fun ls hl => ?_)
    exact wX12_copy_59 C fuel g6 y1 x7 (0 : Int32) hf H locs ls h (lv_sub hl [2, 3, 1, 0] rfl)
  · replace hf := if_f hq hf
    clear hq
    refine lv_iconst (v := (0 : Int32)) hx hb dX12_copy_35 (by decide) ?_
    obtain ⟨e1, e2⟩ := pr_inj hf
    subst e1 e2
    exact m_iret C h dX12_copy_36

set_option maxHeartbeats 4000000 in
set_option maxRecDepth 100000 in
theorem qX12_copy {l : Launch} {D : va_G} {cs : Nat → ClassId} {ad : Nat → Nat} {r : Int32} {g' : MS} {g : MS}  {a0 : Int32} {a1 : Int32} (hf : fX12_copy g a0 a1 = some (r, g')) : GCon l D cs yX12_copy cX12_copy 5 (some .int) (rM 8) 0 0 [.ref (ad 48), .int a0, .int a1] (MW cs ad g) (some (.int r)) (MW cs ad g') := by
  refine GCon.of (by decide) (Nat.le_of_ble_eq_true rfl) ?_
  intro p e s m args below meth c A ls H locs C h hl
  have hx := C.1
  have hb := C.2.1
  have C : MCx p s m args meth c A RX12 cX12_copy 5 (some .int) D cs := C
  have hl : lv_has ls 5 [(0, .ref (ad 48)), (1, .int a0), (2, .int a1)] := hl
  unfold fX12_copy at hf
  refine lv_aload_n hx hb dX12_copy_0 rfl (lv_at hl 0 rfl) ?_
  refine lv_aload_n hx hb dX12_copy_1 rfl (lv_at hl 0 rfl) ?_
  refine lv_iload_n hx hb dX12_copy_2 rfl (lv_at hl 1 rfl) ?_
  replace hf := bndc_some hf
  obtain ⟨x8, g9, hc, hf⟩ := hf
  refine m_callVi [.int a0] C h cv_X12_369 (qX12_trayFault hc) rfl ⟨rfl, rfl⟩ ⟨Nat.le_of_ble_eq_true rfl, Nat.le_of_ble_eq_true rfl⟩ (m_recv C h) hl.1 rfl (Nat.le_of_ble_eq_true rfl) ⟨Nat.le_refl _, Nat.le_refl _⟩ dX12_copy_3 (fun H locs h => ?_)
  clear hc
  replace hf := bnd_ex hf
  obtain ⟨g10, eg10, hf⟩ := hf
  refine mp_4 C h dX12_copy_6 (fun H locs h => ?_)
  rw [← eg10] at h
  clear eg10
  refine lv_aload_n hx hb dX12_copy_9 rfl (lv_at hl 0 rfl) ?_
  refine mg_4 C h dX12_copy_10 ?_
  refine lv_if_ne (tgt := 28) hx hb dX12_copy_13 (by decide) (fun hq => ?_) (fun hq => ?_)
  · replace hf := if_tn hq hf
    clear hq
    exact wX12_copy_28 C g10 a0 a1 hf H locs ls h (lv_sub hl [0, 1, 2] rfl)
  · replace hf := if_t hq hf
    clear hq
    refine lv_iload_n hx hb dX12_copy_16 rfl (lv_at hl 2 rfl) ?_
    replace hf := bndv_some hf
    obtain ⟨x11, hc, hf⟩ := hf
    refine m_callSi [.int a1] C h cs_X12_497 (qX12_isFar hc) rfl ⟨rfl, rfl⟩ ⟨Nat.le_of_ble_eq_true rfl, Nat.le_of_ble_eq_true rfl⟩ hl.1 rfl (Nat.le_of_ble_eq_true rfl) ⟨Nat.le_refl _, Nat.le_refl _⟩ dX12_copy_17 (fun H locs h => ?_)
    clear hc
    refine lv_if_ne (tgt := 28) hx hb dX12_copy_20 (by decide) (fun hq => ?_) (fun hq => ?_)
    · replace hf := if_tn hq hf
      clear hq
      exact wX12_copy_28 C g10 a0 a1 hf H locs ls h (lv_sub hl [0, 1, 2] rfl)
    · replace hf := if_t hq hf
      clear hq
      refine lv_aload_n hx hb dX12_copy_23 rfl (lv_at hl 0 rfl) ?_
      refine lv_iconst (v := (3 : Int32)) hx hb dX12_copy_24 (by decide) ?_
      replace hf := bnd_ex hf
      obtain ⟨g12, eg12, hf⟩ := hf
      refine mp_4 C h dX12_copy_25 (fun H locs h => ?_)
      rw [← eg12] at h
      clear eg12
      exact wX12_copy_28 C g12 a0 a1 hf H locs ls h (lv_sub hl [0, 1, 2] rfl)

set_option maxHeartbeats 4000000 in
set_option maxRecDepth 100000 in
theorem wX12_image_38 (C : MCx p s m args meth c A RX12 cX12_image 3 none D cs)  {g' : MS}  : ∀ (n : Nat) (g : MS) (y1 : Int32) (y2 : Int32), fX12_image_38 n g y1 y2 = some g' → ∀ (H : Heap) (locs : List Loc) (ls : Array Slot), MH D (MW cs ad g) A s H locs → lv_has ls 3 [(0, .ref (ad 48)), (1, .int y1), (2, .int y2)] → W p l e (rM 1) s m args below meth c H locs 0 0 (MQ below (GPost D none (MW cs ad g') A) args s 0 0 A) (F0 m 38 ls []) := by
  have hx := C.1
  have hb := C.2.1
  intro n
  induction n with
  | zero =>
    intro g y1 y2 hf
    exact absurd hf (by simp [fX12_image_38])
  | succ n ih =>
    intro g y1 y2 hf H locs ls h hl
    rw [fX12_image_38] at hf
    refine lv_iload_n hx hb dX12_image_38 rfl (lv_at hl 2 rfl) ?_
    refine lv_sipush (v := (2850 : Int32)) hx hb dX12_image_39 (by decide) ?_
    refine lv_icmp_ge (tgt := 69) hx hb dX12_image_42 (by decide) (fun hq => ?_) (fun hq => ?_)
    · replace hf := if_t hq hf
      clear hq
      have e1 := Option.some.inj hf
      subst e1
      exact m_vret C h dX12_image_69
    · replace hf := if_f hq hf
      clear hq
      refine lv_aload_n hx hb dX12_image_45 rfl (lv_at hl 0 rfl) ?_
      refine mg_2 C h dX12_image_46 ?_
      refine lv_sipush (v := (2850 : Int32)) hx hb dX12_image_49 (by decide) ?_
      refine lv_iload_n hx hb dX12_image_52 rfl (lv_at hl 1 rfl) ?_
      refine lv_imul hx hb dX12_image_53 ?_
      refine lv_iload_n hx hb dX12_image_54 rfl (lv_at hl 2 rfl) ?_
      refine lv_iadd hx hb dX12_image_55 ?_
      refine lv_aload_n hx hb dX12_image_56 rfl (lv_at hl 0 rfl) ?_
      refine mg_0 C h dX12_image_57 ?_
      refine lv_iload_n hx hb dX12_image_60 rfl (lv_at hl 2 rfl) ?_
      replace hf := chk_some hf
      obtain ⟨hq, hf⟩ := hf
      refine ml_0 C h hq dX12_image_61 ?_
      clear hq
      replace hf := chk_some hf
      obtain ⟨hq, hf⟩ := hf
      replace hf := bnd_ex hf
      obtain ⟨g1, eg1, hf⟩ := hf
      refine ms_2 C h hq dX12_image_62 (fun H locs h => ?_)
      rw [← eg1] at h
      clear hq eg1
      obtain ⟨x2, ex2⟩ : ∃ z : Int32, z = y2 + (1 : Int32) := ⟨_, rfl⟩
      replace hf := bnd_at ex2 hf
      refine lv_iinc (v := x2) (lv' := [(2, .int x2), (0, .ref (ad 48)), (1, .int y1)]) hx hb dX12_image_63 hl (k := 2) rfl (by rw [ex2]; rfl) (by decide) rfl (fun ls hl => ?_)
      clear ex2
      refine lv_goto (tgt := 38) hx hb dX12_image_66 (by decide) ?_
      exact ih g1 y1 x2 hf H locs ls h (lv_sub hl [1, 2, 0] rfl)

set_option maxHeartbeats 4000000 in
set_option maxRecDepth 100000 in
theorem wX12_image_18 (C : MCx p s m args meth c A RX12 cX12_image 3 none D cs)  {g' : MS}  : ∀ (g : MS) (y1 : Int32) (t1 : Int32), fX12_image_18 g y1 t1 = some g' → ∀ (H : Heap) (locs : List Loc) (ls : Array Slot), MH D (MW cs ad g) A s H locs → lv_has ls 3 [(0, .ref (ad 48)), (1, .int y1)] → W p l e (rM 1) s m args below meth c H locs 0 0 (MQ below (GPost D none (MW cs ad g') A) args s 0 0 A) (F0 m 18 ls [.int t1, .ref (ad 48)]) := by
  have hx := C.1
  have hb := C.2.1
  intro g y1 t1 hf H locs ls h hl
  unfold fX12_image_18 at hf
  replace hf := bnd_ex hf
  obtain ⟨g3, eg3, hf⟩ := hf
  refine mp_4 C h dX12_image_18 (fun H locs h => ?_)
  rw [← eg3] at h
  clear eg3
  refine lv_aload_n hx hb dX12_image_21 rfl (lv_at hl 0 rfl) ?_
  refine mg_4 C h dX12_image_22 ?_
  refine lv_if_le (tgt := 29) hx hb dX12_image_25 (by decide) (fun hq => ?_) (fun hq => ?_)
  · replace hf := if_t hq hf
    clear hq
    refine lv_aload_n hx hb dX12_image_29 rfl (lv_at hl 0 rfl) ?_
    refine mg_3 C h dX12_image_30 ?_
    refine lv_iload_n hx hb dX12_image_33 rfl (lv_at hl 1 rfl) ?_
    refine lv_iconst (v := (1 : Int32)) hx hb dX12_image_34 (by decide) ?_
    replace hf := chk_some hf
    obtain ⟨hq, hf⟩ := hf
    replace hf := bnd_ex hf
    obtain ⟨g4, eg4, hf⟩ := hf
    refine ms_3 C h hq rfl dX12_image_35 (fun H locs h => ?_)
    rw [← eg4] at h
    clear hq eg4
    refine lv_iconst (v := (0 : Int32)) hx hb dX12_image_36 (by decide) ?_
    refine lv_istore_n (lv' := [(2, .int (0 : Int32)), (0, .ref (ad 48)), (1, .int y1)]) hx hb dX12_image_37 rfl hl (by decide) rfl (fun ls hl => ?_)
    exact wX12_image_38 C fuel g4 y1 (0 : Int32) hf H locs ls h (lv_sub hl [1, 2, 0] rfl)
  · replace hf := if_f hq hf
    clear hq
    have e1 := Option.some.inj hf
    subst e1
    exact m_vret C h dX12_image_28

set_option maxHeartbeats 4000000 in
set_option maxRecDepth 100000 in
theorem qX12_image {l : Launch} {D : va_G} {cs : Nat → ClassId} {ad : Nat → Nat} {g' : MS} {g : MS}  {a0 : Int32} (hf : fX12_image g a0 = some g') : GCon l D cs yX12_image cX12_image 3 none (rM 1) 0 0 [.ref (ad 48), .int a0] (MW cs ad g) none (MW cs ad g') := by
  refine GCon.of (by decide) (Nat.le_of_ble_eq_true rfl) ?_
  intro p e s m args below meth c A ls H locs C h hl
  have hx := C.1
  have hb := C.2.1
  have C : MCx p s m args meth c A RX12 cX12_image 3 none D cs := C
  have hl : lv_has ls 3 [(0, .ref (ad 48)), (1, .int a0)] := hl
  unfold fX12_image at hf
  refine lv_aload_n hx hb dX12_image_0 rfl (lv_at hl 0 rfl) ?_
  refine lv_iload_n hx hb dX12_image_1 rfl (lv_at hl 1 rfl) ?_
  refine lv_i2l hx hb dX12_image_2 rfl ?_
  refine lv_lconst (v := (0 : Int64)) hx hb dX12_image_3 rfl ?_
  refine lv_ldc2 hx hb C.2.2.2.1 (C.2.2.2.2.1 _ tb_70_6) dX12_image_4 ?_
  replace hf := bndv_some hf
  obtain ⟨x5, hc, hf⟩ := hf
  refine m_callSi [.long a0.toInt64, .long (0 : Int64), .long (2 : Int64)] C h cs_X12_147 (qX12_within hc) rfl ⟨rfl, rfl⟩ ⟨Nat.le_of_ble_eq_true rfl, Nat.le_of_ble_eq_true rfl⟩ hl.1 rfl (Nat.le_of_ble_eq_true rfl) ⟨Nat.le_refl _, Nat.le_refl _⟩ dX12_image_7 (fun H locs h => ?_)
  clear hc
  refine lv_if_eq (tgt := 17) hx hb dX12_image_10 (by decide) (fun hq => ?_) (fun hq => ?_)
  · replace hf := if_t hq hf
    clear hq
    refine lv_iconst (v := (1 : Int32)) hx hb dX12_image_17 (by decide) ?_
    exact wX12_image_18 C g a0 (1 : Int32) hf H locs ls h (lv_sub hl [0, 1] rfl)
  · replace hf := if_f hq hf
    clear hq
    refine lv_iconst (v := (0 : Int32)) hx hb dX12_image_13 (by decide) ?_
    refine lv_goto (tgt := 18) hx hb dX12_image_14 (by decide) ?_
    exact wX12_image_18 C g a0 (0 : Int32) hf H locs ls h (lv_sub hl [0, 1] rfl)

set_option maxHeartbeats 4000000 in
set_option maxRecDepth 100000 in
theorem wX12_restore_44 (C : MCx p s m args meth c A RX12 cX12_restore 3 none D cs)  {g' : MS}  : ∀ (n : Nat) (g : MS) (y1 : Int32) (y2 : Int32), fX12_restore_44 n g y1 y2 = some g' → ∀ (H : Heap) (locs : List Loc) (ls : Array Slot), MH D (MW cs ad g) A s H locs → lv_has ls 3 [(0, .ref (ad 48)), (1, .int y1), (2, .int y2)] → W p l e (rM 1) s m args below meth c H locs 0 0 (MQ below (GPost D none (MW cs ad g') A) args s 0 0 A) (F0 m 44 ls []) := by
  have hx := C.1
  have hb := C.2.1
  intro n
  induction n with
  | zero =>
    intro g y1 y2 hf
    exact absurd hf (by simp [fX12_restore_44])
  | succ n ih =>
    intro g y1 y2 hf H locs ls h hl
    rw [fX12_restore_44] at hf
    refine lv_iload_n hx hb dX12_restore_44 rfl (lv_at hl 2 rfl) ?_
    refine lv_sipush (v := (2850 : Int32)) hx hb dX12_restore_45 (by decide) ?_
    refine lv_icmp_ge (tgt := 75) hx hb dX12_restore_48 (by decide) (fun hq => ?_) (fun hq => ?_)
    · replace hf := if_t hq hf
      clear hq
      have e1 := Option.some.inj hf
      subst e1
      exact m_vret C h dX12_restore_75
    · replace hf := if_f hq hf
      clear hq
      refine lv_aload_n hx hb dX12_restore_51 rfl (lv_at hl 0 rfl) ?_
      refine mg_0 C h dX12_restore_52 ?_
      refine lv_iload_n hx hb dX12_restore_55 rfl (lv_at hl 2 rfl) ?_
      refine lv_aload_n hx hb dX12_restore_56 rfl (lv_at hl 0 rfl) ?_
      refine mg_2 C h dX12_restore_57 ?_
      refine lv_sipush (v := (2850 : Int32)) hx hb dX12_restore_60 (by decide) ?_
      refine lv_iload_n hx hb dX12_restore_63 rfl (lv_at hl 1 rfl) ?_
      refine lv_imul hx hb dX12_restore_64 ?_
      refine lv_iload_n hx hb dX12_restore_65 rfl (lv_at hl 2 rfl) ?_
      refine lv_iadd hx hb dX12_restore_66 ?_
      replace hf := chk_some hf
      obtain ⟨hq, hf⟩ := hf
      refine ml_2 C h hq dX12_restore_67 ?_
      clear hq
      replace hf := chk_some hf
      obtain ⟨hq, hf⟩ := hf
      replace hf := bnd_ex hf
      obtain ⟨g1, eg1, hf⟩ := hf
      refine ms_0 C h hq dX12_restore_68 (fun H locs h => ?_)
      rw [← eg1] at h
      clear hq eg1
      obtain ⟨x2, ex2⟩ : ∃ z : Int32, z = y2 + (1 : Int32) := ⟨_, rfl⟩
      replace hf := bnd_at ex2 hf
      refine lv_iinc (v := x2) (lv' := [(2, .int x2), (0, .ref (ad 48)), (1, .int y1)]) hx hb dX12_restore_69 hl (k := 2) rfl (by rw [ex2]; rfl) (by decide) rfl (fun ls hl => ?_)
      clear ex2
      refine lv_goto (tgt := 44) hx hb dX12_restore_72 (by decide) ?_
      exact ih g1 y1 x2 hf H locs ls h (lv_sub hl [1, 2, 0] rfl)

set_option maxHeartbeats 4000000 in
set_option maxRecDepth 100000 in
theorem wX12_restore_31 (C : MCx p s m args meth c A RX12 cX12_restore 3 none D cs)  {g' : MS}  : ∀ (g : MS) (y1 : Int32) (t1 : Int32), fX12_restore_31 g y1 t1 = some g' → ∀ (H : Heap) (locs : List Loc) (ls : Array Slot), MH D (MW cs ad g) A s H locs → lv_has ls 3 [(0, .ref (ad 48)), (1, .int y1)] → W p l e (rM 1) s m args below meth c H locs 0 0 (MQ below (GPost D none (MW cs ad g') A) args s 0 0 A) (F0 m 31 ls [.int t1, .ref (ad 48)]) := by
  have hx := C.1
  have hb := C.2.1
  intro g y1 t1 hf H locs ls h hl
  unfold fX12_restore_31 at hf
  replace hf := bnd_ex hf
  obtain ⟨g3, eg3, hf⟩ := hf
  refine mp_4 C h dX12_restore_31 (fun H locs h => ?_)
  rw [← eg3] at h
  clear eg3
  refine lv_aload_n hx hb dX12_restore_34 rfl (lv_at hl 0 rfl) ?_
  refine mg_4 C h dX12_restore_35 ?_
  refine lv_if_le (tgt := 42) hx hb dX12_restore_38 (by decide) (fun hq => ?_) (fun hq => ?_)
  · replace hf := if_t hq hf
    clear hq
    refine lv_iconst (v := (0 : Int32)) hx hb dX12_restore_42 (by decide) ?_
    refine lv_istore_n (lv' := [(2, .int (0 : Int32)), (0, .ref (ad 48)), (1, .int y1)]) hx hb dX12_restore_43 rfl hl (by decide) rfl (fun ls hl => ?_)
    exact wX12_restore_44 C fuel g3 y1 (0 : Int32) hf H locs ls h (lv_sub hl [1, 2, 0] rfl)
  · replace hf := if_f hq hf
    clear hq
    have e1 := Option.some.inj hf
    subst e1
    exact m_vret C h dX12_restore_41

set_option maxHeartbeats 4000000 in
set_option maxRecDepth 100000 in
theorem qX12_restore {l : Launch} {D : va_G} {cs : Nat → ClassId} {ad : Nat → Nat} {g' : MS} {g : MS}  {a0 : Int32} (hf : fX12_restore g a0 = some g') : GCon l D cs yX12_restore cX12_restore 3 none (rM 1) 0 0 [.ref (ad 48), .int a0] (MW cs ad g) none (MW cs ad g') := by
  refine GCon.of (by decide) (Nat.le_of_ble_eq_true rfl) ?_
  intro p e s m args below meth c A ls H locs C h hl
  have hx := C.1
  have hb := C.2.1
  have C : MCx p s m args meth c A RX12 cX12_restore 3 none D cs := C
  have hl : lv_has ls 3 [(0, .ref (ad 48)), (1, .int a0)] := hl
  unfold fX12_restore at hf
  refine lv_aload_n hx hb dX12_restore_0 rfl (lv_at hl 0 rfl) ?_
  refine lv_iload_n hx hb dX12_restore_1 rfl (lv_at hl 1 rfl) ?_
  refine lv_i2l hx hb dX12_restore_2 rfl ?_
  refine lv_lconst (v := (0 : Int64)) hx hb dX12_restore_3 rfl ?_
  refine lv_ldc2 hx hb C.2.2.2.1 (C.2.2.2.2.1 _ tb_70_6) dX12_restore_4 ?_
  replace hf := bndv_some hf
  obtain ⟨x4, hc, hf⟩ := hf
  refine m_callSi [.long a0.toInt64, .long (0 : Int64), .long (2 : Int64)] C h cs_X12_147 (qX12_within hc) rfl ⟨rfl, rfl⟩ ⟨Nat.le_of_ble_eq_true rfl, Nat.le_of_ble_eq_true rfl⟩ hl.1 rfl (Nat.le_of_ble_eq_true rfl) ⟨Nat.le_refl _, Nat.le_refl _⟩ dX12_restore_7 (fun H locs h => ?_)
  clear hc
  refine lv_if_ne (tgt := 17) hx hb dX12_restore_10 (by decide) (fun hq => ?_) (fun hq => ?_)
  · replace hf := if_tn hq hf
    clear hq
    refine lv_aload_n hx hb dX12_restore_17 rfl (lv_at hl 0 rfl) ?_
    refine mg_3 C h dX12_restore_18 ?_
    refine lv_iload_n hx hb dX12_restore_21 rfl (lv_at hl 1 rfl) ?_
    replace hf := chk_some hf
    obtain ⟨hq, hf⟩ := hf
    refine ml_3 C h hq dX12_restore_22 ?_
    clear hq
    refine lv_if_ne (tgt := 30) hx hb dX12_restore_23 (by decide) (fun hq => ?_) (fun hq => ?_)
    · replace hf := if_tn hq hf
      clear hq
      refine lv_iconst (v := (0 : Int32)) hx hb dX12_restore_30 (by decide) ?_
      exact wX12_restore_31 C g a0 (0 : Int32) hf H locs ls h (lv_sub hl [0, 1] rfl)
    · replace hf := if_t hq hf
      clear hq
      refine lv_iconst (v := (2 : Int32)) hx hb dX12_restore_26 (by decide) ?_
      refine lv_goto (tgt := 31) hx hb dX12_restore_27 (by decide) ?_
      exact wX12_restore_31 C g a0 (2 : Int32) hf H locs ls h (lv_sub hl [0, 1] rfl)
  · replace hf := if_t hq hf
    clear hq
    refine lv_iconst (v := (1 : Int32)) hx hb dX12_restore_13 (by decide) ?_
    refine lv_goto (tgt := 31) hx hb dX12_restore_14 (by decide) ?_
    exact wX12_restore_31 C g a0 (1 : Int32) hf H locs ls h (lv_sub hl [0, 1] rfl)

set_option maxHeartbeats 4000000 in
set_option maxRecDepth 100000 in
theorem wX12_outs_32 (C : MCx p s m args meth c A RX12 cX12_outs 3 (some .int) D cs)  {r : Int32} {g' : MS}  {k4 : MS → Int32 → Int32 → Option (Int32 × MS)} (hk4 : ∀ (g : MS) (y1 : Int32) (y2 : Int32), k4 g y1 y2 = some (r, g') → ∀ (H : Heap) (locs : List Loc) (ls : Array Slot), MH D (MW cs ad g) A s H locs → lv_has ls 3 [(0, .ref (ad 48)), (1, .int y1), (2, .int y2)] → W p l e (rM 1) s m args below meth c H locs 0 0 (MQ below (GPost D (some (.int r)) (MW cs ad g') A) args s 0 0 A) (F0 m 4 ls [])) : ∀ (g : MS) (y2 : Int32) (t0 : Int32) (t1 : Int32), fX12_outs_32 k4 g y2 t0 t1 = some (r, g') → ∀ (H : Heap) (locs : List Loc) (ls : Array Slot), MH D (MW cs ad g) A s H locs → lv_has ls 3 [(0, .ref (ad 48)), (2, .int y2)] → W p l e (rM 1) s m args below meth c H locs 0 0 (MQ below (GPost D (some (.int r)) (MW cs ad g') A) args s 0 0 A) (F0 m 32 ls [.int t1, .int t0]) := by
  have hx := C.1
  have hb := C.2.1
  intro g y2 t0 t1 hf H locs ls h hl
  unfold fX12_outs_32 at hf
  refine lv_ior hx hb dX12_outs_32 ?_
  refine lv_topi (fun x1 ex1 => ?_)
  replace hf := bnd_at ex1 hf
  clear ex1
  refine lv_istore_n (lv' := [(1, .int x1), (0, .ref (ad 48)), (2, .int y2)]) hx hb dX12_outs_33 rfl hl (by decide) rfl (fun ls hl => ?_)
  obtain ⟨x2, ex2⟩ : ∃ z : Int32, z = y2 + (1 : Int32) := ⟨_, rfl⟩
  replace hf := bnd_at ex2 hf
  refine lv_iinc (v := x2) (lv' := [(2, .int x2), (1, .int x1), (0, .ref (ad 48))]) hx hb dX12_outs_34 hl (k := 2) rfl (by rw [ex2]; rfl) (by decide) rfl (fun ls hl => ?_)
  clear ex2
  refine lv_goto (tgt := 4) hx hb dX12_outs_37 (by decide) ?_
  exact hk4 g x1 x2 hf H locs ls h (lv_sub hl [2, 1, 0] rfl)

set_option maxHeartbeats 4000000 in
set_option maxRecDepth 100000 in
theorem wX12_outs_4 (C : MCx p s m args meth c A RX12 cX12_outs 3 (some .int) D cs)  {r : Int32} {g' : MS}  : ∀ (n : Nat) (g : MS) (y1 : Int32) (y2 : Int32), fX12_outs_4 n g y1 y2 = some (r, g') → ∀ (H : Heap) (locs : List Loc) (ls : Array Slot), MH D (MW cs ad g) A s H locs → lv_has ls 3 [(0, .ref (ad 48)), (1, .int y1), (2, .int y2)] → W p l e (rM 1) s m args below meth c H locs 0 0 (MQ below (GPost D (some (.int r)) (MW cs ad g') A) args s 0 0 A) (F0 m 4 ls []) := by
  have hx := C.1
  have hb := C.2.1
  intro n
  induction n with
  | zero =>
    intro g y1 y2 hf
    exact absurd hf (by simp [fX12_outs_4])
  | succ n ih =>
    intro g y1 y2 hf H locs ls h hl
    rw [fX12_outs_4] at hf
    refine lv_iload_n hx hb dX12_outs_4 rfl (lv_at hl 2 rfl) ?_
    refine lv_aload_n hx hb dX12_outs_5 rfl (lv_at hl 0 rfl) ?_
    replace hf := bndc_some hf
    obtain ⟨x3, g4, hc, hf⟩ := hf
    refine m_callVi [] C h cv_X12_254 (qX12_size hc) rfl ⟨rfl, rfl⟩ ⟨Nat.le_of_ble_eq_true rfl, Nat.le_of_ble_eq_true rfl⟩ (m_recv C h) hl.1 rfl (Nat.le_of_ble_eq_true rfl) ⟨Nat.le_refl _, Nat.le_refl _⟩ dX12_outs_6 (fun H locs h => ?_)
    clear hc
    refine lv_icmp_ge (tgt := 40) hx hb dX12_outs_9 (by decide) (fun hq => ?_) (fun hq => ?_)
    · replace hf := if_t hq hf
      clear hq
      refine lv_iload_n hx hb dX12_outs_40 rfl (lv_at hl 1 rfl) ?_
      obtain ⟨e1, e2⟩ := pr_inj hf
      subst e1 e2
      exact m_iret C h dX12_outs_41
    · replace hf := if_f hq hf
      clear hq
      refine lv_iload_n hx hb dX12_outs_12 rfl (lv_at hl 1 rfl) ?_
      refine lv_aload_n hx hb dX12_outs_13 rfl (lv_at hl 0 rfl) ?_
      refine mg_0 C h dX12_outs_14 ?_
      refine lv_bipush (v := (6 : Int32)) hx hb dX12_outs_17 (by decide) ?_
      refine lv_iload_n hx hb dX12_outs_19 rfl (lv_at hl 2 rfl) ?_
      refine lv_iadd hx hb dX12_outs_20 ?_
      replace hf := chk_some hf
      obtain ⟨hq, hf⟩ := hf
      refine ml_0 C h hq dX12_outs_21 ?_
      clear hq
      refine lv_if_ne (tgt := 31) hx hb dX12_outs_22 (by decide) (fun hq => ?_) (fun hq => ?_)
      · replace hf := if_tn hq hf
        clear hq
        refine lv_iconst (v := (0 : Int32)) hx hb dX12_outs_31 (by decide) ?_
        exact wX12_outs_32 C ih g4 y2 y1 (0 : Int32) hf H locs ls h (lv_sub hl [0, 2] rfl)
      · replace hf := if_t hq hf
        clear hq
        refine lv_iconst (v := (1 : Int32)) hx hb dX12_outs_25 (by decide) ?_
        refine lv_iload_n hx hb dX12_outs_26 rfl (lv_at hl 2 rfl) ?_
        refine x_ishl hx hb dX12_outs_27 ?_
        refine lv_goto (tgt := 32) hx hb dX12_outs_28 (by decide) ?_
        exact wX12_outs_32 C ih g4 y2 y1 (jshl (1 : Int32) y2) hf H locs ls h (lv_sub hl [0, 2] rfl)

set_option maxHeartbeats 4000000 in
set_option maxRecDepth 100000 in
theorem qX12_outs {l : Launch} {D : va_G} {cs : Nat → ClassId} {ad : Nat → Nat} {r : Int32} {g' : MS} {g : MS}  (hf : fX12_outs g = some (r, g')) : GCon l D cs yX12_outs cX12_outs 3 (some .int) (rM 1) 0 0 [.ref (ad 48)] (MW cs ad g) (some (.int r)) (MW cs ad g') := by
  refine GCon.of (by decide) (Nat.le_of_ble_eq_true rfl) ?_
  intro p e s m args below meth c A ls H locs C h hl
  have hx := C.1
  have hb := C.2.1
  have C : MCx p s m args meth c A RX12 cX12_outs 3 (some .int) D cs := C
  have hl : lv_has ls 3 [(0, .ref (ad 48))] := hl
  unfold fX12_outs at hf
  refine lv_iconst (v := (0 : Int32)) hx hb dX12_outs_0 (by decide) ?_
  refine lv_istore_n (lv' := [(1, .int (0 : Int32)), (0, .ref (ad 48))]) hx hb dX12_outs_1 rfl hl (by decide) rfl (fun ls hl => ?_)
  refine lv_iconst (v := (0 : Int32)) hx hb dX12_outs_2 (by decide) ?_
  refine lv_istore_n (lv' := [(2, .int (0 : Int32)), (1, .int (0 : Int32)), (0, .ref (ad 48))]) hx hb dX12_outs_3 rfl hl (by decide) rfl (fun ls hl => ?_)
  exact wX12_outs_4 C fuel g (0 : Int32) (0 : Int32) hf H locs ls h (lv_sub hl [2, 1, 0] rfl)

set_option maxHeartbeats 4000000 in
set_option maxRecDepth 100000 in
theorem wX12_weights_4 (C : MCx p s m args meth c A RX12 cX12_weights 3 (some .int) D cs)  {r : Int32} {g' : MS}  : ∀ (n : Nat) (g : MS) (y1 : Int32) (y2 : Int32), fX12_weights_4 n g y1 y2 = some (r, g') → ∀ (H : Heap) (locs : List Loc) (ls : Array Slot), MH D (MW cs ad g) A s H locs → lv_has ls 3 [(0, .ref (ad 48)), (1, .int y1), (2, .int y2)] → W p l e (rM 1) s m args below meth c H locs 0 0 (MQ below (GPost D (some (.int r)) (MW cs ad g') A) args s 0 0 A) (F0 m 4 ls []) := by
  have hx := C.1
  have hb := C.2.1
  intro n
  induction n with
  | zero =>
    intro g y1 y2 hf
    exact absurd hf (by simp [fX12_weights_4])
  | succ n ih =>
    intro g y1 y2 hf H locs ls h hl
    rw [fX12_weights_4] at hf
    refine lv_iload_n hx hb dX12_weights_4 rfl (lv_at hl 2 rfl) ?_
    refine lv_aload_n hx hb dX12_weights_5 rfl (lv_at hl 0 rfl) ?_
    replace hf := bndc_some hf
    obtain ⟨x1, g2, hc, hf⟩ := hf
    refine m_callVi [] C h cv_X12_254 (qX12_size hc) rfl ⟨rfl, rfl⟩ ⟨Nat.le_of_ble_eq_true rfl, Nat.le_of_ble_eq_true rfl⟩ (m_recv C h) hl.1 rfl (Nat.le_of_ble_eq_true rfl) ⟨Nat.le_refl _, Nat.le_refl _⟩ dX12_weights_6 (fun H locs h => ?_)
    clear hc
    refine lv_icmp_ge (tgt := 30) hx hb dX12_weights_9 (by decide) (fun hq => ?_) (fun hq => ?_)
    · replace hf := if_t hq hf
      clear hq
      refine lv_iload_n hx hb dX12_weights_30 rfl (lv_at hl 1 rfl) ?_
      obtain ⟨e1, e2⟩ := pr_inj hf
      subst e1 e2
      exact m_iret C h dX12_weights_31
    · replace hf := if_f hq hf
      clear hq
      refine lv_iload_n hx hb dX12_weights_12 rfl (lv_at hl 1 rfl) ?_
      refine lv_aload_n hx hb dX12_weights_13 rfl (lv_at hl 0 rfl) ?_
      refine mg_0 C h dX12_weights_14 ?_
      refine lv_bipush (v := (12 : Int32)) hx hb dX12_weights_17 (by decide) ?_
      refine lv_iload_n hx hb dX12_weights_19 rfl (lv_at hl 2 rfl) ?_
      refine lv_iadd hx hb dX12_weights_20 ?_
      replace hf := chk_some hf
      obtain ⟨hq, hf⟩ := hf
      refine ml_0 C h hq dX12_weights_21 ?_
      clear hq
      refine lv_iadd hx hb dX12_weights_22 ?_
      refine lv_topi (fun x3 ex3 => ?_)
      replace hf := bnd_at ex3 hf
      clear ex3
      refine lv_istore_n (lv' := [(1, .int x3), (0, .ref (ad 48)), (2, .int y2)]) hx hb dX12_weights_23 rfl hl (by decide) rfl (fun ls hl => ?_)
      obtain ⟨x4, ex4⟩ : ∃ z : Int32, z = y2 + (1 : Int32) := ⟨_, rfl⟩
      replace hf := bnd_at ex4 hf
      refine lv_iinc (v := x4) (lv' := [(2, .int x4), (1, .int x3), (0, .ref (ad 48))]) hx hb dX12_weights_24 hl (k := 2) rfl (by rw [ex4]; rfl) (by decide) rfl (fun ls hl => ?_)
      clear ex4
      refine lv_goto (tgt := 4) hx hb dX12_weights_27 (by decide) ?_
      exact ih g2 x3 x4 hf H locs ls h (lv_sub hl [2, 1, 0] rfl)

set_option maxHeartbeats 4000000 in
set_option maxRecDepth 100000 in
theorem qX12_weights {l : Launch} {D : va_G} {cs : Nat → ClassId} {ad : Nat → Nat} {r : Int32} {g' : MS} {g : MS}  (hf : fX12_weights g = some (r, g')) : GCon l D cs yX12_weights cX12_weights 3 (some .int) (rM 1) 0 0 [.ref (ad 48)] (MW cs ad g) (some (.int r)) (MW cs ad g') := by
  refine GCon.of (by decide) (Nat.le_of_ble_eq_true rfl) ?_
  intro p e s m args below meth c A ls H locs C h hl
  have hx := C.1
  have hb := C.2.1
  have C : MCx p s m args meth c A RX12 cX12_weights 3 (some .int) D cs := C
  have hl : lv_has ls 3 [(0, .ref (ad 48))] := hl
  unfold fX12_weights at hf
  refine lv_iconst (v := (0 : Int32)) hx hb dX12_weights_0 (by decide) ?_
  refine lv_istore_n (lv' := [(1, .int (0 : Int32)), (0, .ref (ad 48))]) hx hb dX12_weights_1 rfl hl (by decide) rfl (fun ls hl => ?_)
  refine lv_iconst (v := (0 : Int32)) hx hb dX12_weights_2 (by decide) ?_
  refine lv_istore_n (lv' := [(2, .int (0 : Int32)), (1, .int (0 : Int32)), (0, .ref (ad 48))]) hx hb dX12_weights_3 rfl hl (by decide) rfl (fun ls hl => ?_)
  exact wX12_weights_4 C fuel g (0 : Int32) (0 : Int32) hf H locs ls h (lv_sub hl [2, 1, 0] rfl)

set_option maxHeartbeats 4000000 in
set_option maxRecDepth 100000 in
theorem qX12_count {l : Launch} {D : va_G} {cs : Nat → ClassId} {ad : Nat → Nat} {r : Int32} {g' : MS} {g : MS}  {a0 : Int32} (hf : fX12_count g a0 = some (r, g')) : GCon l D cs yX12_count cX12_count 2 (some .int) (rM 3) 0 0 [.ref (ad 48), .int a0] (MW cs ad g) (some (.int r)) (MW cs ad g') := by
  refine GCon.of (by decide) (Nat.le_of_ble_eq_true rfl) ?_
  intro p e s m args below meth c A ls H locs C h hl
  have hx := C.1
  have hb := C.2.1
  have C : MCx p s m args meth c A RX12 cX12_count 2 (some .int) D cs := C
  have hl : lv_has ls 2 [(0, .ref (ad 48)), (1, .int a0)] := hl
  unfold fX12_count at hf
  refine lv_aload_n hx hb dX12_count_0 rfl (lv_at hl 0 rfl) ?_
  refine lv_iconst (v := (0 : Int32)) hx hb dX12_count_1 (by decide) ?_
  replace hf := bnd_ex hf
  obtain ⟨g1, eg1, hf⟩ := hf
  refine mp_4 C h dX12_count_2 (fun H locs h => ?_)
  rw [← eg1] at h
  clear eg1
  refine lv_aload_n hx hb dX12_count_5 rfl (lv_at hl 0 rfl) ?_
  replace hf := bndv_some hf
  obtain ⟨g2, hc, hf⟩ := hf
  refine m_callVv [] C h cv_X12_310 (qX12_aimsNow hc) rfl ⟨rfl, rfl⟩ ⟨Nat.le_of_ble_eq_true rfl, Nat.le_of_ble_eq_true rfl⟩ (m_recv C h) hl.1 rfl (Nat.le_of_ble_eq_true rfl) ⟨Nat.le_refl _, Nat.le_refl _⟩ dX12_count_6 (fun H locs h => ?_)
  clear hc
  refine lv_iload_n hx hb dX12_count_9 rfl (lv_at hl 1 rfl) ?_
  rcases Decidable.em (a0 = (0 : Int32)) with hq | q0
  · replace hf := if_t hq hf
    subst hq
    refine lv_tableIn (off := 46) (tgt := 56) hx hb dX12_count_10 (by decide) (by decide) (by decide) (by decide) ?_
    refine lv_aload_n hx hb dX12_count_56 rfl (lv_at hl 0 rfl) ?_
    refine mg_0 C h dX12_count_57 ?_
    refine lv_iconst (v := (0 : Int32)) hx hb dX12_count_60 (by decide) ?_
    replace hf := chk_some hf
    obtain ⟨hq, hf⟩ := hf
    refine ml_0 C h hq dX12_count_61 ?_
    clear hq
    obtain ⟨e1, e2⟩ := pr_inj hf
    subst e1 e2
    exact m_iret C h dX12_count_62
  replace hf := if_f q0 hf
  rcases Decidable.em (a0 = (1 : Int32)) with hq | q1
  · replace hf := if_t hq hf
    subst hq
    refine lv_tableIn (off := 53) (tgt := 63) hx hb dX12_count_10 (by decide) (by decide) (by decide) (by decide) ?_
    refine lv_aload_n hx hb dX12_count_63 rfl (lv_at hl 0 rfl) ?_
    replace hf := bndc_some hf
    obtain ⟨x3, g4, hc, hf⟩ := hf
    refine m_callVi [] C h cv_X12_254 (qX12_size hc) rfl ⟨rfl, rfl⟩ ⟨Nat.le_of_ble_eq_true rfl, Nat.le_of_ble_eq_true rfl⟩ (m_recv C h) hl.1 rfl (Nat.le_of_ble_eq_true rfl) ⟨Nat.le_refl _, Nat.le_refl _⟩ dX12_count_64 (fun H locs h => ?_)
    clear hc
    obtain ⟨e1, e2⟩ := pr_inj hf
    subst e1 e2
    exact m_iret C h dX12_count_67
  replace hf := if_f q1 hf
  rcases Decidable.em (a0 = (2 : Int32)) with hq | q2
  · replace hf := if_t hq hf
    subst hq
    refine lv_tableIn (off := 58) (tgt := 68) hx hb dX12_count_10 (by decide) (by decide) (by decide) (by decide) ?_
    refine lv_aload_n hx hb dX12_count_68 rfl (lv_at hl 0 rfl) ?_
    refine mg_0 C h dX12_count_69 ?_
    refine lv_bipush (v := (18 : Int32)) hx hb dX12_count_72 (by decide) ?_
    replace hf := chk_some hf
    obtain ⟨hq, hf⟩ := hf
    refine ml_0 C h hq dX12_count_74 ?_
    clear hq
    obtain ⟨e1, e2⟩ := pr_inj hf
    subst e1 e2
    exact m_iret C h dX12_count_75
  replace hf := if_f q2 hf
  rcases Decidable.em (a0 = (3 : Int32)) with hq | q3
  · replace hf := if_t hq hf
    subst hq
    refine lv_tableIn (off := 66) (tgt := 76) hx hb dX12_count_10 (by decide) (by decide) (by decide) (by decide) ?_
    refine lv_aload_n hx hb dX12_count_76 rfl (lv_at hl 0 rfl) ?_
    replace hf := bndc_some hf
    obtain ⟨x5, g6, hc, hf⟩ := hf
    refine m_callVi [] C h cv_X12_534 (qX12_outs hc) rfl ⟨rfl, rfl⟩ ⟨Nat.le_of_ble_eq_true rfl, Nat.le_of_ble_eq_true rfl⟩ (m_recv C h) hl.1 rfl (Nat.le_of_ble_eq_true rfl) ⟨Nat.le_refl _, Nat.le_refl _⟩ dX12_count_77 (fun H locs h => ?_)
    clear hc
    obtain ⟨e1, e2⟩ := pr_inj hf
    subst e1 e2
    exact m_iret C h dX12_count_80
  replace hf := if_f q3 hf
  rcases Decidable.em (a0 = (4 : Int32)) with hq | q4
  · replace hf := if_t hq hf
    subst hq
    refine lv_tableIn (off := 71) (tgt := 81) hx hb dX12_count_10 (by decide) (by decide) (by decide) (by decide) ?_
    refine lv_aload_n hx hb dX12_count_81 rfl (lv_at hl 0 rfl) ?_
    replace hf := bndc_some hf
    obtain ⟨x7, g8, hc, hf⟩ := hf
    refine m_callVi [] C h cv_X12_457 (qX12_kneesBy hc) rfl ⟨rfl, rfl⟩ ⟨Nat.le_of_ble_eq_true rfl, Nat.le_of_ble_eq_true rfl⟩ (m_recv C h) hl.1 rfl (Nat.le_of_ble_eq_true rfl) ⟨Nat.le_refl _, Nat.le_refl _⟩ dX12_count_82 (fun H locs h => ?_)
    clear hc
    obtain ⟨e1, e2⟩ := pr_inj hf
    subst e1 e2
    exact m_iret C h dX12_count_85
  replace hf := if_f q4 hf
  rcases Decidable.em (a0 = (5 : Int32)) with hq | q5
  · replace hf := if_t hq hf
    subst hq
    refine lv_tableIn (off := 76) (tgt := 86) hx hb dX12_count_10 (by decide) (by decide) (by decide) (by decide) ?_
    refine lv_aload_n hx hb dX12_count_86 rfl (lv_at hl 0 rfl) ?_
    replace hf := bndc_some hf
    obtain ⟨x9, g10, hc, hf⟩ := hf
    refine m_callVi [] C h cv_X12_537 (qX12_weights hc) rfl ⟨rfl, rfl⟩ ⟨Nat.le_of_ble_eq_true rfl, Nat.le_of_ble_eq_true rfl⟩ (m_recv C h) hl.1 rfl (Nat.le_of_ble_eq_true rfl) ⟨Nat.le_refl _, Nat.le_refl _⟩ dX12_count_87 (fun H locs h => ?_)
    clear hc
    obtain ⟨e1, e2⟩ := pr_inj hf
    subst e1 e2
    exact m_iret C h dX12_count_90
  replace hf := if_f q5 hf
  rcases Decidable.em (a0 = (6 : Int32)) with hq | q6
  · replace hf := if_t hq hf
    subst hq
    refine lv_tableIn (off := 81) (tgt := 91) hx hb dX12_count_10 (by decide) (by decide) (by decide) (by decide) ?_
    refine lv_aload_n hx hb dX12_count_91 rfl (lv_at hl 0 rfl) ?_
    refine mg_0 C h dX12_count_92 ?_
    refine lv_iconst (v := (5 : Int32)) hx hb dX12_count_95 (by decide) ?_
    replace hf := chk_some hf
    obtain ⟨hq, hf⟩ := hf
    refine ml_0 C h hq dX12_count_96 ?_
    clear hq
    obtain ⟨e1, e2⟩ := pr_inj hf
    subst e1 e2
    exact m_iret C h dX12_count_97
  replace hf := if_f q6 hf
  rcases Decidable.em (a0 = (7 : Int32)) with hq | q7
  · replace hf := if_t hq hf
    subst hq
    refine lv_tableIn (off := 88) (tgt := 98) hx hb dX12_count_10 (by decide) (by decide) (by decide) (by decide) ?_
    refine lv_aload_n hx hb dX12_count_98 rfl (lv_at hl 0 rfl) ?_
    refine mg_6 C h dX12_count_99 ?_
    obtain ⟨e1, e2⟩ := pr_inj hf
    subst e1 e2
    exact m_iret C h dX12_count_102
  replace hf := if_f q7 hf
  refine lv_tableOut (tgt := 103) hx hb dX12_count_10 (by
      have z0 := i32_ne q0
      have z1 := i32_ne q1
      have z2 := i32_ne q2
      have z3 := i32_ne q3
      have z4 := i32_ne q4
      have z5 := i32_ne q5
      have z6 := i32_ne q6
      have z7 := i32_ne q7
      simp only [i32v_0, i32v_1, i32v_2, i32v_3, i32v_4, i32v_5, i32v_6, i32v_7] at z0 z1 z2 z3 z4 z5 z6 z7
      omega) (by decide) ?_
  clear q0 q1 q2 q3 q4 q5 q6 q7
  refine lv_iconst (v := (-1 : Int32)) hx hb dX12_count_103 (by decide) ?_
  obtain ⟨e1, e2⟩ := pr_inj hf
  subst e1 e2
  exact m_iret C h dX12_count_104
end
