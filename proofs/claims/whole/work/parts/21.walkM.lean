section
variable {p : Program} {l : Launch} {e : Env} {s : State} {m : MethodId} {args : Array Value} {below : List Frame} {meth : Method} {c : Code} {D : va_G} {cs : Nat → ClassId} {ad : Nat → Nat} {A : Nat → Prop}
set_option maxHeartbeats 4000000 in
set_option maxRecDepth 100000 in
theorem wX12_kneesBy_43 (C : MCx p s m args meth c A RX12 cX12_kneesBy 4 (some .int) D cs)  {r : Int32} {g' : MS}  {k4 : MS → Int32 → Int32 → Option (Int32 × MS)} (hk4 : ∀ (g : MS) (y1 : Int32) (y2 : Int32), k4 g y1 y2 = some (r, g') → ∀ (H : Heap) (locs : List Loc) (ls : Array Slot), MH D (MW cs ad g) A s H locs → lv_has ls 4 [(0, .ref (ad 48)), (1, .int y1), (2, .int y2)] → W p l e (rM 2) s m args below meth c H locs 0 0 (MQ below (GPost D (some (.int r)) (MW cs ad g') A) args s 0 0 A) (F0 m 4 ls [])) {k14 : MS → Int32 → Int32 → Int32 → Option (Int32 × MS)} (hk14 : ∀ (g : MS) (y1 : Int32) (y2 : Int32) (y3 : Int32), k14 g y1 y2 y3 = some (r, g') → ∀ (H : Heap) (locs : List Loc) (ls : Array Slot), MH D (MW cs ad g) A s H locs → lv_has ls 4 [(0, .ref (ad 48)), (1, .int y1), (2, .int y2), (3, .int y3)] → W p l e (rM 2) s m args below meth c H locs 0 0 (MQ below (GPost D (some (.int r)) (MW cs ad g') A) args s 0 0 A) (F0 m 14 ls [])) : ∀ (g : MS) (y2 : Int32) (y3 : Int32) (t0 : Int32) (t1 : Int32), fX12_kneesBy_43 k4 k14 g y2 y3 t0 t1 = some (r, g') → ∀ (H : Heap) (locs : List Loc) (ls : Array Slot), MH D (MW cs ad g) A s H locs → lv_has ls 4 [(0, .ref (ad 48)), (2, .int y2), (3, .int y3)] → W p l e (rM 2) s m args below meth c H locs 0 0 (MQ below (GPost D (some (.int r)) (MW cs ad g') A) args s 0 0 A) (F0 m 43 ls [.int t1, .int t0]) := by
  have hx := C.1
  have hb := C.2.1
  intro g y2 y3 t0 t1 hf H locs ls h hl
  unfold fX12_kneesBy_43 at hf
  refine lv_iadd hx hb dX12_kneesBy_43 ?_
  refine lv_topi (fun x1 ex1 => ?_)
  replace hf := bnd_at ex1 hf
  clear ex1
  refine lv_istore_n (lv' := [(1, .int x1), (0, .ref (ad 48)), (2, .int y2), (3, .int y3)]) hx hb dX12_kneesBy_44 rfl hl (by decide) rfl (fun ls hl => ?_)
  obtain ⟨x2, ex2⟩ : ∃ z : Int32, z = y3 + (1 : Int32) := ⟨_, rfl⟩
  replace hf := bnd_at ex2 hf
  refine lv_iinc (v := x2) (lv' := [(3, .int x2), (1, .int x1), (0, .ref (ad 48)), (2, .int y2)]) hx hb dX12_kneesBy_45 hl (k := 3) rfl (by rw [ex2]; rfl) (by decide) rfl (fun ls hl => ?_)
  clear ex2
  refine lv_goto (tgt := 14) hx hb dX12_kneesBy_48 (by decide) ?_
  exact hk14 g x1 y2 x2 hf H locs ls h (lv_sub hl [2, 1, 3, 0] rfl)

set_option maxHeartbeats 4000000 in
set_option maxRecDepth 100000 in
theorem wX12_kneesBy_42 (C : MCx p s m args meth c A RX12 cX12_kneesBy 4 (some .int) D cs)  {r : Int32} {g' : MS}  {k4 : MS → Int32 → Int32 → Option (Int32 × MS)} (hk4 : ∀ (g : MS) (y1 : Int32) (y2 : Int32), k4 g y1 y2 = some (r, g') → ∀ (H : Heap) (locs : List Loc) (ls : Array Slot), MH D (MW cs ad g) A s H locs → lv_has ls 4 [(0, .ref (ad 48)), (1, .int y1), (2, .int y2)] → W p l e (rM 2) s m args below meth c H locs 0 0 (MQ below (GPost D (some (.int r)) (MW cs ad g') A) args s 0 0 A) (F0 m 4 ls [])) {k14 : MS → Int32 → Int32 → Int32 → Option (Int32 × MS)} (hk14 : ∀ (g : MS) (y1 : Int32) (y2 : Int32) (y3 : Int32), k14 g y1 y2 y3 = some (r, g') → ∀ (H : Heap) (locs : List Loc) (ls : Array Slot), MH D (MW cs ad g) A s H locs → lv_has ls 4 [(0, .ref (ad 48)), (1, .int y1), (2, .int y2), (3, .int y3)] → W p l e (rM 2) s m args below meth c H locs 0 0 (MQ below (GPost D (some (.int r)) (MW cs ad g') A) args s 0 0 A) (F0 m 14 ls [])) : ∀ (g : MS) (y2 : Int32) (y3 : Int32) (t0 : Int32), fX12_kneesBy_42 k4 k14 g y2 y3 t0 = some (r, g') → ∀ (H : Heap) (locs : List Loc) (ls : Array Slot), MH D (MW cs ad g) A s H locs → lv_has ls 4 [(0, .ref (ad 48)), (2, .int y2), (3, .int y3)] → W p l e (rM 2) s m args below meth c H locs 0 0 (MQ below (GPost D (some (.int r)) (MW cs ad g') A) args s 0 0 A) (F0 m 42 ls [.int t0]) := by
  have hx := C.1
  have hb := C.2.1
  intro g y2 y3 t0 hf H locs ls h hl
  unfold fX12_kneesBy_42 at hf
  refine lv_iconst (v := (0 : Int32)) hx hb dX12_kneesBy_42 (by decide) ?_
  exact wX12_kneesBy_43 C hk4 hk14 g y2 y3 t0 (0 : Int32) hf H locs ls h (lv_sub hl [0, 1, 2] rfl)

set_option maxHeartbeats 4000000 in
set_option maxRecDepth 100000 in
theorem wX12_kneesBy_14 (C : MCx p s m args meth c A RX12 cX12_kneesBy 4 (some .int) D cs)  {r : Int32} {g' : MS}  {k4 : MS → Int32 → Int32 → Option (Int32 × MS)} (hk4 : ∀ (g : MS) (y1 : Int32) (y2 : Int32), k4 g y1 y2 = some (r, g') → ∀ (H : Heap) (locs : List Loc) (ls : Array Slot), MH D (MW cs ad g) A s H locs → lv_has ls 4 [(0, .ref (ad 48)), (1, .int y1), (2, .int y2)] → W p l e (rM 2) s m args below meth c H locs 0 0 (MQ below (GPost D (some (.int r)) (MW cs ad g') A) args s 0 0 A) (F0 m 4 ls [])) : ∀ (n : Nat) (g : MS) (y1 : Int32) (y2 : Int32) (y3 : Int32), fX12_kneesBy_14 k4 n g y1 y2 y3 = some (r, g') → ∀ (H : Heap) (locs : List Loc) (ls : Array Slot), MH D (MW cs ad g) A s H locs → lv_has ls 4 [(0, .ref (ad 48)), (1, .int y1), (2, .int y2), (3, .int y3)] → W p l e (rM 2) s m args below meth c H locs 0 0 (MQ below (GPost D (some (.int r)) (MW cs ad g') A) args s 0 0 A) (F0 m 14 ls []) := by
  have hx := C.1
  have hb := C.2.1
  intro n
  induction n with
  | zero =>
    intro g y1 y2 y3 hf
    exact absurd hf (by simp [fX12_kneesBy_14])
  | succ n ih =>
    intro g y1 y2 y3 hf H locs ls h hl
    rw [fX12_kneesBy_14] at hf
    refine lv_iload_n hx hb dX12_kneesBy_14 rfl (lv_at hl 3 rfl) ?_
    refine lv_iload_n hx hb dX12_kneesBy_15 rfl (lv_at hl 2 rfl) ?_
    refine lv_icmp_ge (tgt := 51) hx hb dX12_kneesBy_16 (by decide) (fun hq => ?_) (fun hq => ?_)
    · replace hf := if_t hq hf
      clear hq
      obtain ⟨x3, ex3⟩ : ∃ z : Int32, z = y2 + (1 : Int32) := ⟨_, rfl⟩
      replace hf := bnd_at ex3 hf
      refine lv_iinc (v := x3) (lv' := [(2, .int x3), (0, .ref (ad 48)), (1, .int y1), (3, .int y3)]) hx hb dX12_kneesBy_51 hl (k := 2) rfl (by rw [ex3]; rfl) (by decide) rfl (fun ls hl => ?_)
      clear ex3
      refine lv_goto (tgt := 4) hx hb dX12_kneesBy_54 (by decide) ?_
      exact hk4 g y1 x3 hf H locs ls h (lv_sub hl [1, 2, 0] rfl)
    · replace hf := if_f hq hf
      clear hq
      refine lv_iload_n hx hb dX12_kneesBy_19 rfl (lv_at hl 1 rfl) ?_
      refine lv_aload_n hx hb dX12_kneesBy_20 rfl (lv_at hl 0 rfl) ?_
      refine lv_iload_n hx hb dX12_kneesBy_21 rfl (lv_at hl 2 rfl) ?_
      replace hf := bndc_some hf
      obtain ⟨x4, g5, hc, hf⟩ := hf
      refine m_callVi [.int y2] C h cv_X12_304 (qX12_faced hc) rfl ⟨rfl, rfl⟩ ⟨Nat.le_of_ble_eq_true rfl, Nat.le_of_ble_eq_true rfl⟩ (m_recv C h) hl.1 rfl (Nat.le_of_ble_eq_true rfl) ⟨Nat.le_refl _, Nat.le_refl _⟩ dX12_kneesBy_22 (fun H locs h => ?_)
      clear hc
      refine lv_iload_n hx hb dX12_kneesBy_25 rfl (lv_at hl 3 rfl) ?_
      refine lv_icmp_ne (tgt := 42) hx hb dX12_kneesBy_26 (by decide) (fun hq => ?_) (fun hq => ?_)
      · replace hf := if_tn hq hf
        clear hq
        exact wX12_kneesBy_42 C hk4 ih g5 y2 y3 y1 hf H locs ls h (lv_sub hl [0, 2, 3] rfl)
      · replace hf := if_t hq hf
        clear hq
        refine lv_aload_n hx hb dX12_kneesBy_29 rfl (lv_at hl 0 rfl) ?_
        refine lv_iload_n hx hb dX12_kneesBy_30 rfl (lv_at hl 3 rfl) ?_
        replace hf := bndc_some hf
        obtain ⟨x6, g7, hc, hf⟩ := hf
        refine m_callVi [.int y3] C h cv_X12_304 (qX12_faced hc) rfl ⟨rfl, rfl⟩ ⟨Nat.le_of_ble_eq_true rfl, Nat.le_of_ble_eq_true rfl⟩ (m_recv C h) hl.1 rfl (Nat.le_of_ble_eq_true rfl) ⟨Nat.le_refl _, Nat.le_refl _⟩ dX12_kneesBy_31 (fun H locs h => ?_)
        clear hc
        refine lv_iload_n hx hb dX12_kneesBy_34 rfl (lv_at hl 2 rfl) ?_
        refine lv_icmp_ne (tgt := 42) hx hb dX12_kneesBy_35 (by decide) (fun hq => ?_) (fun hq => ?_)
        · replace hf := if_tn hq hf
          clear hq
          exact wX12_kneesBy_42 C hk4 ih g7 y2 y3 y1 hf H locs ls h (lv_sub hl [0, 2, 3] rfl)
        · replace hf := if_t hq hf
          clear hq
          refine lv_iconst (v := (1 : Int32)) hx hb dX12_kneesBy_38 (by decide) ?_
          refine lv_goto (tgt := 43) hx hb dX12_kneesBy_39 (by decide) ?_
          exact wX12_kneesBy_43 C hk4 ih g7 y2 y3 y1 (1 : Int32) hf H locs ls h (lv_sub hl [0, 2, 3] rfl)

set_option maxHeartbeats 4000000 in
set_option maxRecDepth 100000 in
theorem wX12_kneesBy_4 (C : MCx p s m args meth c A RX12 cX12_kneesBy 4 (some .int) D cs)  {r : Int32} {g' : MS}  : ∀ (n : Nat) (g : MS) (y1 : Int32) (y2 : Int32), fX12_kneesBy_4 n g y1 y2 = some (r, g') → ∀ (H : Heap) (locs : List Loc) (ls : Array Slot), MH D (MW cs ad g) A s H locs → lv_has ls 4 [(0, .ref (ad 48)), (1, .int y1), (2, .int y2)] → W p l e (rM 2) s m args below meth c H locs 0 0 (MQ below (GPost D (some (.int r)) (MW cs ad g') A) args s 0 0 A) (F0 m 4 ls []) := by
  have hx := C.1
  have hb := C.2.1
  intro n
  induction n with
  | zero =>
    intro g y1 y2 hf
    exact absurd hf (by simp [fX12_kneesBy_4])
  | succ n ih =>
    intro g y1 y2 hf H locs ls h hl
    rw [fX12_kneesBy_4] at hf
    refine lv_iload_n hx hb dX12_kneesBy_4 rfl (lv_at hl 2 rfl) ?_
    refine lv_aload_n hx hb dX12_kneesBy_5 rfl (lv_at hl 0 rfl) ?_
    replace hf := bndc_some hf
    obtain ⟨x8, g9, hc, hf⟩ := hf
    refine m_callVi [] C h cv_X12_254 (qX12_size hc) rfl ⟨rfl, rfl⟩ ⟨Nat.le_of_ble_eq_true rfl, Nat.le_of_ble_eq_true rfl⟩ (m_recv C h) hl.1 rfl (Nat.le_of_ble_eq_true rfl) ⟨Nat.le_refl _, Nat.le_refl _⟩ dX12_kneesBy_6 (fun H locs h => ?_)
    clear hc
    refine lv_icmp_ge (tgt := 57) hx hb dX12_kneesBy_9 (by decide) (fun hq => ?_) (fun hq => ?_)
    · replace hf := if_t hq hf
      clear hq
      refine lv_iload_n hx hb dX12_kneesBy_57 rfl (lv_at hl 1 rfl) ?_
      cases hf
      exact m_iret C h dX12_kneesBy_58
    · replace hf := if_f hq hf
      clear hq
      refine lv_iconst (v := (0 : Int32)) hx hb dX12_kneesBy_12 (by decide) ?_
      refine lv_istore_n (lv' := [(3, .int (0 : Int32)), (0, .ref (ad 48)), (1, .int y1), (2, .int y2)]) hx hb dX12_kneesBy_13 rfl hl (by decide) rfl (fun ls hl => ?_)
      exact wX12_kneesBy_14 C ih fuel g9 y1 y2 (0 : Int32) hf H locs ls h (lv_sub hl [1, 2, 3, 0] rfl)

set_option maxHeartbeats 4000000 in
set_option maxRecDepth 100000 in
theorem qX12_kneesBy {l : Launch} {D : va_G} {cs : Nat → ClassId} {ad : Nat → Nat} {r : Int32} {g' : MS} {g : MS}  (hf : fX12_kneesBy g = some (r, g')) : GCon l D cs yX12_kneesBy cX12_kneesBy 4 (some .int) (rM 2) 0 0 [.ref (ad 48)] (MW cs ad g) (some (.int r)) (MW cs ad g') := by
  refine GCon.of (by decide) (Nat.le_of_ble_eq_true rfl) ?_
  intro p e s m args below meth c A ls H locs C h hl
  have hx := C.1
  have hb := C.2.1
  have C : MCx p s m args meth c A RX12 cX12_kneesBy 4 (some .int) D cs := C
  have hl : lv_has ls 4 [(0, .ref (ad 48))] := hl
  unfold fX12_kneesBy at hf
  refine lv_iconst (v := (0 : Int32)) hx hb dX12_kneesBy_0 (by decide) ?_
  refine lv_istore_n (lv' := [(1, .int (0 : Int32)), (0, .ref (ad 48))]) hx hb dX12_kneesBy_1 rfl hl (by decide) rfl (fun ls hl => ?_)
  refine lv_iconst (v := (0 : Int32)) hx hb dX12_kneesBy_2 (by decide) ?_
  refine lv_istore_n (lv' := [(2, .int (0 : Int32)), (1, .int (0 : Int32)), (0, .ref (ad 48))]) hx hb dX12_kneesBy_3 rfl hl (by decide) rfl (fun ls hl => ?_)
  exact wX12_kneesBy_4 C fuel g (0 : Int32) (0 : Int32) hf H locs ls h (lv_sub hl [2, 1, 0] rfl)

set_option maxHeartbeats 4000000 in
set_option maxRecDepth 100000 in
theorem qX12_goesBy {l : Launch} {D : va_G} {cs : Nat → ClassId} {ad : Nat → Nat} {r : Int32} {g' : MS} {g : MS}  {a0 : Int32} (hf : fX12_goesBy g a0 = some (r, g')) : GCon l D cs yX12_goesBy cX12_goesBy 3 (some .int) (rM 4) 0 0 [.ref (ad 48), .int a0] (MW cs ad g) (some (.int r)) (MW cs ad g') := by
  refine GCon.of (by decide) (Nat.le_of_ble_eq_true rfl) ?_
  intro p e s m args below meth c A ls H locs C h hl
  have hx := C.1
  have hb := C.2.1
  have C : MCx p s m args meth c A RX12 cX12_goesBy 3 (some .int) D cs := C
  have hl : lv_has ls 3 [(0, .ref (ad 48)), (1, .int a0)] := hl
  unfold fX12_goesBy at hf
  refine lv_aload_n hx hb dX12_goesBy_0 rfl (lv_at hl 0 rfl) ?_
  refine mg_0 C h dX12_goesBy_1 ?_
  refine lv_iconst (v := (4 : Int32)) hx hb dX12_goesBy_4 (by decide) ?_
  replace hf := chk_some hf
  obtain ⟨hq, hf⟩ := hf
  refine ml_0 C h hq dX12_goesBy_5 ?_
  clear hq
  refine lv_if_ne (tgt := 11) hx hb dX12_goesBy_6 (by decide) (fun hq => ?_) (fun hq => ?_)
  · replace hf := if_tn hq hf
    clear hq
    refine lv_aload_n hx hb dX12_goesBy_11 rfl (lv_at hl 0 rfl) ?_
    refine lv_iload_n hx hb dX12_goesBy_12 rfl (lv_at hl 1 rfl) ?_
    refine lv_aload_n hx hb dX12_goesBy_13 rfl (lv_at hl 0 rfl) ?_
    refine mg_21 C h dX12_goesBy_14 ?_
    refine lv_iload_n hx hb dX12_goesBy_17 rfl (lv_at hl 1 rfl) ?_
    replace hf := chk_some hf
    obtain ⟨hq, hf⟩ := hf
    refine ml_21 C h hq dX12_goesBy_18 ?_
    clear hq
    refine lv_aload_n hx hb dX12_goesBy_19 rfl (lv_at hl 0 rfl) ?_
    refine mg_22 C h dX12_goesBy_20 ?_
    refine lv_iload_n hx hb dX12_goesBy_23 rfl (lv_at hl 1 rfl) ?_
    replace hf := chk_some hf
    obtain ⟨hq, hf⟩ := hf
    refine ml_22 C h hq dX12_goesBy_24 ?_
    clear hq
    replace hf := bndv_some hf
    obtain ⟨g1, hc, hf⟩ := hf
    refine m_callVv [.int a0, .int (g.2.1 21 (ix a0)), .int (g.2.1 22 (ix a0))] C h cv_X12_292 (qX12_asks hc) rfl ⟨rfl, rfl⟩ ⟨Nat.le_of_ble_eq_true rfl, Nat.le_of_ble_eq_true rfl⟩ (m_recv C h) hl.1 rfl (Nat.le_of_ble_eq_true rfl) ⟨Nat.le_refl _, Nat.le_refl _⟩ dX12_goesBy_25 (fun H locs h => ?_)
    clear hc
    refine lv_aload_n hx hb dX12_goesBy_28 rfl (lv_at hl 0 rfl) ?_
    refine lv_iconst (v := (4 : Int32)) hx hb dX12_goesBy_29 (by decide) ?_
    refine lv_sipush (v := (1949 : Int32)) hx hb dX12_goesBy_30 (by decide) ?_
    replace hf := bndc_some hf
    obtain ⟨x2, g3, hc, hf⟩ := hf
    refine m_callVi [.int (4 : Int32), .int (1949 : Int32)] C h cv_X12_296 (qX12_lawOf hc) rfl ⟨rfl, rfl⟩ ⟨Nat.le_of_ble_eq_true rfl, Nat.le_of_ble_eq_true rfl⟩ (m_recv C h) hl.1 rfl (Nat.le_of_ble_eq_true rfl) ⟨Nat.le_refl _, Nat.le_refl _⟩ dX12_goesBy_33 (fun H locs h => ?_)
    clear hc
    refine lv_aload_n hx hb dX12_goesBy_36 rfl (lv_at hl 0 rfl) ?_
    replace hf := bndc_some hf
    obtain ⟨x4, g5, hc, hf⟩ := hf
    refine m_callVi [] C h cv_X12_254 (qX12_size hc) rfl ⟨rfl, rfl⟩ ⟨Nat.le_of_ble_eq_true rfl, Nat.le_of_ble_eq_true rfl⟩ (m_recv C h) hl.1 rfl (Nat.le_of_ble_eq_true rfl) ⟨Nat.le_refl _, Nat.le_refl _⟩ dX12_goesBy_37 (fun H locs h => ?_)
    clear hc
    replace hf := chk_some hf
    obtain ⟨hq, hf⟩ := hf
    refine x_irem hx hb dX12_goesBy_40 (nz_ne hq) ?_
    clear hq
    refine lv_topi (fun x6 ex6 => ?_)
    replace hf := bnd_at ex6 hf
    clear ex6
    refine lv_istore_n (lv' := [(2, .int x6), (0, .ref (ad 48)), (1, .int a0)]) hx hb dX12_goesBy_41 rfl hl (by decide) rfl (fun ls hl => ?_)
    refine lv_iload_n hx hb dX12_goesBy_42 rfl (lv_at hl 0 rfl) ?_
    refine lv_if_ge (tgt := 55) hx hb dX12_goesBy_43 (by decide) (fun hq => ?_) (fun hq => ?_)
    · replace hf := if_t hq hf
      clear hq
      refine lv_iload_n hx hb dX12_goesBy_55 rfl (lv_at hl 0 rfl) ?_
      cases hf
      exact m_iret C h dX12_goesBy_56
    · replace hf := if_f hq hf
      clear hq
      refine lv_iload_n hx hb dX12_goesBy_46 rfl (lv_at hl 0 rfl) ?_
      refine lv_aload_n hx hb dX12_goesBy_47 rfl (lv_at hl 1 rfl) ?_
      replace hf := bndc_some hf
      obtain ⟨x7, g8, hc, hf⟩ := hf
      refine m_callVi [] C h cv_X12_254 (qX12_size hc) rfl ⟨rfl, rfl⟩ ⟨Nat.le_of_ble_eq_true rfl, Nat.le_of_ble_eq_true rfl⟩ (m_recv C h) hl.1 rfl (Nat.le_of_ble_eq_true rfl) ⟨Nat.le_refl _, Nat.le_refl _⟩ dX12_goesBy_48 (fun H locs h => ?_)
      clear hc
      refine lv_iadd hx hb dX12_goesBy_51 ?_
      refine lv_goto (tgt := 56) hx hb dX12_goesBy_52 (by decide) ?_
      cases hf
      exact m_iret C h dX12_goesBy_56
  · replace hf := if_t hq hf
    clear hq
    refine lv_iconst (v := (0 : Int32)) hx hb dX12_goesBy_9 (by decide) ?_
    cases hf
    exact m_iret C h dX12_goesBy_10

set_option maxHeartbeats 4000000 in
set_option maxRecDepth 100000 in
theorem wX12_minute_45 (C : MCx p s m args meth c A RX12 cX12_minute 2 none D cs)  {g' : MS}  : ∀ (n : Nat) (g : MS) (y1 : Int32), fX12_minute_45 n g y1 = some g' → ∀ (H : Heap) (locs : List Loc) (ls : Array Slot), MH D (MW cs ad g) A s H locs → lv_has ls 2 [(0, .ref (ad 48)), (1, .int y1)] → W p l e (rM 5) s m args below meth c H locs 0 0 (MQ below (GPost D none (MW cs ad g') A) args s 0 0 A) (F0 m 45 ls []) := by
  have hx := C.1
  have hb := C.2.1
  intro n
  induction n with
  | zero =>
    intro g y1 hf
    exact absurd hf (by simp [fX12_minute_45])
  | succ n ih =>
    intro g y1 hf H locs ls h hl
    rw [fX12_minute_45] at hf
    refine lv_iload_n hx hb dX12_minute_45 rfl (lv_at hl 1 rfl) ?_
    refine lv_aload_n hx hb dX12_minute_46 rfl (lv_at hl 0 rfl) ?_
    replace hf := bndc_some hf
    obtain ⟨x1, g2, hc, hf⟩ := hf
    refine m_callVi [] C h cv_X12_254 (qX12_size hc) rfl ⟨rfl, rfl⟩ ⟨Nat.le_of_ble_eq_true rfl, Nat.le_of_ble_eq_true rfl⟩ (m_recv C h) hl.1 rfl (Nat.le_of_ble_eq_true rfl) ⟨Nat.le_refl _, Nat.le_refl _⟩ dX12_minute_47 (fun H locs h => ?_)
    clear hc
    refine lv_icmp_ge (tgt := 83) hx hb dX12_minute_50 (by decide) (fun hq => ?_) (fun hq => ?_)
    · replace hf := if_t hq hf
      clear hq
      cases hf
      exact m_vret C h dX12_minute_83
    · replace hf := if_f hq hf
      clear hq
      refine lv_aload_n hx hb dX12_minute_53 rfl (lv_at hl 0 rfl) ?_
      refine mg_21 C h dX12_minute_54 ?_
      refine lv_iload_n hx hb dX12_minute_57 rfl (lv_at hl 1 rfl) ?_
      refine lv_aload_n hx hb dX12_minute_58 rfl (lv_at hl 0 rfl) ?_
      refine mg_21 C h dX12_minute_59 ?_
      refine lv_iload_n hx hb dX12_minute_62 rfl (lv_at hl 1 rfl) ?_
      replace hf := chk_some hf
      obtain ⟨hq, hf⟩ := hf
      refine ml_21 C h hq dX12_minute_63 ?_
      clear hq
      refine lv_aload_n hx hb dX12_minute_64 rfl (lv_at hl 0 rfl) ?_
      refine mg_23 C h dX12_minute_65 ?_
      refine lv_iload_n hx hb dX12_minute_68 rfl (lv_at hl 1 rfl) ?_
      replace hf := chk_some hf
      obtain ⟨hq, hf⟩ := hf
      refine ml_23 C h hq dX12_minute_69 ?_
      clear hq
      refine lv_iadd hx hb dX12_minute_70 ?_
      refine lv_aload_n hx hb dX12_minute_71 rfl (lv_at hl 0 rfl) ?_
      replace hf := bndc_some hf
      obtain ⟨x3, g4, hc, hf⟩ := hf
      refine m_callVi [] C h cv_X12_254 (qX12_size hc) rfl ⟨rfl, rfl⟩ ⟨Nat.le_of_ble_eq_true rfl, Nat.le_of_ble_eq_true rfl⟩ (m_recv C h) hl.1 rfl (Nat.le_of_ble_eq_true rfl) ⟨Nat.le_refl _, Nat.le_refl _⟩ dX12_minute_72 (fun H locs h => ?_)
      clear hc
      replace hf := chk_some hf
      obtain ⟨hq, hf⟩ := hf
      refine x_irem hx hb dX12_minute_75 (nz_ne hq) ?_
      clear hq
      replace hf := chk_some hf
      obtain ⟨hq, hf⟩ := hf
      replace hf := bnd_ex hf
      obtain ⟨g5, eg5, hf⟩ := hf
      refine ms_21 C h hq dX12_minute_76 (fun H locs h => ?_)
      rw [← eg5] at h
      clear hq eg5
      obtain ⟨x6, ex6⟩ : ∃ z : Int32, z = y1 + (1 : Int32) := ⟨_, rfl⟩
      replace hf := bnd_at ex6 hf
      refine lv_iinc (v := x6) (lv' := [(1, .int x6), (0, .ref (ad 48))]) hx hb dX12_minute_77 hl (k := 1) rfl (by rw [ex6]; rfl) (by decide) rfl (fun ls hl => ?_)
      clear ex6
      refine lv_goto (tgt := 45) hx hb dX12_minute_80 (by decide) ?_
      exact ih g5 x6 hf H locs ls h (lv_sub hl [1, 0] rfl)

set_option maxHeartbeats 4000000 in
set_option maxRecDepth 100000 in
theorem wX12_minute_6 (C : MCx p s m args meth c A RX12 cX12_minute 2 none D cs)  {g' : MS}  : ∀ (n : Nat) (g : MS) (y1 : Int32), fX12_minute_6 n g y1 = some g' → ∀ (H : Heap) (locs : List Loc) (ls : Array Slot), MH D (MW cs ad g) A s H locs → lv_has ls 2 [(0, .ref (ad 48)), (1, .int y1)] → W p l e (rM 5) s m args below meth c H locs 0 0 (MQ below (GPost D none (MW cs ad g') A) args s 0 0 A) (F0 m 6 ls []) := by
  have hx := C.1
  have hb := C.2.1
  intro n
  induction n with
  | zero =>
    intro g y1 hf
    exact absurd hf (by simp [fX12_minute_6])
  | succ n ih =>
    intro g y1 hf H locs ls h hl
    rw [fX12_minute_6] at hf
    refine lv_iload_n hx hb dX12_minute_6 rfl (lv_at hl 1 rfl) ?_
    refine lv_aload_n hx hb dX12_minute_7 rfl (lv_at hl 0 rfl) ?_
    replace hf := bndc_some hf
    obtain ⟨x7, g8, hc, hf⟩ := hf
    refine m_callVi [] C h cv_X12_254 (qX12_size hc) rfl ⟨rfl, rfl⟩ ⟨Nat.le_of_ble_eq_true rfl, Nat.le_of_ble_eq_true rfl⟩ (m_recv C h) hl.1 rfl (Nat.le_of_ble_eq_true rfl) ⟨Nat.le_refl _, Nat.le_refl _⟩ dX12_minute_8 (fun H locs h => ?_)
    clear hc
    refine lv_icmp_ge (tgt := 43) hx hb dX12_minute_11 (by decide) (fun hq => ?_) (fun hq => ?_)
    · replace hf := if_t hq hf
      clear hq
      refine lv_iconst (v := (0 : Int32)) hx hb dX12_minute_43 (by decide) ?_
      refine lv_istore_n (lv' := [(1, .int (0 : Int32)), (0, .ref (ad 48))]) hx hb dX12_minute_44 rfl hl (by decide) rfl (fun ls hl => ?_)
      exact wX12_minute_45 C fuel g8 (0 : Int32) hf H locs ls h (lv_sub hl [1, 0] rfl)
    · replace hf := if_f hq hf
      clear hq
      refine lv_aload_n hx hb dX12_minute_14 rfl (lv_at hl 0 rfl) ?_
      refine mg_23 C h dX12_minute_15 ?_
      refine lv_iload_n hx hb dX12_minute_18 rfl (lv_at hl 1 rfl) ?_
      refine lv_aload_n hx hb dX12_minute_19 rfl (lv_at hl 0 rfl) ?_
      refine lv_iload_n hx hb dX12_minute_20 rfl (lv_at hl 1 rfl) ?_
      replace hf := bndc_some hf
      obtain ⟨x9, g10, hc, hf⟩ := hf
      refine m_callVi [.int y1] C h cv_X12_287 (qX12_isStuck hc) rfl ⟨rfl, rfl⟩ ⟨Nat.le_of_ble_eq_true rfl, Nat.le_of_ble_eq_true rfl⟩ (m_recv C h) hl.1 rfl (Nat.le_of_ble_eq_true rfl) ⟨Nat.le_refl _, Nat.le_refl _⟩ dX12_minute_21 (fun H locs h => ?_)
      clear hc
      refine lv_if_eq (tgt := 31) hx hb dX12_minute_24 (by decide) (fun hq => ?_) (fun hq => ?_)
      · replace hf := if_t hq hf
        clear hq
        refine lv_aload_n hx hb dX12_minute_31 rfl (lv_at hl 0 rfl) ?_
        refine lv_iload_n hx hb dX12_minute_32 rfl (lv_at hl 1 rfl) ?_
        replace hf := bndc_some hf
        obtain ⟨x11, g12, hc, hf⟩ := hf
        refine m_callVi [.int y1] C h cv_X12_316 (qX12_goesBy hc) rfl ⟨rfl, rfl⟩ ⟨Nat.le_of_ble_eq_true rfl, Nat.le_of_ble_eq_true rfl⟩ (m_recv C h) hl.1 rfl (Nat.le_of_ble_eq_true rfl) ⟨Nat.le_refl _, Nat.le_refl _⟩ dX12_minute_33 (fun H locs h => ?_)
        clear hc
        replace hf := chk_some hf
        obtain ⟨hq, hf⟩ := hf
        replace hf := bnd_ex hf
        obtain ⟨g13, eg13, hf⟩ := hf
        refine ms_23 C h hq dX12_minute_36 (fun H locs h => ?_)
        rw [← eg13] at h
        clear hq eg13
        obtain ⟨x14, ex14⟩ : ∃ z : Int32, z = y1 + (1 : Int32) := ⟨_, rfl⟩
        replace hf := bnd_at ex14 hf
        refine lv_iinc (v := x14) (lv' := [(1, .int x14), (0, .ref (ad 48))]) hx hb dX12_minute_37 hl (k := 1) rfl (by rw [ex14]; rfl) (by decide) rfl (fun ls hl => ?_)
        clear ex14
        refine lv_goto (tgt := 6) hx hb dX12_minute_40 (by decide) ?_
        exact ih g13 x14 hf H locs ls h (lv_sub hl [1, 0] rfl)
      · replace hf := if_f hq hf
        clear hq
        refine lv_iconst (v := (0 : Int32)) hx hb dX12_minute_27 (by decide) ?_
        refine lv_goto (tgt := 36) hx hb dX12_minute_28 (by decide) ?_
        replace hf := chk_some hf
        obtain ⟨hq, hf⟩ := hf
        replace hf := bnd_ex hf
        obtain ⟨g15, eg15, hf⟩ := hf
        refine ms_23 C h hq dX12_minute_36 (fun H locs h => ?_)
        rw [← eg15] at h
        clear hq eg15
        obtain ⟨x16, ex16⟩ : ∃ z : Int32, z = y1 + (1 : Int32) := ⟨_, rfl⟩
        replace hf := bnd_at ex16 hf
        refine lv_iinc (v := x16) (lv' := [(1, .int x16), (0, .ref (ad 48))]) hx hb dX12_minute_37 hl (k := 1) rfl (by rw [ex16]; rfl) (by decide) rfl (fun ls hl => ?_)
        clear ex16
        refine lv_goto (tgt := 6) hx hb dX12_minute_40 (by decide) ?_
        exact ih g15 x16 hf H locs ls h (lv_sub hl [1, 0] rfl)

set_option maxHeartbeats 4000000 in
set_option maxRecDepth 100000 in
theorem qX12_minute {l : Launch} {D : va_G} {cs : Nat → ClassId} {ad : Nat → Nat} {g' : MS} {g : MS}  (hf : fX12_minute g = some g') : GCon l D cs yX12_minute cX12_minute 2 none (rM 5) 0 0 [.ref (ad 48)] (MW cs ad g) none (MW cs ad g') := by
  refine GCon.of (by decide) (Nat.le_of_ble_eq_true rfl) ?_
  intro p e s m args below meth c A ls H locs C h hl
  have hx := C.1
  have hb := C.2.1
  have C : MCx p s m args meth c A RX12 cX12_minute 2 none D cs := C
  have hl : lv_has ls 2 [(0, .ref (ad 48))] := hl
  unfold fX12_minute at hf
  refine lv_aload_n hx hb dX12_minute_0 rfl (lv_at hl 0 rfl) ?_
  replace hf := bndv_some hf
  obtain ⟨g17, hc, hf⟩ := hf
  refine m_callVv [] C h cv_X12_307 (qX12_laysVotes hc) rfl ⟨rfl, rfl⟩ ⟨Nat.le_of_ble_eq_true rfl, Nat.le_of_ble_eq_true rfl⟩ (m_recv C h) hl.1 rfl (Nat.le_of_ble_eq_true rfl) ⟨Nat.le_refl _, Nat.le_refl _⟩ dX12_minute_1 (fun H locs h => ?_)
  clear hc
  refine lv_iconst (v := (0 : Int32)) hx hb dX12_minute_4 (by decide) ?_
  refine lv_istore_n (lv' := [(1, .int (0 : Int32)), (0, .ref (ad 48))]) hx hb dX12_minute_5 rfl hl (by decide) rfl (fun ls hl => ?_)
  exact wX12_minute_6 C fuel g17 (0 : Int32) hf H locs ls h (lv_sub hl [1, 0] rfl)

set_option maxHeartbeats 4000000 in
set_option maxRecDepth 100000 in
theorem wX12_member_31 (C : MCx p s m args meth c A RX12 cX12_member 3 (some .int) D cs)  {r : Int32} {g' : MS}  : ∀ (g : MS) (y1 : Int32) (y2 : Int32) (t1 : Int32), fX12_member_31 g y1 y2 t1 = some (r, g') → ∀ (H : Heap) (locs : List Loc) (ls : Array Slot), MH D (MW cs ad g) A s H locs → lv_has ls 3 [(0, .ref (ad 48)), (1, .int y1), (2, .int y2)] → W p l e (rM 5) s m args below meth c H locs 0 0 (MQ below (GPost D (some (.int r)) (MW cs ad g') A) args s 0 0 A) (F0 m 31 ls [.int t1, .ref (ad 48)]) := by
  have hx := C.1
  have hb := C.2.1
  intro g y1 y2 t1 hf H locs ls h hl
  unfold fX12_member_31 at hf
  replace hf := bnd_ex hf
  obtain ⟨g1, eg1, hf⟩ := hf
  refine mp_4 C h dX12_member_31 (fun H locs h => ?_)
  rw [← eg1] at h
  clear eg1
  refine lv_aload_n hx hb dX12_member_34 rfl (lv_at hl 0 rfl) ?_
  refine mg_4 C h dX12_member_35 ?_
  refine lv_if_le (tgt := 43) hx hb dX12_member_38 (by decide) (fun hq => ?_) (fun hq => ?_)
  · replace hf := if_t hq hf
    clear hq
    refine lv_aload_n hx hb dX12_member_43 rfl (lv_at hl 0 rfl) ?_
    replace hf := bndv_some hf
    obtain ⟨g2, hc, hf⟩ := hf
    refine m_callVv [] C h cv_X12_310 (qX12_aimsNow hc) rfl ⟨rfl, rfl⟩ ⟨Nat.le_of_ble_eq_true rfl, Nat.le_of_ble_eq_true rfl⟩ (m_recv C h) hl.1 rfl (Nat.le_of_ble_eq_true rfl) ⟨Nat.le_refl _, Nat.le_refl _⟩ dX12_member_44 (fun H locs h => ?_)
    clear hc
    refine lv_aload_n hx hb dX12_member_47 rfl (lv_at hl 0 rfl) ?_
    replace hf := bndv_some hf
    obtain ⟨g3, hc, hf⟩ := hf
    refine m_callVv [] C h cv_X12_307 (qX12_laysVotes hc) rfl ⟨rfl, rfl⟩ ⟨Nat.le_of_ble_eq_true rfl, Nat.le_of_ble_eq_true rfl⟩ (m_recv C h) hl.1 rfl (Nat.le_of_ble_eq_true rfl) ⟨Nat.le_refl _, Nat.le_refl _⟩ dX12_member_48 (fun H locs h => ?_)
    clear hc
    refine lv_iload_n hx hb dX12_member_51 rfl (lv_at hl 2 rfl) ?_
    rcases Decidable.em (y2 = (0 : Int32)) with hq | q0
    · replace hf := if_t hq hf
      subst hq
      refine lv_tableIn (off := 36) (tgt := 88) hx hb dX12_member_52 (by decide) (by decide) (by decide) (by decide) ?_
      refine lv_aload_n hx hb dX12_member_88 rfl (lv_at hl 0 rfl) ?_
      refine mg_21 C h dX12_member_89 ?_
      refine lv_iload_n hx hb dX12_member_92 rfl (lv_at hl 1 rfl) ?_
      replace hf := chk_some hf
      obtain ⟨hq, hf⟩ := hf
      refine ml_21 C h hq dX12_member_93 ?_
      clear hq
      cases hf
      exact m_iret C h dX12_member_94
    replace hf := if_f q0 hf
    rcases Decidable.em (y2 = (1 : Int32)) with hq | q1
    · replace hf := if_t hq hf
      subst hq
      refine lv_tableIn (off := 43) (tgt := 95) hx hb dX12_member_52 (by decide) (by decide) (by decide) (by decide) ?_
      refine lv_aload_n hx hb dX12_member_95 rfl (lv_at hl 0 rfl) ?_
      refine lv_iload_n hx hb dX12_member_96 rfl (lv_at hl 1 rfl) ?_
      replace hf := bndc_some hf
      obtain ⟨x4, g5, hc, hf⟩ := hf
      refine m_callVi [.int y1] C h cv_X12_304 (qX12_faced hc) rfl ⟨rfl, rfl⟩ ⟨Nat.le_of_ble_eq_true rfl, Nat.le_of_ble_eq_true rfl⟩ (m_recv C h) hl.1 rfl (Nat.le_of_ble_eq_true rfl) ⟨Nat.le_refl _, Nat.le_refl _⟩ dX12_member_97 (fun H locs h => ?_)
      clear hc
      cases hf
      exact m_iret C h dX12_member_100
    replace hf := if_f q1 hf
    rcases Decidable.em (y2 = (2 : Int32)) with hq | q2
    · replace hf := if_t hq hf
      subst hq
      refine lv_tableIn (off := 49) (tgt := 101) hx hb dX12_member_52 (by decide) (by decide) (by decide) (by decide) ?_
      refine lv_aload_n hx hb dX12_member_101 rfl (lv_at hl 0 rfl) ?_
      refine mg_0 C h dX12_member_102 ?_
      refine lv_bipush (v := (12 : Int32)) hx hb dX12_member_105 (by decide) ?_
      refine lv_iload_n hx hb dX12_member_107 rfl (lv_at hl 1 rfl) ?_
      refine lv_iadd hx hb dX12_member_108 ?_
      replace hf := chk_some hf
      obtain ⟨hq, hf⟩ := hf
      refine ml_0 C h hq dX12_member_109 ?_
      clear hq
      cases hf
      exact m_iret C h dX12_member_110
    replace hf := if_f q2 hf
    rcases Decidable.em (y2 = (3 : Int32)) with hq | q3
    · replace hf := if_t hq hf
      subst hq
      refine lv_tableIn (off := 59) (tgt := 111) hx hb dX12_member_52 (by decide) (by decide) (by decide) (by decide) ?_
      refine lv_aload_n hx hb dX12_member_111 rfl (lv_at hl 0 rfl) ?_
      refine mg_22 C h dX12_member_112 ?_
      refine lv_iload_n hx hb dX12_member_115 rfl (lv_at hl 1 rfl) ?_
      replace hf := chk_some hf
      obtain ⟨hq, hf⟩ := hf
      refine ml_22 C h hq dX12_member_116 ?_
      clear hq
      cases hf
      exact m_iret C h dX12_member_117
    replace hf := if_f q3 hf
    rcases Decidable.em (y2 = (4 : Int32)) with hq | q4
    · replace hf := if_t hq hf
      subst hq
      refine lv_tableIn (off := 66) (tgt := 118) hx hb dX12_member_52 (by decide) (by decide) (by decide) (by decide) ?_
      refine lv_aload_n hx hb dX12_member_118 rfl (lv_at hl 0 rfl) ?_
      refine lv_iload_n hx hb dX12_member_119 rfl (lv_at hl 1 rfl) ?_
      replace hf := bndc_some hf
      obtain ⟨x6, g7, hc, hf⟩ := hf
      refine m_callVi [.int y1] C h cv_X12_287 (qX12_isStuck hc) rfl ⟨rfl, rfl⟩ ⟨Nat.le_of_ble_eq_true rfl, Nat.le_of_ble_eq_true rfl⟩ (m_recv C h) hl.1 rfl (Nat.le_of_ble_eq_true rfl) ⟨Nat.le_refl _, Nat.le_refl _⟩ dX12_member_120 (fun H locs h => ?_)
      clear hc
      refine lv_if_eq (tgt := 130) hx hb dX12_member_123 (by decide) (fun hq => ?_) (fun hq => ?_)
      · replace hf := if_t hq hf
        clear hq
        refine lv_iconst (v := (0 : Int32)) hx hb dX12_member_130 (by decide) ?_
        cases hf
        exact m_iret C h dX12_member_131
      · replace hf := if_f hq hf
        clear hq
        refine lv_iconst (v := (1 : Int32)) hx hb dX12_member_126 (by decide) ?_
        refine lv_goto (tgt := 131) hx hb dX12_member_127 (by decide) ?_
        cases hf
        exact m_iret C h dX12_member_131
    replace hf := if_f q4 hf
    refine lv_tableOut (tgt := 132) hx hb dX12_member_52 (by
        have z0 := i32_ne q0
        have z1 := i32_ne q1
        have z2 := i32_ne q2
        have z3 := i32_ne q3
        have z4 := i32_ne q4
        simp only [i32v_0, i32v_1, i32v_2, i32v_3, i32v_4] at z0 z1 z2 z3 z4
        omega) (by decide) ?_
    clear q0 q1 q2 q3 q4
    refine lv_aload_n hx hb dX12_member_132 rfl (lv_at hl 0 rfl) ?_
    refine lv_iload_n hx hb dX12_member_133 rfl (lv_at hl 1 rfl) ?_
    replace hf := bndc_some hf
    obtain ⟨x8, g9, hc, hf⟩ := hf
    refine m_callVi [.int y1] C h cv_X12_325 (qX12_notchCosts hc) rfl ⟨rfl, rfl⟩ ⟨Nat.le_of_ble_eq_true rfl, Nat.le_of_ble_eq_true rfl⟩ (m_recv C h) hl.1 rfl (Nat.le_of_ble_eq_true rfl) ⟨Nat.le_refl _, Nat.le_refl _⟩ dX12_member_134 (fun H locs h => ?_)
    clear hc
    cases hf
    exact m_iret C h dX12_member_137
  · replace hf := if_f hq hf
    clear hq
    refine lv_iconst (v := (0 : Int32)) hx hb dX12_member_41 (by decide) ?_
    cases hf
    exact m_iret C h dX12_member_42

set_option maxHeartbeats 4000000 in
set_option maxRecDepth 100000 in
theorem qX12_member {l : Launch} {D : va_G} {cs : Nat → ClassId} {ad : Nat → Nat} {r : Int32} {g' : MS} {g : MS}  {a0 : Int32} {a1 : Int32} (hf : fX12_member g a0 a1 = some (r, g')) : GCon l D cs yX12_member cX12_member 3 (some .int) (rM 5) 0 0 [.ref (ad 48), .int a0, .int a1] (MW cs ad g) (some (.int r)) (MW cs ad g') := by
  refine GCon.of (by decide) (Nat.le_of_ble_eq_true rfl) ?_
  intro p e s m args below meth c A ls H locs C h hl
  have hx := C.1
  have hb := C.2.1
  have C : MCx p s m args meth c A RX12 cX12_member 3 (some .int) D cs := C
  have hl : lv_has ls 3 [(0, .ref (ad 48)), (1, .int a0), (2, .int a1)] := hl
  unfold fX12_member at hf
  refine lv_aload_n hx hb dX12_member_0 rfl (lv_at hl 0 rfl) ?_
  refine lv_aload_n hx hb dX12_member_1 rfl (lv_at hl 0 rfl) ?_
  refine lv_iload_n hx hb dX12_member_2 rfl (lv_at hl 1 rfl) ?_
  refine lv_i2l hx hb dX12_member_3 rfl ?_
  replace hf := bndc_some hf
  obtain ⟨x10, g11, hc, hf⟩ := hf
  refine m_callVi [.long a0.toInt64] C h cv_X12_319 (qX12_isMember hc) rfl ⟨rfl, rfl⟩ ⟨Nat.le_of_ble_eq_true rfl, Nat.le_of_ble_eq_true rfl⟩ (m_recv C h) hl.1 rfl (Nat.le_of_ble_eq_true rfl) ⟨Nat.le_refl _, Nat.le_refl _⟩ dX12_member_4 (fun H locs h => ?_)
  clear hc
  refine lv_if_ne (tgt := 14) hx hb dX12_member_7 (by decide) (fun hq => ?_) (fun hq => ?_)
  · replace hf := if_tn hq hf
    clear hq
    refine lv_iload_n hx hb dX12_member_14 rfl (lv_at hl 2 rfl) ?_
    refine lv_i2l hx hb dX12_member_15 rfl ?_
    refine lv_lconst (v := (0 : Int64)) hx hb dX12_member_16 rfl ?_
    refine lv_ldc2 hx hb C.2.2.2.1 (C.2.2.2.2.1 _ tb_28_12) dX12_member_17 ?_
    replace hf := bndv_some hf
    obtain ⟨x12, hc, hf⟩ := hf
    refine m_callSi [.long a1.toInt64, .long (0 : Int64), .long (5 : Int64)] C h cs_X12_147 (qX12_within hc) rfl ⟨rfl, rfl⟩ ⟨Nat.le_of_ble_eq_true rfl, Nat.le_of_ble_eq_true rfl⟩ hl.1 rfl (Nat.le_of_ble_eq_true rfl) ⟨Nat.le_refl _, Nat.le_refl _⟩ dX12_member_20 (fun H locs h => ?_)
    clear hc
    refine lv_if_eq (tgt := 30) hx hb dX12_member_23 (by decide) (fun hq => ?_) (fun hq => ?_)
    · replace hf := if_t hq hf
      clear hq
      refine lv_iconst (v := (2 : Int32)) hx hb dX12_member_30 (by decide) ?_
      exact wX12_member_31 C g11 a0 a1 (2 : Int32) hf H locs ls h (lv_sub hl [0, 1, 2] rfl)
    · replace hf := if_f hq hf
      clear hq
      refine lv_iconst (v := (0 : Int32)) hx hb dX12_member_26 (by decide) ?_
      refine lv_goto (tgt := 31) hx hb dX12_member_27 (by decide) ?_
      exact wX12_member_31 C g11 a0 a1 (0 : Int32) hf H locs ls h (lv_sub hl [0, 1, 2] rfl)
  · replace hf := if_t hq hf
    clear hq
    refine lv_iconst (v := (1 : Int32)) hx hb dX12_member_10 (by decide) ?_
    refine lv_goto (tgt := 31) hx hb dX12_member_11 (by decide) ?_
    exact wX12_member_31 C g11 a0 a1 (1 : Int32) hf H locs ls h (lv_sub hl [0, 1, 2] rfl)

set_option maxHeartbeats 4000000 in
set_option maxRecDepth 100000 in
theorem qX12_chair {l : Launch} {D : va_G} {cs : Nat → ClassId} {ad : Nat → Nat} {r : Int32} {g' : MS} {g : MS}  (hf : fX12_chair g = some (r, g')) : GCon l D cs yX12_chair cX12_chair 1 (some .int) (rM 5) 0 0 [.ref (ad 48)] (MW cs ad g) (some (.int r)) (MW cs ad g') := by
  refine GCon.of (by decide) (Nat.le_of_ble_eq_true rfl) ?_
  intro p e s m args below meth c A ls H locs C h hl
  have hx := C.1
  have hb := C.2.1
  have C : MCx p s m args meth c A RX12 cX12_chair 1 (some .int) D cs := C
  have hl : lv_has ls 1 [(0, .ref (ad 48))] := hl
  unfold fX12_chair at hf
  refine lv_aload_n hx hb dX12_chair_0 rfl (lv_at hl 0 rfl) ?_
  refine lv_iconst (v := (0 : Int32)) hx hb dX12_chair_1 (by decide) ?_
  replace hf := bnd_ex hf
  obtain ⟨g1, eg1, hf⟩ := hf
  refine mp_4 C h dX12_chair_2 (fun H locs h => ?_)
  rw [← eg1] at h
  clear eg1
  refine lv_aload_n hx hb dX12_chair_5 rfl (lv_at hl 0 rfl) ?_
  replace hf := bndc_some hf
  obtain ⟨x2, g3, hc, hf⟩ := hf
  refine m_callVi [] C h cv_X12_328 (qX12_chairNow hc) rfl ⟨rfl, rfl⟩ ⟨Nat.le_of_ble_eq_true rfl, Nat.le_of_ble_eq_true rfl⟩ (m_recv C h) hl.1 rfl (Nat.le_of_ble_eq_true rfl) ⟨Nat.le_refl _, Nat.le_refl _⟩ dX12_chair_6 (fun H locs h => ?_)
  clear hc
  cases hf
  exact m_iret C h dX12_chair_9

set_option maxHeartbeats 4000000 in
set_option maxRecDepth 100000 in
theorem qX12_drags {l : Launch} {D : va_G} {cs : Nat → ClassId} {ad : Nat → Nat} {r : Int32} {g' : MS} {g : MS}  {a0 : Int32} (hf : fX12_drags g a0 = some (r, g')) : GCon l D cs yX12_drags cX12_drags 2 (some .int) (rM 6) 0 0 [.ref (ad 48), .int a0] (MW cs ad g) (some (.int r)) (MW cs ad g') := by
  refine GCon.of (by decide) (Nat.le_of_ble_eq_true rfl) ?_
  intro p e s m args below meth c A ls H locs C h hl
  have hx := C.1
  have hb := C.2.1
  have C : MCx p s m args meth c A RX12 cX12_drags 2 (some .int) D cs := C
  have hl : lv_has ls 2 [(0, .ref (ad 48)), (1, .int a0)] := hl
  unfold fX12_drags at hf
  refine lv_aload_n hx hb dX12_drags_0 rfl (lv_at hl 0 rfl) ?_
  refine lv_iconst (v := (0 : Int32)) hx hb dX12_drags_1 (by decide) ?_
  replace hf := bnd_ex hf
  obtain ⟨g1, eg1, hf⟩ := hf
  refine mp_4 C h dX12_drags_2 (fun H locs h => ?_)
  rw [← eg1] at h
  clear eg1
  refine lv_aload_n hx hb dX12_drags_5 rfl (lv_at hl 0 rfl) ?_
  refine lv_iload_n hx hb dX12_drags_6 rfl (lv_at hl 1 rfl) ?_
  refine lv_i2l hx hb dX12_drags_7 rfl ?_
  replace hf := bndc_some hf
  obtain ⟨x2, g3, hc, hf⟩ := hf
  refine m_callVi [.long a0.toInt64] C h cv_X12_319 (qX12_isMember hc) rfl ⟨rfl, rfl⟩ ⟨Nat.le_of_ble_eq_true rfl, Nat.le_of_ble_eq_true rfl⟩ (m_recv C h) hl.1 rfl (Nat.le_of_ble_eq_true rfl) ⟨Nat.le_refl _, Nat.le_refl _⟩ dX12_drags_8 (fun H locs h => ?_)
  clear hc
  refine lv_if_eq (tgt := 22) hx hb dX12_drags_11 (by decide) (fun hq => ?_) (fun hq => ?_)
  · replace hf := if_t hq hf
    clear hq
    refine lv_aload_n hx hb dX12_drags_22 rfl (lv_at hl 0 rfl) ?_
    refine lv_iconst (v := (1 : Int32)) hx hb dX12_drags_23 (by decide) ?_
    replace hf := bndc_some hf
    obtain ⟨x4, g5, hc, hf⟩ := hf
    refine m_callVi [.int (1 : Int32)] C h cv_X12_239 (qX12_fails hc) rfl ⟨rfl, rfl⟩ ⟨Nat.le_of_ble_eq_true rfl, Nat.le_of_ble_eq_true rfl⟩ (m_recv C h) hl.1 rfl (Nat.le_of_ble_eq_true rfl) ⟨Nat.le_refl _, Nat.le_refl _⟩ dX12_drags_24 (fun H locs h => ?_)
    clear hc
    cases hf
    exact m_iret C h dX12_drags_27
  · replace hf := if_f hq hf
    clear hq
    refine lv_aload_n hx hb dX12_drags_14 rfl (lv_at hl 0 rfl) ?_
    refine lv_iload_n hx hb dX12_drags_15 rfl (lv_at hl 1 rfl) ?_
    replace hf := bndc_some hf
    obtain ⟨x6, g7, hc, hf⟩ := hf
    refine m_callVi [.int a0] C h cv_X12_331 (qX12_draggedBy hc) rfl ⟨rfl, rfl⟩ ⟨Nat.le_of_ble_eq_true rfl, Nat.le_of_ble_eq_true rfl⟩ (m_recv C h) hl.1 rfl (Nat.le_of_ble_eq_true rfl) ⟨Nat.le_refl _, Nat.le_refl _⟩ dX12_drags_16 (fun H locs h => ?_)
    clear hc
    refine lv_goto (tgt := 27) hx hb dX12_drags_19 (by decide) ?_
    cases hf
    exact m_iret C h dX12_drags_27

set_option maxHeartbeats 4000000 in
set_option maxRecDepth 100000 in
theorem qX12_goes {l : Launch} {D : va_G} {cs : Nat → ClassId} {ad : Nat → Nat} {r : Int32} {g' : MS} {g : MS}  {a0 : Int32} (hf : fX12_goes g a0 = some (r, g')) : GCon l D cs yX12_goes cX12_goes 2 (some .int) (rM 5) 0 0 [.ref (ad 48), .int a0] (MW cs ad g) (some (.int r)) (MW cs ad g') := by
  refine GCon.of (by decide) (Nat.le_of_ble_eq_true rfl) ?_
  intro p e s m args below meth c A ls H locs C h hl
  have hx := C.1
  have hb := C.2.1
  have C : MCx p s m args meth c A RX12 cX12_goes 2 (some .int) D cs := C
  have hl : lv_has ls 2 [(0, .ref (ad 48)), (1, .int a0)] := hl
  unfold fX12_goes at hf
  refine lv_aload_n hx hb dX12_goes_0 rfl (lv_at hl 0 rfl) ?_
  refine lv_iconst (v := (0 : Int32)) hx hb dX12_goes_1 (by decide) ?_
  replace hf := bnd_ex hf
  obtain ⟨g1, eg1, hf⟩ := hf
  refine mp_4 C h dX12_goes_2 (fun H locs h => ?_)
  rw [← eg1] at h
  clear eg1
  refine lv_aload_n hx hb dX12_goes_5 rfl (lv_at hl 0 rfl) ?_
  refine lv_iload_n hx hb dX12_goes_6 rfl (lv_at hl 1 rfl) ?_
  refine lv_i2l hx hb dX12_goes_7 rfl ?_
  replace hf := bndc_some hf
  obtain ⟨x2, g3, hc, hf⟩ := hf
  refine m_callVi [.long a0.toInt64] C h cv_X12_319 (qX12_isMember hc) rfl ⟨rfl, rfl⟩ ⟨Nat.le_of_ble_eq_true rfl, Nat.le_of_ble_eq_true rfl⟩ (m_recv C h) hl.1 rfl (Nat.le_of_ble_eq_true rfl) ⟨Nat.le_refl _, Nat.le_refl _⟩ dX12_goes_8 (fun H locs h => ?_)
  clear hc
  refine lv_if_ne (tgt := 20) hx hb dX12_goes_11 (by decide) (fun hq => ?_) (fun hq => ?_)
  · replace hf := if_tn hq hf
    clear hq
    refine lv_aload_n hx hb dX12_goes_20 rfl (lv_at hl 0 rfl) ?_
    replace hf := bndv_some hf
    obtain ⟨g4, hc, hf⟩ := hf
    refine m_callVv [] C h cv_X12_310 (qX12_aimsNow hc) rfl ⟨rfl, rfl⟩ ⟨Nat.le_of_ble_eq_true rfl, Nat.le_of_ble_eq_true rfl⟩ (m_recv C h) hl.1 rfl (Nat.le_of_ble_eq_true rfl) ⟨Nat.le_refl _, Nat.le_refl _⟩ dX12_goes_21 (fun H locs h => ?_)
    clear hc
    refine lv_aload_n hx hb dX12_goes_24 rfl (lv_at hl 0 rfl) ?_
    replace hf := bndv_some hf
    obtain ⟨g5, hc, hf⟩ := hf
    refine m_callVv [] C h cv_X12_307 (qX12_laysVotes hc) rfl ⟨rfl, rfl⟩ ⟨Nat.le_of_ble_eq_true rfl, Nat.le_of_ble_eq_true rfl⟩ (m_recv C h) hl.1 rfl (Nat.le_of_ble_eq_true rfl) ⟨Nat.le_refl _, Nat.le_refl _⟩ dX12_goes_25 (fun H locs h => ?_)
    clear hc
    refine lv_aload_n hx hb dX12_goes_28 rfl (lv_at hl 0 rfl) ?_
    refine lv_iload_n hx hb dX12_goes_29 rfl (lv_at hl 1 rfl) ?_
    replace hf := bndc_some hf
    obtain ⟨x6, g7, hc, hf⟩ := hf
    refine m_callVi [.int a0] C h cv_X12_287 (qX12_isStuck hc) rfl ⟨rfl, rfl⟩ ⟨Nat.le_of_ble_eq_true rfl, Nat.le_of_ble_eq_true rfl⟩ (m_recv C h) hl.1 rfl (Nat.le_of_ble_eq_true rfl) ⟨Nat.le_refl _, Nat.le_refl _⟩ dX12_goes_30 (fun H locs h => ?_)
    clear hc
    refine lv_if_eq (tgt := 40) hx hb dX12_goes_33 (by decide) (fun hq => ?_) (fun hq => ?_)
    · replace hf := if_t hq hf
      clear hq
      refine lv_aload_n hx hb dX12_goes_40 rfl (lv_at hl 0 rfl) ?_
      refine lv_iload_n hx hb dX12_goes_41 rfl (lv_at hl 1 rfl) ?_
      replace hf := bndc_some hf
      obtain ⟨x8, g9, hc, hf⟩ := hf
      refine m_callVi [.int a0] C h cv_X12_316 (qX12_goesBy hc) rfl ⟨rfl, rfl⟩ ⟨Nat.le_of_ble_eq_true rfl, Nat.le_of_ble_eq_true rfl⟩ (m_recv C h) hl.1 rfl (Nat.le_of_ble_eq_true rfl) ⟨Nat.le_refl _, Nat.le_refl _⟩ dX12_goes_42 (fun H locs h => ?_)
      clear hc
      cases hf
      exact m_iret C h dX12_goes_45
    · replace hf := if_f hq hf
      clear hq
      refine lv_iconst (v := (0 : Int32)) hx hb dX12_goes_36 (by decide) ?_
      refine lv_goto (tgt := 45) hx hb dX12_goes_37 (by decide) ?_
      cases hf
      exact m_iret C h dX12_goes_45
  · replace hf := if_t hq hf
    clear hq
    refine lv_aload_n hx hb dX12_goes_14 rfl (lv_at hl 0 rfl) ?_
    refine lv_iconst (v := (1 : Int32)) hx hb dX12_goes_15 (by decide) ?_
    replace hf := bndc_some hf
    obtain ⟨x10, g11, hc, hf⟩ := hf
    refine m_callVi [.int (1 : Int32)] C h cv_X12_239 (qX12_fails hc) rfl ⟨rfl, rfl⟩ ⟨Nat.le_of_ble_eq_true rfl, Nat.le_of_ble_eq_true rfl⟩ (m_recv C h) hl.1 rfl (Nat.le_of_ble_eq_true rfl) ⟨Nat.le_refl _, Nat.le_refl _⟩ dX12_goes_16 (fun H locs h => ?_)
    clear hc
    cases hf
    exact m_iret C h dX12_goes_19

set_option maxHeartbeats 4000000 in
set_option maxRecDepth 100000 in
theorem wX12_keeps_54 (C : MCx p s m args meth c A RX12 cX12_keeps 2 none D cs)  {g' : MS}  : ∀ (n : Nat) (g : MS) (y1 : Int32), fX12_keeps_54 n g y1 = some g' → ∀ (H : Heap) (locs : List Loc) (ls : Array Slot), MH D (MW cs ad g) A s H locs → lv_has ls 2 [(0, .ref (ad 48)), (1, .int y1)] → W p l e (rM 0) s m args below meth c H locs 0 0 (MQ below (GPost D none (MW cs ad g') A) args s 0 0 A) (F0 m 54 ls []) := by
  have hx := C.1
  have hb := C.2.1
  intro n
  induction n with
  | zero =>
    intro g y1 hf
    exact absurd hf (by simp [fX12_keeps_54])
  | succ n ih =>
    intro g y1 hf H locs ls h hl
    rw [fX12_keeps_54] at hf
    refine lv_iload_n hx hb dX12_keeps_54 rfl (lv_at hl 1 rfl) ?_
    refine lv_bipush (v := (13 : Int32)) hx hb dX12_keeps_55 (by decide) ?_
    refine lv_icmp_ge (tgt := 94) hx hb dX12_keeps_57 (by decide) (fun hq => ?_) (fun hq => ?_)
    · replace hf := if_t hq hf
      clear hq
      refine lv_aload_n hx hb dX12_keeps_94 rfl (lv_at hl 0 rfl) ?_
      refine mg_0 C h dX12_keeps_95 ?_
      refine lv_iconst (v := (5 : Int32)) hx hb dX12_keeps_98 (by decide) ?_
      refine lv_dup2_11 hx hb dX12_keeps_99 rfl rfl ?_
      replace hf := chk_some hf
      obtain ⟨hq, hf⟩ := hf
      refine ml_0 C h hq dX12_keeps_100 ?_
      clear hq
      refine lv_iconst (v := (1 : Int32)) hx hb dX12_keeps_101 (by decide) ?_
      refine lv_iadd hx hb dX12_keeps_102 ?_
      replace hf := chk_some hf
      obtain ⟨hq, hf⟩ := hf
      replace hf := bnd_ex hf
      obtain ⟨g1, eg1, hf⟩ := hf
      refine ms_0 C h hq dX12_keeps_103 (fun H locs h => ?_)
      rw [← eg1] at h
      clear hq eg1
      cases hf
      exact m_vret C h dX12_keeps_104
    · replace hf := if_f hq hf
      clear hq
      refine lv_aload_n hx hb dX12_keeps_60 rfl (lv_at hl 0 rfl) ?_
      refine mg_0 C h dX12_keeps_61 ?_
      refine lv_bipush (v := (19 : Int32)) hx hb dX12_keeps_64 (by decide) ?_
      refine lv_bipush (v := (13 : Int32)) hx hb dX12_keeps_66 (by decide) ?_
      refine lv_aload_n hx hb dX12_keeps_68 rfl (lv_at hl 0 rfl) ?_
      refine mg_0 C h dX12_keeps_69 ?_
      refine lv_iconst (v := (5 : Int32)) hx hb dX12_keeps_72 (by decide) ?_
      replace hf := chk_some hf
      obtain ⟨hq, hf⟩ := hf
      refine ml_0 C h hq dX12_keeps_73 ?_
      clear hq
      refine lv_imul hx hb dX12_keeps_74 ?_
      refine lv_iadd hx hb dX12_keeps_75 ?_
      refine lv_iload_n hx hb dX12_keeps_76 rfl (lv_at hl 1 rfl) ?_
      refine lv_iadd hx hb dX12_keeps_77 ?_
      refine lv_aload_n hx hb dX12_keeps_78 rfl (lv_at hl 0 rfl) ?_
      refine mg_0 C h dX12_keeps_79 ?_
      refine lv_bipush (v := (6 : Int32)) hx hb dX12_keeps_82 (by decide) ?_
      refine lv_iload_n hx hb dX12_keeps_84 rfl (lv_at hl 1 rfl) ?_
      refine lv_iadd hx hb dX12_keeps_85 ?_
      replace hf := chk_some hf
      obtain ⟨hq, hf⟩ := hf
      refine ml_0 C h hq dX12_keeps_86 ?_
      clear hq
      replace hf := chk_some hf
      obtain ⟨hq, hf⟩ := hf
      replace hf := bnd_ex hf
      obtain ⟨g2, eg2, hf⟩ := hf
      refine ms_0 C h hq dX12_keeps_87 (fun H locs h => ?_)
      rw [← eg2] at h
      clear hq eg2
      obtain ⟨x3, ex3⟩ : ∃ z : Int32, z = y1 + (1 : Int32) := ⟨_, rfl⟩
      replace hf := bnd_at ex3 hf
      refine lv_iinc (v := x3) (lv' := [(1, .int x3), (0, .ref (ad 48))]) hx hb dX12_keeps_88 hl (k := 1) rfl (by rw [ex3]; rfl) (by decide) rfl (fun ls hl => ?_)
      clear ex3
      refine lv_goto (tgt := 54) hx hb dX12_keeps_91 (by decide) ?_
      exact ih g2 x3 hf H locs ls h (lv_sub hl [1, 0] rfl)

set_option maxHeartbeats 4000000 in
set_option maxRecDepth 100000 in
theorem wX12_keeps_14 (C : MCx p s m args meth c A RX12 cX12_keeps 2 none D cs)  {g' : MS}  : ∀ (n : Nat) (g : MS) (y1 : Int32), fX12_keeps_14 n g y1 = some g' → ∀ (H : Heap) (locs : List Loc) (ls : Array Slot), MH D (MW cs ad g) A s H locs → lv_has ls 2 [(0, .ref (ad 48)), (1, .int y1)] → W p l e (rM 0) s m args below meth c H locs 0 0 (MQ below (GPost D none (MW cs ad g') A) args s 0 0 A) (F0 m 14 ls []) := by
  have hx := C.1
  have hb := C.2.1
  intro n
  induction n with
  | zero =>
    intro g y1 hf
    exact absurd hf (by simp [fX12_keeps_14])
  | succ n ih =>
    intro g y1 hf H locs ls h hl
    rw [fX12_keeps_14] at hf
    refine lv_iload_n hx hb dX12_keeps_14 rfl (lv_at hl 1 rfl) ?_
    refine lv_sipush (v := (136 : Int32)) hx hb dX12_keeps_15 (by decide) ?_
    refine lv_icmp_ge (tgt := 42) hx hb dX12_keeps_18 (by decide) (fun hq => ?_) (fun hq => ?_)
    · replace hf := if_t hq hf
      clear hq
      refine lv_aload_n hx hb dX12_keeps_42 rfl (lv_at hl 0 rfl) ?_
      refine mg_0 C h dX12_keeps_43 ?_
      refine lv_iconst (v := (5 : Int32)) hx hb dX12_keeps_46 (by decide) ?_
      refine lv_dup2_11 hx hb dX12_keeps_47 rfl rfl ?_
      replace hf := chk_some hf
      obtain ⟨hq, hf⟩ := hf
      refine ml_0 C h hq dX12_keeps_48 ?_
      clear hq
      refine lv_iconst (v := (1 : Int32)) hx hb dX12_keeps_49 (by decide) ?_
      refine lv_isub hx hb dX12_keeps_50 ?_
      replace hf := chk_some hf
      obtain ⟨hq, hf⟩ := hf
      replace hf := bnd_ex hf
      obtain ⟨g4, eg4, hf⟩ := hf
      refine ms_0 C h hq dX12_keeps_51 (fun H locs h => ?_)
      rw [← eg4] at h
      clear hq eg4
      refine lv_iconst (v := (0 : Int32)) hx hb dX12_keeps_52 (by decide) ?_
      refine lv_istore_n (lv' := [(1, .int (0 : Int32)), (0, .ref (ad 48))]) hx hb dX12_keeps_53 rfl hl (by decide) rfl (fun ls hl => ?_)
      exact wX12_keeps_54 C fuel g4 (0 : Int32) hf H locs ls h (lv_sub hl [1, 0] rfl)
    · replace hf := if_f hq hf
      clear hq
      refine lv_aload_n hx hb dX12_keeps_21 rfl (lv_at hl 0 rfl) ?_
      refine mg_0 C h dX12_keeps_22 ?_
      refine lv_iload_n hx hb dX12_keeps_25 rfl (lv_at hl 1 rfl) ?_
      refine lv_aload_n hx hb dX12_keeps_26 rfl (lv_at hl 0 rfl) ?_
      refine mg_0 C h dX12_keeps_27 ?_
      refine lv_iload_n hx hb dX12_keeps_30 rfl (lv_at hl 1 rfl) ?_
      refine lv_bipush (v := (13 : Int32)) hx hb dX12_keeps_31 (by decide) ?_
      refine lv_iadd hx hb dX12_keeps_33 ?_
      replace hf := chk_some hf
      obtain ⟨hq, hf⟩ := hf
      refine ml_0 C h hq dX12_keeps_34 ?_
      clear hq
      replace hf := chk_some hf
      obtain ⟨hq, hf⟩ := hf
      replace hf := bnd_ex hf
      obtain ⟨g5, eg5, hf⟩ := hf
      refine ms_0 C h hq dX12_keeps_35 (fun H locs h => ?_)
      rw [← eg5] at h
      clear hq eg5
      obtain ⟨x6, ex6⟩ : ∃ z : Int32, z = y1 + (1 : Int32) := ⟨_, rfl⟩
      replace hf := bnd_at ex6 hf
      refine lv_iinc (v := x6) (lv' := [(1, .int x6), (0, .ref (ad 48))]) hx hb dX12_keeps_36 hl (k := 1) rfl (by rw [ex6]; rfl) (by decide) rfl (fun ls hl => ?_)
      clear ex6
      refine lv_goto (tgt := 14) hx hb dX12_keeps_39 (by decide) ?_
      exact ih g5 x6 hf H locs ls h (lv_sub hl [1, 0] rfl)

set_option maxHeartbeats 4000000 in
set_option maxRecDepth 100000 in
theorem qX12_keeps {l : Launch} {D : va_G} {cs : Nat → ClassId} {ad : Nat → Nat} {g' : MS} {g : MS}  (hf : fX12_keeps g = some g') : GCon l D cs yX12_keeps cX12_keeps 2 none (rM 0) 0 0 [.ref (ad 48)] (MW cs ad g) none (MW cs ad g') := by
  refine GCon.of (by decide) (Nat.le_of_ble_eq_true rfl) ?_
  intro p e s m args below meth c A ls H locs C h hl
  have hx := C.1
  have hb := C.2.1
  have C : MCx p s m args meth c A RX12 cX12_keeps 2 none D cs := C
  have hl : lv_has ls 2 [(0, .ref (ad 48))] := hl
  unfold fX12_keeps at hf
  refine lv_aload_n hx hb dX12_keeps_0 rfl (lv_at hl 0 rfl) ?_
  refine mg_0 C h dX12_keeps_1 ?_
  refine lv_iconst (v := (5 : Int32)) hx hb dX12_keeps_4 (by decide) ?_
  replace hf := chk_some hf
  obtain ⟨hq, hf⟩ := hf
  refine ml_0 C h hq dX12_keeps_5 ?_
  clear hq
  refine lv_bipush (v := (10 : Int32)) hx hb dX12_keeps_6 (by decide) ?_
  refine lv_icmp_ne (tgt := 52) hx hb dX12_keeps_8 (by decide) (fun hq => ?_) (fun hq => ?_)
  · replace hf := if_tn hq hf
    clear hq
    refine lv_iconst (v := (0 : Int32)) hx hb dX12_keeps_52 (by decide) ?_
    refine lv_istore_n (lv' := [(1, .int (0 : Int32)), (0, .ref (ad 48))]) hx hb dX12_keeps_53 rfl hl (by decide) rfl (fun ls hl => ?_)
    exact wX12_keeps_54 C fuel g (0 : Int32) hf H locs ls h (lv_sub hl [1, 0] rfl)
  · replace hf := if_t hq hf
    clear hq
    refine lv_bipush (v := (19 : Int32)) hx hb dX12_keeps_11 (by decide) ?_
    refine lv_istore_n (lv' := [(1, .int (19 : Int32)), (0, .ref (ad 48))]) hx hb dX12_keeps_13 rfl hl (by decide) rfl (fun ls hl => ?_)
    exact wX12_keeps_14 C fuel g (19 : Int32) hf H locs ls h (lv_sub hl [1, 0] rfl)

set_option maxHeartbeats 4000000 in
set_option maxRecDepth 100000 in
theorem wX12_putsAside_2 (C : MCx p s m args meth c A RX12 cX12_putsAside 2 none D cs)  {g' : MS}  : ∀ (n : Nat) (g : MS) (y1 : Int32), fX12_putsAside_2 n g y1 = some g' → ∀ (H : Heap) (locs : List Loc) (ls : Array Slot), MH D (MW cs ad g) A s H locs → lv_has ls 2 [(0, .ref (ad 48)), (1, .int y1)] → W p l e (rM 0) s m args below meth c H locs 0 0 (MQ below (GPost D none (MW cs ad g') A) args s 0 0 A) (F0 m 2 ls []) := by
  have hx := C.1
  have hb := C.2.1
  intro n
  induction n with
  | zero =>
    intro g y1 hf
    exact absurd hf (by simp [fX12_putsAside_2])
  | succ n ih =>
    intro g y1 hf H locs ls h hl
    rw [fX12_putsAside_2] at hf
    refine lv_iload_n hx hb dX12_putsAside_2 rfl (lv_at hl 1 rfl) ?_
    refine lv_bipush (v := (13 : Int32)) hx hb dX12_putsAside_3 (by decide) ?_
    refine lv_icmp_ge (tgt := 29) hx hb dX12_putsAside_5 (by decide) (fun hq => ?_) (fun hq => ?_)
    · replace hf := if_t hq hf
      clear hq
      cases hf
      exact m_vret C h dX12_putsAside_29
    · replace hf := if_f hq hf
      clear hq
      refine lv_aload_n hx hb dX12_putsAside_8 rfl (lv_at hl 0 rfl) ?_
      refine mg_24 C h dX12_putsAside_9 ?_
      refine lv_iload_n hx hb dX12_putsAside_12 rfl (lv_at hl 1 rfl) ?_
      refine lv_aload_n hx hb dX12_putsAside_13 rfl (lv_at hl 0 rfl) ?_
      refine mg_0 C h dX12_putsAside_14 ?_
      refine lv_bipush (v := (6 : Int32)) hx hb dX12_putsAside_17 (by decide) ?_
      refine lv_iload_n hx hb dX12_putsAside_19 rfl (lv_at hl 1 rfl) ?_
      refine lv_iadd hx hb dX12_putsAside_20 ?_
      replace hf := chk_some hf
      obtain ⟨hq, hf⟩ := hf
      refine ml_0 C h hq dX12_putsAside_21 ?_
      clear hq
      replace hf := chk_some hf
      obtain ⟨hq, hf⟩ := hf
      replace hf := bnd_ex hf
      obtain ⟨g1, eg1, hf⟩ := hf
      refine ms_24 C h hq dX12_putsAside_22 (fun H locs h => ?_)
      rw [← eg1] at h
      clear hq eg1
      obtain ⟨x2, ex2⟩ : ∃ z : Int32, z = y1 + (1 : Int32) := ⟨_, rfl⟩
      replace hf := bnd_at ex2 hf
      refine lv_iinc (v := x2) (lv' := [(1, .int x2), (0, .ref (ad 48))]) hx hb dX12_putsAside_23 hl (k := 1) rfl (by rw [ex2]; rfl) (by decide) rfl (fun ls hl => ?_)
      clear ex2
      refine lv_goto (tgt := 2) hx hb dX12_putsAside_26 (by decide) ?_
      exact ih g1 x2 hf H locs ls h (lv_sub hl [1, 0] rfl)

set_option maxHeartbeats 4000000 in
set_option maxRecDepth 100000 in
theorem qX12_putsAside {l : Launch} {D : va_G} {cs : Nat → ClassId} {ad : Nat → Nat} {g' : MS} {g : MS}  (hf : fX12_putsAside g = some g') : GCon l D cs yX12_putsAside cX12_putsAside 2 none (rM 0) 0 0 [.ref (ad 48)] (MW cs ad g) none (MW cs ad g') := by
  refine GCon.of (by decide) (Nat.le_of_ble_eq_true rfl) ?_
  intro p e s m args below meth c A ls H locs C h hl
  have hx := C.1
  have hb := C.2.1
  have C : MCx p s m args meth c A RX12 cX12_putsAside 2 none D cs := C
  have hl : lv_has ls 2 [(0, .ref (ad 48))] := hl
  unfold fX12_putsAside at hf
  refine lv_iconst (v := (0 : Int32)) hx hb dX12_putsAside_0 (by decide) ?_
  refine lv_istore_n (lv' := [(1, .int (0 : Int32)), (0, .ref (ad 48))]) hx hb dX12_putsAside_1 rfl hl (by decide) rfl (fun ls hl => ?_)
  exact wX12_putsAside_2 C fuel g (0 : Int32) hf H locs ls h (lv_sub hl [1, 0] rfl)

set_option maxHeartbeats 4000000 in
set_option maxRecDepth 100000 in
theorem wX12_putsBack_2 (C : MCx p s m args meth c A RX12 cX12_putsBack 2 none D cs)  {g' : MS}  : ∀ (n : Nat) (g : MS) (y1 : Int32), fX12_putsBack_2 n g y1 = some g' → ∀ (H : Heap) (locs : List Loc) (ls : Array Slot), MH D (MW cs ad g) A s H locs → lv_has ls 2 [(0, .ref (ad 48)), (1, .int y1)] → W p l e (rM 0) s m args below meth c H locs 0 0 (MQ below (GPost D none (MW cs ad g') A) args s 0 0 A) (F0 m 2 ls []) := by
  have hx := C.1
  have hb := C.2.1
  intro n
  induction n with
  | zero =>
    intro g y1 hf
    exact absurd hf (by simp [fX12_putsBack_2])
  | succ n ih =>
    intro g y1 hf H locs ls h hl
    rw [fX12_putsBack_2] at hf
    refine lv_iload_n hx hb dX12_putsBack_2 rfl (lv_at hl 1 rfl) ?_
    refine lv_bipush (v := (13 : Int32)) hx hb dX12_putsBack_3 (by decide) ?_
    refine lv_icmp_ge (tgt := 29) hx hb dX12_putsBack_5 (by decide) (fun hq => ?_) (fun hq => ?_)
    · replace hf := if_t hq hf
      clear hq
      cases hf
      exact m_vret C h dX12_putsBack_29
    · replace hf := if_f hq hf
      clear hq
      refine lv_aload_n hx hb dX12_putsBack_8 rfl (lv_at hl 0 rfl) ?_
      refine mg_0 C h dX12_putsBack_9 ?_
      refine lv_bipush (v := (6 : Int32)) hx hb dX12_putsBack_12 (by decide) ?_
      refine lv_iload_n hx hb dX12_putsBack_14 rfl (lv_at hl 1 rfl) ?_
      refine lv_iadd hx hb dX12_putsBack_15 ?_
      refine lv_aload_n hx hb dX12_putsBack_16 rfl (lv_at hl 0 rfl) ?_
      refine mg_24 C h dX12_putsBack_17 ?_
      refine lv_iload_n hx hb dX12_putsBack_20 rfl (lv_at hl 1 rfl) ?_
      replace hf := chk_some hf
      obtain ⟨hq, hf⟩ := hf
      refine ml_24 C h hq dX12_putsBack_21 ?_
      clear hq
      replace hf := chk_some hf
      obtain ⟨hq, hf⟩ := hf
      replace hf := bnd_ex hf
      obtain ⟨g1, eg1, hf⟩ := hf
      refine ms_0 C h hq dX12_putsBack_22 (fun H locs h => ?_)
      rw [← eg1] at h
      clear hq eg1
      obtain ⟨x2, ex2⟩ : ∃ z : Int32, z = y1 + (1 : Int32) := ⟨_, rfl⟩
      replace hf := bnd_at ex2 hf
      refine lv_iinc (v := x2) (lv' := [(1, .int x2), (0, .ref (ad 48))]) hx hb dX12_putsBack_23 hl (k := 1) rfl (by rw [ex2]; rfl) (by decide) rfl (fun ls hl => ?_)
      clear ex2
      refine lv_goto (tgt := 2) hx hb dX12_putsBack_26 (by decide) ?_
      exact ih g1 x2 hf H locs ls h (lv_sub hl [1, 0] rfl)

set_option maxHeartbeats 4000000 in
set_option maxRecDepth 100000 in
theorem qX12_putsBack {l : Launch} {D : va_G} {cs : Nat → ClassId} {ad : Nat → Nat} {g' : MS} {g : MS}  (hf : fX12_putsBack g = some g') : GCon l D cs yX12_putsBack cX12_putsBack 2 none (rM 0) 0 0 [.ref (ad 48)] (MW cs ad g) none (MW cs ad g') := by
  refine GCon.of (by decide) (Nat.le_of_ble_eq_true rfl) ?_
  intro p e s m args below meth c A ls H locs C h hl
  have hx := C.1
  have hb := C.2.1
  have C : MCx p s m args meth c A RX12 cX12_putsBack 2 none D cs := C
  have hl : lv_has ls 2 [(0, .ref (ad 48))] := hl
  unfold fX12_putsBack at hf
  refine lv_iconst (v := (0 : Int32)) hx hb dX12_putsBack_0 (by decide) ?_
  refine lv_istore_n (lv' := [(1, .int (0 : Int32)), (0, .ref (ad 48))]) hx hb dX12_putsBack_1 rfl hl (by decide) rfl (fun ls hl => ?_)
  exact wX12_putsBack_2 C fuel g (0 : Int32) hf H locs ls h (lv_sub hl [1, 0] rfl)

set_option maxHeartbeats 4000000 in
set_option maxRecDepth 100000 in
theorem wX12_whyTurn_23 (C : MCx p s m args meth c A RX12 cX12_whyTurn 5 (some .int) D cs)  {r : Int32} {g' : MS}  : ∀ (g : MS), fX12_whyTurn_23 g = some (r, g') → ∀ (H : Heap) (locs : List Loc) (ls : Array Slot), MH D (MW cs ad g) A s H locs → lv_has ls 5 [] → W p l e (rM 2) s m args below meth c H locs 0 0 (MQ below (GPost D (some (.int r)) (MW cs ad g') A) args s 0 0 A) (F0 m 23 ls []) := by
  have hx := C.1
  have hb := C.2.1
  intro g hf H locs ls h hl
  unfold fX12_whyTurn_23 at hf
  refine lv_iconst (v := (1 : Int32)) hx hb dX12_whyTurn_23 (by decide) ?_
  refine lv_goto (tgt := 41) hx hb dX12_whyTurn_24 (by decide) ?_
  cases hf
  exact m_iret C h dX12_whyTurn_41

set_option maxHeartbeats 4000000 in
set_option maxRecDepth 100000 in
theorem qX12_whyTurn {l : Launch} {D : va_G} {cs : Nat → ClassId} {ad : Nat → Nat} {r : Int32} {g' : MS} {g : MS}  {a0 : Int64} {a1 : Int64} (hf : fX12_whyTurn g a0 a1 = some (r, g')) : GCon l D cs yX12_whyTurn cX12_whyTurn 5 (some .int) (rM 2) 0 0 [.ref (ad 48), .long a0, .long a1] (MW cs ad g) (some (.int r)) (MW cs ad g') := by
  refine GCon.of (by decide) (Nat.le_of_ble_eq_true rfl) ?_
  intro p e s m args below meth c A ls H locs C h hl
  have hx := C.1
  have hb := C.2.1
  have C : MCx p s m args meth c A RX12 cX12_whyTurn 5 (some .int) D cs := C
  have hl : lv_has ls 5 [(0, .ref (ad 48)), (1, .long a0), (3, .long a1)] := hl
  unfold fX12_whyTurn at hf
  refine lv_aload_n hx hb dX12_whyTurn_0 rfl (lv_at hl 0 rfl) ?_
  refine lv_lload_n hx hb dX12_whyTurn_1 rfl (lv_at hl 1 rfl) ?_
  replace hf := bndc_some hf
  obtain ⟨x1, g2, hc, hf⟩ := hf
  refine m_callVi [.long a0] C h cv_X12_319 (qX12_isMember hc) rfl ⟨rfl, rfl⟩ ⟨Nat.le_of_ble_eq_true rfl, Nat.le_of_ble_eq_true rfl⟩ (m_recv C h) hl.1 rfl (Nat.le_of_ble_eq_true rfl) ⟨Nat.le_refl _, Nat.le_refl _⟩ dX12_whyTurn_2 (fun H locs h => ?_)
  clear hc
  refine lv_if_eq (tgt := 23) hx hb dX12_whyTurn_5 (by decide) (fun hq => ?_) (fun hq => ?_)
  · replace hf := if_t hq hf
    clear hq
    exact wX12_whyTurn_23 C g2 hf H locs ls h (lv_sub hl [] rfl)
  · replace hf := if_f hq hf
    clear hq
    refine lv_lload_n hx hb dX12_whyTurn_8 rfl (lv_at hl 2 rfl) ?_
    refine lv_lconst (v := (1 : Int64)) hx hb dX12_whyTurn_9 rfl ?_
    refine lv_aload_n hx hb dX12_whyTurn_10 rfl (lv_at hl 0 rfl) ?_
    replace hf := bndc_some hf
    obtain ⟨x3, g4, hc, hf⟩ := hf
    refine m_callVi [] C h cv_X12_254 (qX12_size hc) rfl ⟨rfl, rfl⟩ ⟨Nat.le_of_ble_eq_true rfl, Nat.le_of_ble_eq_true rfl⟩ (m_recv C h) hl.1 rfl (Nat.le_of_ble_eq_true rfl) ⟨Nat.le_refl _, Nat.le_refl _⟩ dX12_whyTurn_11 (fun H locs h => ?_)
    clear hc
    refine lv_iconst (v := (1 : Int32)) hx hb dX12_whyTurn_14 (by decide) ?_
    refine lv_isub hx hb dX12_whyTurn_15 ?_
    refine lv_i2l hx hb dX12_whyTurn_16 rfl ?_
    replace hf := bndv_some hf
    obtain ⟨x5, hc, hf⟩ := hf
    refine m_callSi [.long a1, .long (1 : Int64), .long ((x3 - (1 : Int32)).toInt64)] C h cs_X12_147 (qX12_within hc) rfl ⟨rfl, rfl⟩ ⟨Nat.le_of_ble_eq_true rfl, Nat.le_of_ble_eq_true rfl⟩ hl.1 rfl (Nat.le_of_ble_eq_true rfl) ⟨Nat.le_refl _, Nat.le_refl _⟩ dX12_whyTurn_17 (fun H locs h => ?_)
    clear hc
    refine lv_if_ne (tgt := 27) hx hb dX12_whyTurn_20 (by decide) (fun hq => ?_) (fun hq => ?_)
    · replace hf := if_tn hq hf
      clear hq
      refine lv_aload_n hx hb dX12_whyTurn_27 rfl (lv_at hl 0 rfl) ?_
      refine lv_lload_n hx hb dX12_whyTurn_28 rfl (lv_at hl 1 rfl) ?_
      refine lv_l2i hx hb dX12_whyTurn_29 rfl ?_
      replace hf := bndc_some hf
      obtain ⟨x6, g7, hc, hf⟩ := hf
      refine m_callVi [.int a0.toInt32] C h cv_X12_287 (qX12_isStuck hc) rfl ⟨rfl, rfl⟩ ⟨Nat.le_of_ble_eq_true rfl, Nat.le_of_ble_eq_true rfl⟩ (m_recv C h) hl.1 rfl (Nat.le_of_ble_eq_true rfl) ⟨Nat.le_refl _, Nat.le_refl _⟩ dX12_whyTurn_30 (fun H locs h => ?_)
      clear hc
      refine lv_if_eq (tgt := 40) hx hb dX12_whyTurn_33 (by decide) (fun hq => ?_) (fun hq => ?_)
      · replace hf := if_t hq hf
        clear hq
        refine lv_iconst (v := (0 : Int32)) hx hb dX12_whyTurn_40 (by decide) ?_
        cases hf
        exact m_iret C h dX12_whyTurn_41
      · replace hf := if_f hq hf
        clear hq
        refine lv_iconst (v := (2 : Int32)) hx hb dX12_whyTurn_36 (by decide) ?_
        refine lv_goto (tgt := 41) hx hb dX12_whyTurn_37 (by decide) ?_
        cases hf
        exact m_iret C h dX12_whyTurn_41
    · replace hf := if_t hq hf
      clear hq
      exact wX12_whyTurn_23 C g4 hf H locs ls h (lv_sub hl [] rfl)

set_option maxHeartbeats 4000000 in
set_option maxRecDepth 100000 in
theorem wX12_turnsBy_9 (C : MCx p s m args meth c A RX12 cX12_turnsBy 5 none D cs)  {g' : MS}  : ∀ (n : Nat) (g : MS) (y2 : Int32) (y3 : Int32) (y4 : Int32), fX12_turnsBy_9 n g y2 y3 y4 = some g' → ∀ (H : Heap) (locs : List Loc) (ls : Array Slot), MH D (MW cs ad g) A s H locs → lv_has ls 5 [(0, .ref (ad 48)), (2, .int y2), (3, .int y3), (4, .int y4)] → W p l e (rM 6) s m args below meth c H locs 0 0 (MQ below (GPost D none (MW cs ad g') A) args s 0 0 A) (F0 m 9 ls []) := by
  have hx := C.1
  have hb := C.2.1
  intro n
  induction n with
  | zero =>
    intro g y2 y3 y4 hf
    exact absurd hf (by simp [fX12_turnsBy_9])
  | succ n ih =>
    intro g y2 y3 y4 hf H locs ls h hl
    rw [fX12_turnsBy_9] at hf
    refine lv_iload hx hb dX12_turnsBy_9 (lv_at hl 3 rfl) ?_
    refine lv_aload_n hx hb dX12_turnsBy_11 rfl (lv_at hl 0 rfl) ?_
    replace hf := bndc_some hf
    obtain ⟨x1, g2, hc, hf⟩ := hf
    refine m_callVi [] C h cv_X12_254 (qX12_size hc) rfl ⟨rfl, rfl⟩ ⟨Nat.le_of_ble_eq_true rfl, Nat.le_of_ble_eq_true rfl⟩ (m_recv C h) hl.1 rfl (Nat.le_of_ble_eq_true rfl) ⟨Nat.le_refl _, Nat.le_refl _⟩ dX12_turnsBy_12 (fun H locs h => ?_)
    clear hc
    refine lv_icmp_ge (tgt := 60) hx hb dX12_turnsBy_15 (by decide) (fun hq => ?_) (fun hq => ?_)
    · replace hf := if_t hq hf
      clear hq
      cases hf
      exact m_vret C h dX12_turnsBy_60
    · replace hf := if_f hq hf
      clear hq
      refine lv_iload_n hx hb dX12_turnsBy_18 rfl (lv_at hl 2 rfl) ?_
      refine lv_iload hx hb dX12_turnsBy_19 (lv_at hl 3 rfl) ?_
      replace hf := bndv_some hf
      obtain ⟨x3, hc, hf⟩ := hf
      refine m_callSi [.int y3, .int y4] C h cs_X12_257 (qX12_has hc) rfl ⟨rfl, rfl⟩ ⟨Nat.le_of_ble_eq_true rfl, Nat.le_of_ble_eq_true rfl⟩ hl.1 rfl (Nat.le_of_ble_eq_true rfl) ⟨Nat.le_refl _, Nat.le_refl _⟩ dX12_turnsBy_21 (fun H locs h => ?_)
      clear hc
      refine lv_if_eq (tgt := 54) hx hb dX12_turnsBy_24 (by decide) (fun hq => ?_) (fun hq => ?_)
      · replace hf := if_t hq hf
        clear hq
        obtain ⟨x4, ex4⟩ : ∃ z : Int32, z = y4 + (1 : Int32) := ⟨_, rfl⟩
        replace hf := bnd_at ex4 hf
        refine lv_iinc (v := x4) (lv' := [(4, .int x4), (0, .ref (ad 48)), (2, .int y2), (3, .int y3)]) hx hb dX12_turnsBy_54 hl (k := 3) rfl (by rw [ex4]; rfl) (by decide) rfl (fun ls hl => ?_)
        clear ex4
        refine lv_goto (tgt := 9) hx hb dX12_turnsBy_57 (by decide) ?_
        exact ih g2 y2 y3 x4 hf H locs ls h (lv_sub hl [1, 2, 3, 0] rfl)
      · replace hf := if_f hq hf
        clear hq
        refine lv_aload_n hx hb dX12_turnsBy_27 rfl (lv_at hl 0 rfl) ?_
        refine mg_0 C h dX12_turnsBy_28 ?_
        refine lv_bipush (v := (6 : Int32)) hx hb dX12_turnsBy_31 (by decide) ?_
        refine lv_iload hx hb dX12_turnsBy_33 (lv_at hl 3 rfl) ?_
        refine lv_iadd hx hb dX12_turnsBy_35 ?_
        refine lv_aload_n hx hb dX12_turnsBy_36 rfl (lv_at hl 0 rfl) ?_
        refine mg_0 C h dX12_turnsBy_37 ?_
        refine lv_bipush (v := (6 : Int32)) hx hb dX12_turnsBy_40 (by decide) ?_
        refine lv_iload hx hb dX12_turnsBy_42 (lv_at hl 3 rfl) ?_
        refine lv_iadd hx hb dX12_turnsBy_44 ?_
        replace hf := chk_some hf
        obtain ⟨hq, hf⟩ := hf
        refine ml_0 C h hq dX12_turnsBy_45 ?_
        clear hq
        refine lv_iload_n hx hb dX12_turnsBy_46 rfl (lv_at hl 1 rfl) ?_
        refine lv_iadd hx hb dX12_turnsBy_47 ?_
        refine lv_aload_n hx hb dX12_turnsBy_48 rfl (lv_at hl 0 rfl) ?_
        replace hf := bndc_some hf
        obtain ⟨x5, g6, hc, hf⟩ := hf
        refine m_callVi [] C h cv_X12_254 (qX12_size hc) rfl ⟨rfl, rfl⟩ ⟨Nat.le_of_ble_eq_true rfl, Nat.le_of_ble_eq_true rfl⟩ (m_recv C h) hl.1 rfl (Nat.le_of_ble_eq_true rfl) ⟨Nat.le_refl _, Nat.le_refl _⟩ dX12_turnsBy_49 (fun H locs h => ?_)
        clear hc
        replace hf := chk_some hf
        obtain ⟨hq, hf⟩ := hf
        refine x_irem hx hb dX12_turnsBy_52 (nz_ne hq) ?_
        clear hq
        replace hf := chk_some hf
        obtain ⟨hq, hf⟩ := hf
        replace hf := bnd_ex hf
        obtain ⟨g7, eg7, hf⟩ := hf
        refine ms_0 C h hq dX12_turnsBy_53 (fun H locs h => ?_)
        rw [← eg7] at h
        clear hq eg7
        obtain ⟨x8, ex8⟩ : ∃ z : Int32, z = y4 + (1 : Int32) := ⟨_, rfl⟩
        replace hf := bnd_at ex8 hf
        refine lv_iinc (v := x8) (lv' := [(4, .int x8), (0, .ref (ad 48)), (2, .int y2), (3, .int y3)]) hx hb dX12_turnsBy_54 hl (k := 3) rfl (by rw [ex8]; rfl) (by decide) rfl (fun ls hl => ?_)
        clear ex8
        refine lv_goto (tgt := 9) hx hb dX12_turnsBy_57 (by decide) ?_
        exact ih g7 y2 y3 x8 hf H locs ls h (lv_sub hl [1, 2, 3, 0] rfl)

set_option maxHeartbeats 4000000 in
set_option maxRecDepth 100000 in
theorem qX12_turnsBy {l : Launch} {D : va_G} {cs : Nat → ClassId} {ad : Nat → Nat} {g' : MS} {g : MS}  {a0 : Int32} {a1 : Int32} (hf : fX12_turnsBy g a0 a1 = some g') : GCon l D cs yX12_turnsBy cX12_turnsBy 5 none (rM 6) 0 0 [.ref (ad 48), .int a0, .int a1] (MW cs ad g) none (MW cs ad g') := by
  refine GCon.of (by decide) (Nat.le_of_ble_eq_true rfl) ?_
  intro p e s m args below meth c A ls H locs C h hl
  have hx := C.1
  have hb := C.2.1
  have C : MCx p s m args meth c A RX12 cX12_turnsBy 5 none D cs := C
  have hl : lv_has ls 5 [(0, .ref (ad 48)), (1, .int a0), (2, .int a1)] := hl
  unfold fX12_turnsBy at hf
  refine lv_aload_n hx hb dX12_turnsBy_0 rfl (lv_at hl 0 rfl) ?_
  refine lv_iload_n hx hb dX12_turnsBy_1 rfl (lv_at hl 1 rfl) ?_
  replace hf := bndc_some hf
  obtain ⟨x9, g10, hc, hf⟩ := hf
  refine m_callVi [.int a0] C h cv_X12_331 (qX12_draggedBy hc) rfl ⟨rfl, rfl⟩ ⟨Nat.le_of_ble_eq_true rfl, Nat.le_of_ble_eq_true rfl⟩ (m_recv C h) hl.1 rfl (Nat.le_of_ble_eq_true rfl) ⟨Nat.le_refl _, Nat.le_refl _⟩ dX12_turnsBy_2 (fun H locs h => ?_)
  clear hc
  refine lv_istore_n (lv' := [(3, .int x9), (0, .ref (ad 48)), (1, .int a0), (2, .int a1)]) hx hb dX12_turnsBy_5 rfl hl (by decide) rfl (fun ls hl => ?_)
  refine lv_iconst (v := (0 : Int32)) hx hb dX12_turnsBy_6 (by decide) ?_
  refine lv_istore (lv' := [(4, .int (0 : Int32)), (3, .int x9), (0, .ref (ad 48)), (1, .int a0), (2, .int a1)]) hx hb dX12_turnsBy_7 hl (by decide) rfl (fun ls hl => ?_)
  exact wX12_turnsBy_9 C fuel g10 a1 x9 (0 : Int32) hf H locs ls h (lv_sub hl [2, 4, 1, 0] rfl)

set_option maxHeartbeats 4000000 in
set_option maxRecDepth 100000 in
theorem wX12_minuteNow_10 (C : MCx p s m args meth c A RX12 cX12_minuteNow 2 none D cs)  {g' : MS}  : ∀ (n : Nat) (g : MS) (y1 : Int32), fX12_minuteNow_10 n g y1 = some g' → ∀ (H : Heap) (locs : List Loc) (ls : Array Slot), MH D (MW cs ad g) A s H locs → lv_has ls 2 [(0, .ref (ad 48)), (1, .int y1)] → W p l e (rM 6) s m args below meth c H locs 0 0 (MQ below (GPost D none (MW cs ad g') A) args s 0 0 A) (F0 m 10 ls []) := by
  have hx := C.1
  have hb := C.2.1
  intro n
  induction n with
  | zero =>
    intro g y1 hf
    exact absurd hf (by simp [fX12_minuteNow_10])
  | succ n ih =>
    intro g y1 hf H locs ls h hl
    rw [fX12_minuteNow_10] at hf
    refine lv_iload_n hx hb dX12_minuteNow_10 rfl (lv_at hl 1 rfl) ?_
    refine lv_aload_n hx hb dX12_minuteNow_11 rfl (lv_at hl 0 rfl) ?_
    replace hf := bndc_some hf
    obtain ⟨x1, g2, hc, hf⟩ := hf
    refine m_callVi [] C h cv_X12_254 (qX12_size hc) rfl ⟨rfl, rfl⟩ ⟨Nat.le_of_ble_eq_true rfl, Nat.le_of_ble_eq_true rfl⟩ (m_recv C h) hl.1 rfl (Nat.le_of_ble_eq_true rfl) ⟨Nat.le_refl _, Nat.le_refl _⟩ dX12_minuteNow_12 (fun H locs h => ?_)
    clear hc
    refine lv_icmp_ge (tgt := 39) hx hb dX12_minuteNow_15 (by decide) (fun hq => ?_) (fun hq => ?_)
    · replace hf := if_t hq hf
      clear hq
      cases hf
      exact m_vret C h dX12_minuteNow_39
    · replace hf := if_f hq hf
      clear hq
      refine lv_aload_n hx hb dX12_minuteNow_18 rfl (lv_at hl 0 rfl) ?_
      refine mg_0 C h dX12_minuteNow_19 ?_
      refine lv_bipush (v := (6 : Int32)) hx hb dX12_minuteNow_22 (by decide) ?_
      refine lv_iload_n hx hb dX12_minuteNow_24 rfl (lv_at hl 1 rfl) ?_
      refine lv_iadd hx hb dX12_minuteNow_25 ?_
      refine lv_aload_n hx hb dX12_minuteNow_26 rfl (lv_at hl 0 rfl) ?_
      refine mg_21 C h dX12_minuteNow_27 ?_
      refine lv_iload_n hx hb dX12_minuteNow_30 rfl (lv_at hl 1 rfl) ?_
      replace hf := chk_some hf
      obtain ⟨hq, hf⟩ := hf
      refine ml_21 C h hq dX12_minuteNow_31 ?_
      clear hq
      replace hf := chk_some hf
      obtain ⟨hq, hf⟩ := hf
      replace hf := bnd_ex hf
      obtain ⟨g3, eg3, hf⟩ := hf
      refine ms_0 C h hq dX12_minuteNow_32 (fun H locs h => ?_)
      rw [← eg3] at h
      clear hq eg3
      obtain ⟨x4, ex4⟩ : ∃ z : Int32, z = y1 + (1 : Int32) := ⟨_, rfl⟩
      replace hf := bnd_at ex4 hf
      refine lv_iinc (v := x4) (lv' := [(1, .int x4), (0, .ref (ad 48))]) hx hb dX12_minuteNow_33 hl (k := 1) rfl (by rw [ex4]; rfl) (by decide) rfl (fun ls hl => ?_)
      clear ex4
      refine lv_goto (tgt := 10) hx hb dX12_minuteNow_36 (by decide) ?_
      exact ih g3 x4 hf H locs ls h (lv_sub hl [1, 0] rfl)

set_option maxHeartbeats 4000000 in
set_option maxRecDepth 100000 in
theorem qX12_minuteNow {l : Launch} {D : va_G} {cs : Nat → ClassId} {ad : Nat → Nat} {g' : MS} {g : MS}  (hf : fX12_minuteNow g = some g') : GCon l D cs yX12_minuteNow cX12_minuteNow 2 none (rM 6) 0 0 [.ref (ad 48)] (MW cs ad g) none (MW cs ad g') := by
  refine GCon.of (by decide) (Nat.le_of_ble_eq_true rfl) ?_
  intro p e s m args below meth c A ls H locs C h hl
  have hx := C.1
  have hb := C.2.1
  have C : MCx p s m args meth c A RX12 cX12_minuteNow 2 none D cs := C
  have hl : lv_has ls 2 [(0, .ref (ad 48))] := hl
  unfold fX12_minuteNow at hf
  refine lv_aload_n hx hb dX12_minuteNow_0 rfl (lv_at hl 0 rfl) ?_
  replace hf := bndv_some hf
  obtain ⟨g5, hc, hf⟩ := hf
  refine m_callVv [] C h cv_X12_310 (qX12_aimsNow hc) rfl ⟨rfl, rfl⟩ ⟨Nat.le_of_ble_eq_true rfl, Nat.le_of_ble_eq_true rfl⟩ (m_recv C h) hl.1 rfl (Nat.le_of_ble_eq_true rfl) ⟨Nat.le_refl _, Nat.le_refl _⟩ dX12_minuteNow_1 (fun H locs h => ?_)
  clear hc
  refine lv_aload_n hx hb dX12_minuteNow_4 rfl (lv_at hl 0 rfl) ?_
  replace hf := bndv_some hf
  obtain ⟨g6, hc, hf⟩ := hf
  refine m_callVv [] C h cv_X12_334 (qX12_minute hc) rfl ⟨rfl, rfl⟩ ⟨Nat.le_of_ble_eq_true rfl, Nat.le_of_ble_eq_true rfl⟩ (m_recv C h) hl.1 rfl (Nat.le_of_ble_eq_true rfl) ⟨Nat.le_refl _, Nat.le_refl _⟩ dX12_minuteNow_5 (fun H locs h => ?_)
  clear hc
  refine lv_iconst (v := (0 : Int32)) hx hb dX12_minuteNow_8 (by decide) ?_
  refine lv_istore_n (lv' := [(1, .int (0 : Int32)), (0, .ref (ad 48))]) hx hb dX12_minuteNow_9 rfl hl (by decide) rfl (fun ls hl => ?_)
  exact wX12_minuteNow_10 C fuel g6 (0 : Int32) hf H locs ls h (lv_sub hl [1, 0] rfl)

set_option maxHeartbeats 4000000 in
set_option maxRecDepth 100000 in
theorem qX12_turn {l : Launch} {D : va_G} {cs : Nat → ClassId} {ad : Nat → Nat} {r : Int32} {g' : MS} {g : MS}  {a0 : Int32} {a1 : Int32} (hf : fX12_turn g a0 a1 = some (r, g')) : GCon l D cs yX12_turn cX12_turn 4 (some .int) (rM 7) 0 0 [.ref (ad 48), .int a0, .int a1] (MW cs ad g) (some (.int r)) (MW cs ad g') := by
  refine GCon.of (by decide) (Nat.le_of_ble_eq_true rfl) ?_
  intro p e s m args below meth c A ls H locs C h hl
  have hx := C.1
  have hb := C.2.1
  have C : MCx p s m args meth c A RX12 cX12_turn 4 (some .int) D cs := C
  have hl : lv_has ls 4 [(0, .ref (ad 48)), (1, .int a0), (2, .int a1)] := hl
  unfold fX12_turn at hf
  refine lv_aload_n hx hb dX12_turn_0 rfl (lv_at hl 0 rfl) ?_
  refine lv_iconst (v := (0 : Int32)) hx hb dX12_turn_1 (by decide) ?_
  replace hf := bnd_ex hf
  obtain ⟨g1, eg1, hf⟩ := hf
  refine mp_4 C h dX12_turn_2 (fun H locs h => ?_)
  rw [← eg1] at h
  clear eg1
  refine lv_aload_n hx hb dX12_turn_5 rfl (lv_at hl 0 rfl) ?_
  refine lv_iload_n hx hb dX12_turn_6 rfl (lv_at hl 1 rfl) ?_
  refine lv_i2l hx hb dX12_turn_7 rfl ?_
  refine lv_iload_n hx hb dX12_turn_8 rfl (lv_at hl 2 rfl) ?_
  refine lv_i2l hx hb dX12_turn_9 rfl ?_
  replace hf := bndc_some hf
  obtain ⟨x2, g3, hc, hf⟩ := hf
  refine m_callVi [.long a0.toInt64, .long a1.toInt64] C h cv_X12_337 (qX12_whyTurn hc) rfl ⟨rfl, rfl⟩ ⟨Nat.le_of_ble_eq_true rfl, Nat.le_of_ble_eq_true rfl⟩ (m_recv C h) hl.1 rfl (Nat.le_of_ble_eq_true rfl) ⟨Nat.le_refl _, Nat.le_refl _⟩ dX12_turn_10 (fun H locs h => ?_)
  clear hc
  refine lv_istore_n (lv' := [(3, .int x2), (0, .ref (ad 48)), (1, .int a0), (2, .int a1)]) hx hb dX12_turn_13 rfl hl (by decide) rfl (fun ls hl => ?_)
  refine lv_iload_n hx hb dX12_turn_14 rfl (lv_at hl 0 rfl) ?_
  refine lv_if_eq (tgt := 21) hx hb dX12_turn_15 (by decide) (fun hq => ?_) (fun hq => ?_)
  · replace hf := if_t hq hf
    clear hq
    refine lv_aload_n hx hb dX12_turn_21 rfl (lv_at hl 1 rfl) ?_
    replace hf := bndv_some hf
    obtain ⟨g4, hc, hf⟩ := hf
    refine m_callVv [] C h cv_X12_341 (qX12_keeps hc) rfl ⟨rfl, rfl⟩ ⟨Nat.le_of_ble_eq_true rfl, Nat.le_of_ble_eq_true rfl⟩ (m_recv C h) hl.1 rfl (Nat.le_of_ble_eq_true rfl) ⟨Nat.le_refl _, Nat.le_refl _⟩ dX12_turn_22 (fun H locs h => ?_)
    clear hc
    refine lv_aload_n hx hb dX12_turn_25 rfl (lv_at hl 1 rfl) ?_
    refine lv_iload_n hx hb dX12_turn_26 rfl (lv_at hl 2 rfl) ?_
    refine lv_iload_n hx hb dX12_turn_27 rfl (lv_at hl 3 rfl) ?_
    replace hf := bndv_some hf
    obtain ⟨g5, hc, hf⟩ := hf
    refine m_callVv [.int a0, .int a1] C h cv_X12_344 (qX12_turnsBy hc) rfl ⟨rfl, rfl⟩ ⟨Nat.le_of_ble_eq_true rfl, Nat.le_of_ble_eq_true rfl⟩ (m_recv C h) hl.1 rfl (Nat.le_of_ble_eq_true rfl) ⟨Nat.le_refl _, Nat.le_refl _⟩ dX12_turn_28 (fun H locs h => ?_)
    clear hc
    refine lv_iload_n hx hb dX12_turn_31 rfl (lv_at hl 3 rfl) ?_
    refine lv_aload_n hx hb dX12_turn_32 rfl (lv_at hl 1 rfl) ?_
    refine lv_iload_n hx hb dX12_turn_33 rfl (lv_at hl 2 rfl) ?_
    replace hf := bndc_some hf
    obtain ⟨x6, g7, hc, hf⟩ := hf
    refine m_callVi [.int a0] C h cv_X12_325 (qX12_notchCosts hc) rfl ⟨rfl, rfl⟩ ⟨Nat.le_of_ble_eq_true rfl, Nat.le_of_ble_eq_true rfl⟩ (m_recv C h) hl.1 rfl (Nat.le_of_ble_eq_true rfl) ⟨Nat.le_refl _, Nat.le_refl _⟩ dX12_turn_34 (fun H locs h => ?_)
    clear hc
    refine lv_imul hx hb dX12_turn_37 ?_
    cases hf
    exact m_iret C h dX12_turn_38
  · replace hf := if_f hq hf
    clear hq
    refine lv_iload_n hx hb dX12_turn_18 rfl (lv_at hl 0 rfl) ?_
    refine lv_ineg hx hb dX12_turn_19 ?_
    cases hf
    exact m_iret C h dX12_turn_20

set_option maxHeartbeats 4000000 in
set_option maxRecDepth 100000 in
theorem qX12_weigh {l : Launch} {D : va_G} {cs : Nat → ClassId} {ad : Nat → Nat} {r : Int32} {g' : MS} {g : MS}  {a0 : Int32} {a1 : Int32} (hf : fX12_weigh g a0 a1 = some (r, g')) : GCon l D cs yX12_weigh cX12_weigh 4 (some .int) (rM 2) 0 0 [.ref (ad 48), .int a0, .int a1] (MW cs ad g) (some (.int r)) (MW cs ad g') := by
  refine GCon.of (by decide) (Nat.le_of_ble_eq_true rfl) ?_
  intro p e s m args below meth c A ls H locs C h hl
  have hx := C.1
  have hb := C.2.1
  have C : MCx p s m args meth c A RX12 cX12_weigh 4 (some .int) D cs := C
  have hl : lv_has ls 4 [(0, .ref (ad 48)), (1, .int a0), (2, .int a1)] := hl
  unfold fX12_weigh at hf
  refine lv_aload_n hx hb dX12_weigh_0 rfl (lv_at hl 0 rfl) ?_
  refine lv_iconst (v := (0 : Int32)) hx hb dX12_weigh_1 (by decide) ?_
  replace hf := bnd_ex hf
  obtain ⟨g1, eg1, hf⟩ := hf
  refine mp_4 C h dX12_weigh_2 (fun H locs h => ?_)
  rw [← eg1] at h
  clear eg1
  refine lv_aload_n hx hb dX12_weigh_5 rfl (lv_at hl 0 rfl) ?_
  refine lv_iload_n hx hb dX12_weigh_6 rfl (lv_at hl 1 rfl) ?_
  refine lv_i2l hx hb dX12_weigh_7 rfl ?_
  replace hf := bndc_some hf
  obtain ⟨x2, g3, hc, hf⟩ := hf
  refine m_callVi [.long a0.toInt64] C h cv_X12_319 (qX12_isMember hc) rfl ⟨rfl, rfl⟩ ⟨Nat.le_of_ble_eq_true rfl, Nat.le_of_ble_eq_true rfl⟩ (m_recv C h) hl.1 rfl (Nat.le_of_ble_eq_true rfl) ⟨Nat.le_refl _, Nat.le_refl _⟩ dX12_weigh_8 (fun H locs h => ?_)
  clear hc
  refine lv_if_eq (tgt := 26) hx hb dX12_weigh_11 (by decide) (fun hq => ?_) (fun hq => ?_)
  · replace hf := if_t hq hf
    clear hq
    refine lv_iconst (v := (-1 : Int32)) hx hb dX12_weigh_26 (by decide) ?_
    cases hf
    exact m_iret C h dX12_weigh_27
  · replace hf := if_f hq hf
    clear hq
    refine lv_iload_n hx hb dX12_weigh_14 rfl (lv_at hl 2 rfl) ?_
    refine lv_i2l hx hb dX12_weigh_15 rfl ?_
    refine lv_lconst (v := (1 : Int64)) hx hb dX12_weigh_16 rfl ?_
    refine lv_ldc2 hx hb C.2.2.2.1 (C.2.2.2.2.1 _ tb_36_5) dX12_weigh_17 ?_
    replace hf := bndv_some hf
    obtain ⟨x4, hc, hf⟩ := hf
    refine m_callSi [.long a1.toInt64, .long (1 : Int64), .long (9 : Int64)] C h cs_X12_147 (qX12_within hc) rfl ⟨rfl, rfl⟩ ⟨Nat.le_of_ble_eq_true rfl, Nat.le_of_ble_eq_true rfl⟩ hl.1 rfl (Nat.le_of_ble_eq_true rfl) ⟨Nat.le_refl _, Nat.le_refl _⟩ dX12_weigh_20 (fun H locs h => ?_)
    clear hc
    refine lv_if_ne (tgt := 28) hx hb dX12_weigh_23 (by decide) (fun hq => ?_) (fun hq => ?_)
    · replace hf := if_tn hq hf
      clear hq
      refine lv_aload_n hx hb dX12_weigh_28 rfl (lv_at hl 0 rfl) ?_
      replace hf := bndv_some hf
      obtain ⟨g5, hc, hf⟩ := hf
      refine m_callVv [] C h cv_X12_341 (qX12_keeps hc) rfl ⟨rfl, rfl⟩ ⟨Nat.le_of_ble_eq_true rfl, Nat.le_of_ble_eq_true rfl⟩ (m_recv C h) hl.1 rfl (Nat.le_of_ble_eq_true rfl) ⟨Nat.le_refl _, Nat.le_refl _⟩ dX12_weigh_29 (fun H locs h => ?_)
      clear hc
      refine lv_aload_n hx hb dX12_weigh_32 rfl (lv_at hl 0 rfl) ?_
      refine mg_0 C h dX12_weigh_33 ?_
      refine lv_bipush (v := (12 : Int32)) hx hb dX12_weigh_36 (by decide) ?_
      refine lv_iload_n hx hb dX12_weigh_38 rfl (lv_at hl 1 rfl) ?_
      refine lv_iadd hx hb dX12_weigh_39 ?_
      replace hf := chk_some hf
      obtain ⟨hq, hf⟩ := hf
      refine ml_0 C h hq dX12_weigh_40 ?_
      clear hq
      refine lv_topi (fun x6 ex6 => ?_)
      replace hf := bnd_at ex6 hf
      clear ex6
      refine lv_istore_n (lv' := [(3, .int x6), (0, .ref (ad 48)), (1, .int a0), (2, .int a1)]) hx hb dX12_weigh_41 rfl hl (by decide) rfl (fun ls hl => ?_)
      refine lv_aload_n hx hb dX12_weigh_42 rfl (lv_at hl 1 rfl) ?_
      refine mg_0 C h dX12_weigh_43 ?_
      refine lv_bipush (v := (12 : Int32)) hx hb dX12_weigh_46 (by decide) ?_
      refine lv_iload_n hx hb dX12_weigh_48 rfl (lv_at hl 2 rfl) ?_
      refine lv_iadd hx hb dX12_weigh_49 ?_
      refine lv_iload_n hx hb dX12_weigh_50 rfl (lv_at hl 3 rfl) ?_
      replace hf := chk_some hf
      obtain ⟨hq, hf⟩ := hf
      replace hf := bnd_ex hf
      obtain ⟨g7, eg7, hf⟩ := hf
      refine ms_0 C h hq dX12_weigh_51 (fun H locs h => ?_)
      rw [← eg7] at h
      clear hq eg7
      refine lv_iload_n hx hb dX12_weigh_52 rfl (lv_at hl 0 rfl) ?_
      cases hf
      exact m_iret C h dX12_weigh_53
    · replace hf := if_t hq hf
      clear hq
      refine lv_iconst (v := (-1 : Int32)) hx hb dX12_weigh_26 (by decide) ?_
      cases hf
      exact m_iret C h dX12_weigh_27

set_option maxHeartbeats 4000000 in
set_option maxRecDepth 100000 in
theorem qX12_stick {l : Launch} {D : va_G} {cs : Nat → ClassId} {ad : Nat → Nat} {r : Int32} {g' : MS} {g : MS}  {a0 : Int32} (hf : fX12_stick g a0 = some (r, g')) : GCon l D cs yX12_stick cX12_stick 2 (some .int) (rM 2) 0 0 [.ref (ad 48), .int a0] (MW cs ad g) (some (.int r)) (MW cs ad g') := by
  refine GCon.of (by decide) (Nat.le_of_ble_eq_true rfl) ?_
  intro p e s m args below meth c A ls H locs C h hl
  have hx := C.1
  have hb := C.2.1
  have C : MCx p s m args meth c A RX12 cX12_stick 2 (some .int) D cs := C
  have hl : lv_has ls 2 [(0, .ref (ad 48)), (1, .int a0)] := hl
  unfold fX12_stick at hf
  refine lv_aload_n hx hb dX12_stick_0 rfl (lv_at hl 0 rfl) ?_
  refine lv_iconst (v := (0 : Int32)) hx hb dX12_stick_1 (by decide) ?_
  replace hf := bnd_ex hf
  obtain ⟨g1, eg1, hf⟩ := hf
  refine mp_4 C h dX12_stick_2 (fun H locs h => ?_)
  rw [← eg1] at h
  clear eg1
  refine lv_aload_n hx hb dX12_stick_5 rfl (lv_at hl 0 rfl) ?_
  refine lv_iload_n hx hb dX12_stick_6 rfl (lv_at hl 1 rfl) ?_
  refine lv_i2l hx hb dX12_stick_7 rfl ?_
  replace hf := bndc_some hf
  obtain ⟨x2, g3, hc, hf⟩ := hf
  refine m_callVi [.long a0.toInt64] C h cv_X12_319 (qX12_isMember hc) rfl ⟨rfl, rfl⟩ ⟨Nat.le_of_ble_eq_true rfl, Nat.le_of_ble_eq_true rfl⟩ (m_recv C h) hl.1 rfl (Nat.le_of_ble_eq_true rfl) ⟨Nat.le_refl _, Nat.le_refl _⟩ dX12_stick_8 (fun H locs h => ?_)
  clear hc
  refine lv_if_ne (tgt := 16) hx hb dX12_stick_11 (by decide) (fun hq => ?_) (fun hq => ?_)
  · replace hf := if_tn hq hf
    clear hq
    refine lv_aload_n hx hb dX12_stick_16 rfl (lv_at hl 0 rfl) ?_
    replace hf := bndv_some hf
    obtain ⟨g4, hc, hf⟩ := hf
    refine m_callVv [] C h cv_X12_341 (qX12_keeps hc) rfl ⟨rfl, rfl⟩ ⟨Nat.le_of_ble_eq_true rfl, Nat.le_of_ble_eq_true rfl⟩ (m_recv C h) hl.1 rfl (Nat.le_of_ble_eq_true rfl) ⟨Nat.le_refl _, Nat.le_refl _⟩ dX12_stick_17 (fun H locs h => ?_)
    clear hc
    refine lv_aload_n hx hb dX12_stick_20 rfl (lv_at hl 0 rfl) ?_
    refine mg_0 C h dX12_stick_21 ?_
    refine lv_bipush (v := (18 : Int32)) hx hb dX12_stick_24 (by decide) ?_
    refine lv_dup2_11 hx hb dX12_stick_26 rfl rfl ?_
    replace hf := chk_some hf
    obtain ⟨hq, hf⟩ := hf
    refine ml_0 C h hq dX12_stick_27 ?_
    clear hq
    refine lv_iconst (v := (1 : Int32)) hx hb dX12_stick_28 (by decide) ?_
    refine lv_iload_n hx hb dX12_stick_29 rfl (lv_at hl 1 rfl) ?_
    refine x_ishl hx hb dX12_stick_30 ?_
    refine lv_ixor hx hb dX12_stick_31 ?_
    replace hf := chk_some hf
    obtain ⟨hq, hf⟩ := hf
    replace hf := bnd_ex hf
    obtain ⟨g5, eg5, hf⟩ := hf
    refine ms_0 C h hq dX12_stick_32 (fun H locs h => ?_)
    rw [← eg5] at h
    clear hq eg5
    refine lv_aload_n hx hb dX12_stick_33 rfl (lv_at hl 0 rfl) ?_
    refine lv_iload_n hx hb dX12_stick_34 rfl (lv_at hl 1 rfl) ?_
    replace hf := bndc_some hf
    obtain ⟨x6, g7, hc, hf⟩ := hf
    refine m_callVi [.int a0] C h cv_X12_287 (qX12_isStuck hc) rfl ⟨rfl, rfl⟩ ⟨Nat.le_of_ble_eq_true rfl, Nat.le_of_ble_eq_true rfl⟩ (m_recv C h) hl.1 rfl (Nat.le_of_ble_eq_true rfl) ⟨Nat.le_refl _, Nat.le_refl _⟩ dX12_stick_35 (fun H locs h => ?_)
    clear hc
    refine lv_if_eq (tgt := 45) hx hb dX12_stick_38 (by decide) (fun hq => ?_) (fun hq => ?_)
    · replace hf := if_t hq hf
      clear hq
      refine lv_iconst (v := (0 : Int32)) hx hb dX12_stick_45 (by decide) ?_
      cases hf
      exact m_iret C h dX12_stick_46
    · replace hf := if_f hq hf
      clear hq
      refine lv_iconst (v := (1 : Int32)) hx hb dX12_stick_41 (by decide) ?_
      refine lv_goto (tgt := 46) hx hb dX12_stick_42 (by decide) ?_
      cases hf
      exact m_iret C h dX12_stick_46
  · replace hf := if_t hq hf
    clear hq
    refine lv_iconst (v := (-1 : Int32)) hx hb dX12_stick_14 (by decide) ?_
    cases hf
    exact m_iret C h dX12_stick_15

set_option maxHeartbeats 4000000 in
set_option maxRecDepth 100000 in
theorem wX12_minutes_65 (C : MCx p s m args meth c A RX12 cX12_minutes 6 (some .int) D cs)  {r : Int32} {g' : MS}  {k37 : MS → Int32 → Int32 → Int32 → Int32 → Option (Int32 × MS)} (hk37 : ∀ (g : MS) (y1 : Int32) (y2 : Int32) (y3 : Int32) (y4 : Int32), k37 g y1 y2 y3 y4 = some (r, g') → ∀ (H : Heap) (locs : List Loc) (ls : Array Slot), MH D (MW cs ad g) A s H locs → lv_has ls 6 [(0, .ref (ad 48)), (1, .int y1), (2, .int y2), (3, .int y3), (4, .int y4)] → W p l e (rM 7) s m args below meth c H locs 0 0 (MQ below (GPost D (some (.int r)) (MW cs ad g') A) args s 0 0 A) (F0 m 37 ls [])) : ∀ (g : MS) (y1 : Int32) (y4 : Int32) (y5 : Int32) (t0 : Int32) (t1 : Int32), fX12_minutes_65 k37 g y1 y4 y5 t0 t1 = some (r, g') → ∀ (H : Heap) (locs : List Loc) (ls : Array Slot), MH D (MW cs ad g) A s H locs → lv_has ls 6 [(0, .ref (ad 48)), (1, .int y1), (4, .int y4), (5, .int y5)] → W p l e (rM 7) s m args below meth c H locs 0 0 (MQ below (GPost D (some (.int r)) (MW cs ad g') A) args s 0 0 A) (F0 m 65 ls [.int t1, .int t0]) := by
  have hx := C.1
  have hb := C.2.1
  intro g y1 y4 y5 t0 t1 hf H locs ls h hl
  unfold fX12_minutes_65 at hf
  refine lv_iadd hx hb dX12_minutes_65 ?_
  refine lv_topi (fun x1 ex1 => ?_)
  replace hf := bnd_at ex1 hf
  clear ex1
  refine lv_istore_n (lv' := [(2, .int x1), (0, .ref (ad 48)), (1, .int y1), (4, .int y4), (5, .int y5)]) hx hb dX12_minutes_66 rfl hl (by decide) rfl (fun ls hl => ?_)
  refine lv_iload hx hb dX12_minutes_67 (lv_at hl 4 rfl) ?_
  refine lv_istore_n (lv' := [(3, .int y5), (2, .int x1), (0, .ref (ad 48)), (1, .int y1), (4, .int y4), (5, .int y5)]) hx hb dX12_minutes_69 rfl hl (by decide) rfl (fun ls hl => ?_)
  obtain ⟨x2, ex2⟩ : ∃ z : Int32, z = y4 + (1 : Int32) := ⟨_, rfl⟩
  replace hf := bnd_at ex2 hf
  refine lv_iinc (v := x2) (lv' := [(4, .int x2), (3, .int y5), (2, .int x1), (0, .ref (ad 48)), (1, .int y1), (5, .int y5)]) hx hb dX12_minutes_70 hl (k := 4) rfl (by rw [ex2]; rfl) (by decide) rfl (fun ls hl => ?_)
  clear ex2
  refine lv_goto (tgt := 37) hx hb dX12_minutes_73 (by decide) ?_
  exact hk37 g y1 x1 y5 x2 hf H locs ls h (lv_sub hl [3, 4, 2, 1, 0] rfl)

set_option maxHeartbeats 4000000 in
set_option maxRecDepth 100000 in
theorem wX12_minutes_37 (C : MCx p s m args meth c A RX12 cX12_minutes 6 (some .int) D cs)  {r : Int32} {g' : MS}  : ∀ (n : Nat) (g : MS) (y1 : Int32) (y2 : Int32) (y3 : Int32) (y4 : Int32), fX12_minutes_37 n g y1 y2 y3 y4 = some (r, g') → ∀ (H : Heap) (locs : List Loc) (ls : Array Slot), MH D (MW cs ad g) A s H locs → lv_has ls 6 [(0, .ref (ad 48)), (1, .int y1), (2, .int y2), (3, .int y3), (4, .int y4)] → W p l e (rM 7) s m args below meth c H locs 0 0 (MQ below (GPost D (some (.int r)) (MW cs ad g') A) args s 0 0 A) (F0 m 37 ls []) := by
  have hx := C.1
  have hb := C.2.1
  intro n
  induction n with
  | zero =>
    intro g y1 y2 y3 y4 hf
    exact absurd hf (by simp [fX12_minutes_37])
  | succ n ih =>
    intro g y1 y2 y3 y4 hf H locs ls h hl
    rw [fX12_minutes_37] at hf
    refine lv_iload hx hb dX12_minutes_37 (lv_at hl 4 rfl) ?_
    refine lv_iload_n hx hb dX12_minutes_39 rfl (lv_at hl 1 rfl) ?_
    refine lv_icmp_ge (tgt := 76) hx hb dX12_minutes_40 (by decide) (fun hq => ?_) (fun hq => ?_)
    · replace hf := if_t hq hf
      clear hq
      refine lv_iload_n hx hb dX12_minutes_76 rfl (lv_at hl 2 rfl) ?_
      cases hf
      exact m_iret C h dX12_minutes_77
    · replace hf := if_f hq hf
      clear hq
      refine lv_aload_n hx hb dX12_minutes_43 rfl (lv_at hl 0 rfl) ?_
      replace hf := bndv_some hf
      obtain ⟨g3, hc, hf⟩ := hf
      refine m_callVv [] C h cv_X12_351 (qX12_minuteNow hc) rfl ⟨rfl, rfl⟩ ⟨Nat.le_of_ble_eq_true rfl, Nat.le_of_ble_eq_true rfl⟩ (m_recv C h) hl.1 rfl (Nat.le_of_ble_eq_true rfl) ⟨Nat.le_refl _, Nat.le_refl _⟩ dX12_minutes_44 (fun H locs h => ?_)
      clear hc
      refine lv_aload_n hx hb dX12_minutes_47 rfl (lv_at hl 0 rfl) ?_
      replace hf := bndc_some hf
      obtain ⟨x4, g5, hc, hf⟩ := hf
      refine m_callVi [] C h cv_X12_328 (qX12_chairNow hc) rfl ⟨rfl, rfl⟩ ⟨Nat.le_of_ble_eq_true rfl, Nat.le_of_ble_eq_true rfl⟩ (m_recv C h) hl.1 rfl (Nat.le_of_ble_eq_true rfl) ⟨Nat.le_refl _, Nat.le_refl _⟩ dX12_minutes_48 (fun H locs h => ?_)
      clear hc
      refine lv_istore (lv' := [(5, .int x4), (0, .ref (ad 48)), (1, .int y1), (2, .int y2), (3, .int y3), (4, .int y4)]) hx hb dX12_minutes_51 hl (by decide) rfl (fun ls hl => ?_)
      refine lv_iload_n hx hb dX12_minutes_53 rfl (lv_at hl 3 rfl) ?_
      refine lv_iload hx hb dX12_minutes_54 (lv_at hl 0 rfl) ?_
      refine lv_iload_n hx hb dX12_minutes_56 rfl (lv_at hl 4 rfl) ?_
      refine lv_icmp_ne (tgt := 64) hx hb dX12_minutes_57 (by decide) (fun hq => ?_) (fun hq => ?_)
      · replace hf := if_tn hq hf
        clear hq
        refine lv_iconst (v := (1 : Int32)) hx hb dX12_minutes_64 (by decide) ?_
        exact wX12_minutes_65 C ih g5 y1 y4 x4 y2 (1 : Int32) hf H locs ls h (lv_sub hl [1, 2, 5, 0] rfl)
      · replace hf := if_t hq hf
        clear hq
        refine lv_iconst (v := (0 : Int32)) hx hb dX12_minutes_60 (by decide) ?_
        refine lv_goto (tgt := 65) hx hb dX12_minutes_61 (by decide) ?_
        exact wX12_minutes_65 C ih g5 y1 y4 x4 y2 (0 : Int32) hf H locs ls h (lv_sub hl [1, 2, 5, 0] rfl)

set_option maxHeartbeats 4000000 in
set_option maxRecDepth 100000 in
theorem qX12_minutes {l : Launch} {D : va_G} {cs : Nat → ClassId} {ad : Nat → Nat} {r : Int32} {g' : MS} {g : MS}  {a0 : Int32} (hf : fX12_minutes g a0 = some (r, g')) : GCon l D cs yX12_minutes cX12_minutes 6 (some .int) (rM 7) 0 0 [.ref (ad 48), .int a0] (MW cs ad g) (some (.int r)) (MW cs ad g') := by
  refine GCon.of (by decide) (Nat.le_of_ble_eq_true rfl) ?_
  intro p e s m args below meth c A ls H locs C h hl
  have hx := C.1
  have hb := C.2.1
  have C : MCx p s m args meth c A RX12 cX12_minutes 6 (some .int) D cs := C
  have hl : lv_has ls 6 [(0, .ref (ad 48)), (1, .int a0)] := hl
  unfold fX12_minutes at hf
  refine lv_aload_n hx hb dX12_minutes_0 rfl (lv_at hl 0 rfl) ?_
  refine lv_iconst (v := (0 : Int32)) hx hb dX12_minutes_1 (by decide) ?_
  replace hf := bnd_ex hf
  obtain ⟨g6, eg6, hf⟩ := hf
  refine mp_4 C h dX12_minutes_2 (fun H locs h => ?_)
  rw [← eg6] at h
  clear eg6
  refine lv_iload_n hx hb dX12_minutes_5 rfl (lv_at hl 1 rfl) ?_
  refine lv_i2l hx hb dX12_minutes_6 rfl ?_
  refine lv_lconst (v := (1 : Int64)) hx hb dX12_minutes_7 rfl ?_
  refine lv_ldc2 hx hb C.2.2.2.1 (C.2.2.2.2.1 _ tb_37_12) dX12_minutes_8 ?_
  replace hf := bndv_some hf
  obtain ⟨x7, hc, hf⟩ := hf
  refine m_callSi [.long a0.toInt64, .long (1 : Int64), .long (99 : Int64)] C h cs_X12_147 (qX12_within hc) rfl ⟨rfl, rfl⟩ ⟨Nat.le_of_ble_eq_true rfl, Nat.le_of_ble_eq_true rfl⟩ hl.1 rfl (Nat.le_of_ble_eq_true rfl) ⟨Nat.le_refl _, Nat.le_refl _⟩ dX12_minutes_11 (fun H locs h => ?_)
  clear hc
  refine lv_if_ne (tgt := 23) hx hb dX12_minutes_14 (by decide) (fun hq => ?_) (fun hq => ?_)
  · replace hf := if_tn hq hf
    clear hq
    refine lv_aload_n hx hb dX12_minutes_23 rfl (lv_at hl 0 rfl) ?_
    replace hf := bndv_some hf
    obtain ⟨g8, hc, hf⟩ := hf
    refine m_callVv [] C h cv_X12_341 (qX12_keeps hc) rfl ⟨rfl, rfl⟩ ⟨Nat.le_of_ble_eq_true rfl, Nat.le_of_ble_eq_true rfl⟩ (m_recv C h) hl.1 rfl (Nat.le_of_ble_eq_true rfl) ⟨Nat.le_refl _, Nat.le_refl _⟩ dX12_minutes_24 (fun H locs h => ?_)
    clear hc
    refine lv_iconst (v := (0 : Int32)) hx hb dX12_minutes_27 (by decide) ?_
    refine lv_istore_n (lv' := [(2, .int (0 : Int32)), (0, .ref (ad 48)), (1, .int a0)]) hx hb dX12_minutes_28 rfl hl (by decide) rfl (fun ls hl => ?_)
    refine lv_aload_n hx hb dX12_minutes_29 rfl (lv_at hl 1 rfl) ?_
    replace hf := bndc_some hf
    obtain ⟨x9, g10, hc, hf⟩ := hf
    refine m_callVi [] C h cv_X12_328 (qX12_chairNow hc) rfl ⟨rfl, rfl⟩ ⟨Nat.le_of_ble_eq_true rfl, Nat.le_of_ble_eq_true rfl⟩ (m_recv C h) hl.1 rfl (Nat.le_of_ble_eq_true rfl) ⟨Nat.le_refl _, Nat.le_refl _⟩ dX12_minutes_30 (fun H locs h => ?_)
    clear hc
    refine lv_istore_n (lv' := [(3, .int x9), (2, .int (0 : Int32)), (0, .ref (ad 48)), (1, .int a0)]) hx hb dX12_minutes_33 rfl hl (by decide) rfl (fun ls hl => ?_)
    refine lv_iconst (v := (0 : Int32)) hx hb dX12_minutes_34 (by decide) ?_
    refine lv_istore (lv' := [(4, .int (0 : Int32)), (3, .int x9), (2, .int (0 : Int32)), (0, .ref (ad 48)), (1, .int a0)]) hx hb dX12_minutes_35 hl (by decide) rfl (fun ls hl => ?_)
    exact wX12_minutes_37 C fuel g10 a0 (0 : Int32) x9 (0 : Int32) hf H locs ls h (lv_sub hl [3, 4, 2, 1, 0] rfl)
  · replace hf := if_t hq hf
    clear hq
    refine lv_aload_n hx hb dX12_minutes_17 rfl (lv_at hl 0 rfl) ?_
    refine lv_iconst (v := (1 : Int32)) hx hb dX12_minutes_18 (by decide) ?_
    replace hf := bndc_some hf
    obtain ⟨x11, g12, hc, hf⟩ := hf
    refine m_callVi [.int (1 : Int32)] C h cv_X12_239 (qX12_fails hc) rfl ⟨rfl, rfl⟩ ⟨Nat.le_of_ble_eq_true rfl, Nat.le_of_ble_eq_true rfl⟩ (m_recv C h) hl.1 rfl (Nat.le_of_ble_eq_true rfl) ⟨Nat.le_refl _, Nat.le_refl _⟩ dX12_minutes_19 (fun H locs h => ?_)
    clear hc
    cases hf
    exact m_iret C h dX12_minutes_22

set_option maxHeartbeats 4000000 in
set_option maxRecDepth 100000 in
theorem wX12_undo_45 (C : MCx p s m args meth c A RX12 cX12_undo 3 (some .int) D cs)  {r : Int32} {g' : MS}  : ∀ (n : Nat) (g : MS) (y2 : Int32), fX12_undo_45 n g y2 = some (r, g') → ∀ (H : Heap) (locs : List Loc) (ls : Array Slot), MH D (MW cs ad g) A s H locs → lv_has ls 3 [(0, .ref (ad 48)), (2, .int y2)] → W p l e (rM 1) s m args below meth c H locs 0 0 (MQ below (GPost D (some (.int r)) (MW cs ad g') A) args s 0 0 A) (F0 m 45 ls []) := by
  have hx := C.1
  have hb := C.2.1
  intro n
  induction n with
  | zero =>
    intro g y2 hf
    exact absurd hf (by simp [fX12_undo_45])
  | succ n ih =>
    intro g y2 hf H locs ls h hl
    rw [fX12_undo_45] at hf
    refine lv_iload_n hx hb dX12_undo_45 rfl (lv_at hl 1 rfl) ?_
    refine lv_bipush (v := (13 : Int32)) hx hb dX12_undo_46 (by decide) ?_
    refine lv_icmp_ge (tgt := 85) hx hb dX12_undo_48 (by decide) (fun hq => ?_) (fun hq => ?_)
    · replace hf := if_t hq hf
      clear hq
      refine lv_aload_n hx hb dX12_undo_85 rfl (lv_at hl 0 rfl) ?_
      refine mg_0 C h dX12_undo_86 ?_
      refine lv_iconst (v := (5 : Int32)) hx hb dX12_undo_89 (by decide) ?_
      replace hf := chk_some hf
      obtain ⟨hq, hf⟩ := hf
      refine ml_0 C h hq dX12_undo_90 ?_
      clear hq
      cases hf
      exact m_iret C h dX12_undo_91
    · replace hf := if_f hq hf
      clear hq
      refine lv_aload_n hx hb dX12_undo_51 rfl (lv_at hl 0 rfl) ?_
      refine mg_0 C h dX12_undo_52 ?_
      refine lv_bipush (v := (6 : Int32)) hx hb dX12_undo_55 (by decide) ?_
      refine lv_iload_n hx hb dX12_undo_57 rfl (lv_at hl 1 rfl) ?_
      refine lv_iadd hx hb dX12_undo_58 ?_
      refine lv_aload_n hx hb dX12_undo_59 rfl (lv_at hl 0 rfl) ?_
      refine mg_0 C h dX12_undo_60 ?_
      refine lv_bipush (v := (19 : Int32)) hx hb dX12_undo_63 (by decide) ?_
      refine lv_bipush (v := (13 : Int32)) hx hb dX12_undo_65 (by decide) ?_
      refine lv_aload_n hx hb dX12_undo_67 rfl (lv_at hl 0 rfl) ?_
      refine mg_0 C h dX12_undo_68 ?_
      refine lv_iconst (v := (5 : Int32)) hx hb dX12_undo_71 (by decide) ?_
      replace hf := chk_some hf
      obtain ⟨hq, hf⟩ := hf
      refine ml_0 C h hq dX12_undo_72 ?_
      clear hq
      refine lv_imul hx hb dX12_undo_73 ?_
      refine lv_iadd hx hb dX12_undo_74 ?_
      refine lv_iload_n hx hb dX12_undo_75 rfl (lv_at hl 1 rfl) ?_
      refine lv_iadd hx hb dX12_undo_76 ?_
      replace hf := chk_some hf
      obtain ⟨hq, hf⟩ := hf
      refine ml_0 C h hq dX12_undo_77 ?_
      clear hq
      replace hf := chk_some hf
      obtain ⟨hq, hf⟩ := hf
      replace hf := bnd_ex hf
      obtain ⟨g1, eg1, hf⟩ := hf
      refine ms_0 C h hq dX12_undo_78 (fun H locs h => ?_)
      rw [← eg1] at h
      clear hq eg1
      obtain ⟨x2, ex2⟩ : ∃ z : Int32, z = y2 + (1 : Int32) := ⟨_, rfl⟩
      replace hf := bnd_at ex2 hf
      refine lv_iinc (v := x2) (lv' := [(2, .int x2), (0, .ref (ad 48))]) hx hb dX12_undo_79 hl (k := 1) rfl (by rw [ex2]; rfl) (by decide) rfl (fun ls hl => ?_)
      clear ex2
      refine lv_goto (tgt := 45) hx hb dX12_undo_82 (by decide) ?_
      exact ih g1 x2 hf H locs ls h (lv_sub hl [1, 0] rfl)

set_option maxHeartbeats 4000000 in
set_option maxRecDepth 100000 in
theorem wX12_undo_27 (C : MCx p s m args meth c A RX12 cX12_undo 3 (some .int) D cs)  {r : Int32} {g' : MS}  : ∀ (g : MS), fX12_undo_27 g = some (r, g') → ∀ (H : Heap) (locs : List Loc) (ls : Array Slot), MH D (MW cs ad g) A s H locs → lv_has ls 3 [(0, .ref (ad 48))] → W p l e (rM 1) s m args below meth c H locs 0 0 (MQ below (GPost D (some (.int r)) (MW cs ad g') A) args s 0 0 A) (F0 m 27 ls []) := by
  have hx := C.1
  have hb := C.2.1
  intro g hf H locs ls h hl
  unfold fX12_undo_27 at hf
  refine lv_aload_n hx hb dX12_undo_27 rfl (lv_at hl 0 rfl) ?_
  refine lv_iconst (v := (1 : Int32)) hx hb dX12_undo_28 (by decide) ?_
  replace hf := bndc_some hf
  obtain ⟨x3, g4, hc, hf⟩ := hf
  refine m_callVi [.int (1 : Int32)] C h cv_X12_239 (qX12_fails hc) rfl ⟨rfl, rfl⟩ ⟨Nat.le_of_ble_eq_true rfl, Nat.le_of_ble_eq_true rfl⟩ (m_recv C h) hl.1 rfl (Nat.le_of_ble_eq_true rfl) ⟨Nat.le_refl _, Nat.le_refl _⟩ dX12_undo_29 (fun H locs h => ?_)
  clear hc
  cases hf
  exact m_iret C h dX12_undo_32

set_option maxHeartbeats 4000000 in
set_option maxRecDepth 100000 in
theorem qX12_undo {l : Launch} {D : va_G} {cs : Nat → ClassId} {ad : Nat → Nat} {r : Int32} {g' : MS} {g : MS}  {a0 : Int32} (hf : fX12_undo g a0 = some (r, g')) : GCon l D cs yX12_undo cX12_undo 3 (some .int) (rM 1) 0 0 [.ref (ad 48), .int a0] (MW cs ad g) (some (.int r)) (MW cs ad g') := by
  refine GCon.of (by decide) (Nat.le_of_ble_eq_true rfl) ?_
  intro p e s m args below meth c A ls H locs C h hl
  have hx := C.1
  have hb := C.2.1
  have C : MCx p s m args meth c A RX12 cX12_undo 3 (some .int) D cs := C
  have hl : lv_has ls 3 [(0, .ref (ad 48)), (1, .int a0)] := hl
  unfold fX12_undo at hf
  refine lv_aload_n hx hb dX12_undo_0 rfl (lv_at hl 0 rfl) ?_
  refine lv_iconst (v := (0 : Int32)) hx hb dX12_undo_1 (by decide) ?_
  replace hf := bnd_ex hf
  obtain ⟨g5, eg5, hf⟩ := hf
  refine mp_4 C h dX12_undo_2 (fun H locs h => ?_)
  rw [← eg5] at h
  clear eg5
  refine lv_iload_n hx hb dX12_undo_5 rfl (lv_at hl 1 rfl) ?_
  refine lv_i2l hx hb dX12_undo_6 rfl ?_
  refine lv_lconst (v := (1 : Int64)) hx hb dX12_undo_7 rfl ?_
  refine lv_ldc2 hx hb C.2.2.2.1 (C.2.2.2.2.1 _ tb_38_14) dX12_undo_8 ?_
  replace hf := bndv_some hf
  obtain ⟨x6, hc, hf⟩ := hf
  refine m_callSi [.long a0.toInt64, .long (1 : Int64), .long (10 : Int64)] C h cs_X12_147 (qX12_within hc) rfl ⟨rfl, rfl⟩ ⟨Nat.le_of_ble_eq_true rfl, Nat.le_of_ble_eq_true rfl⟩ hl.1 rfl (Nat.le_of_ble_eq_true rfl) ⟨Nat.le_refl _, Nat.le_refl _⟩ dX12_undo_11 (fun H locs h => ?_)
  clear hc
  refine lv_if_eq (tgt := 27) hx hb dX12_undo_14 (by decide) (fun hq => ?_) (fun hq => ?_)
  · replace hf := if_t hq hf
    clear hq
    exact wX12_undo_27 C g5 hf H locs ls h (lv_sub hl [0] rfl)
  · replace hf := if_f hq hf
    clear hq
    refine lv_iload_n hx hb dX12_undo_17 rfl (lv_at hl 1 rfl) ?_
    refine lv_aload_n hx hb dX12_undo_18 rfl (lv_at hl 0 rfl) ?_
    refine mg_0 C h dX12_undo_19 ?_
    refine lv_iconst (v := (5 : Int32)) hx hb dX12_undo_22 (by decide) ?_
    replace hf := chk_some hf
    obtain ⟨hq, hf⟩ := hf
    refine ml_0 C h hq dX12_undo_23 ?_
    clear hq
    refine lv_icmp_le (tgt := 33) hx hb dX12_undo_24 (by decide) (fun hq => ?_) (fun hq => ?_)
    · replace hf := if_t hq hf
      clear hq
      refine lv_aload_n hx hb dX12_undo_33 rfl (lv_at hl 0 rfl) ?_
      refine mg_0 C h dX12_undo_34 ?_
      refine lv_iconst (v := (5 : Int32)) hx hb dX12_undo_37 (by decide) ?_
      refine lv_dup2_11 hx hb dX12_undo_38 rfl rfl ?_
      replace hf := chk_some hf
      obtain ⟨hq, hf⟩ := hf
      refine ml_0 C h hq dX12_undo_39 ?_
      clear hq
      refine lv_iload_n hx hb dX12_undo_40 rfl (lv_at hl 1 rfl) ?_
      refine lv_isub hx hb dX12_undo_41 ?_
      replace hf := chk_some hf
      obtain ⟨hq, hf⟩ := hf
      replace hf := bnd_ex hf
      obtain ⟨g7, eg7, hf⟩ := hf
      refine ms_0 C h hq dX12_undo_42 (fun H locs h => ?_)
      rw [← eg7] at h
      clear hq eg7
      refine lv_iconst (v := (0 : Int32)) hx hb dX12_undo_43 (by decide) ?_
      refine lv_istore_n (lv' := [(2, .int (0 : Int32)), (0, .ref (ad 48)), (1, .int a0)]) hx hb dX12_undo_44 rfl hl (by decide) rfl (fun ls hl => ?_)
      exact wX12_undo_45 C fuel g7 (0 : Int32) hf H locs ls h (lv_sub hl [1, 0] rfl)
    · replace hf := if_f hq hf
      clear hq
      exact wX12_undo_27 C g5 hf H locs ls h (lv_sub hl [0] rfl)

set_option maxHeartbeats 4000000 in
set_option maxRecDepth 100000 in
theorem qX12_isTray {l : Launch} {D : va_G} {cs : Nat → ClassId} {r : Int32}  {a0 : Int32} (hf : fX12_isTray a0 = some r) : GCon l D cs yX12_isTray cX12_isTray 1 (some .boolean) (rM 1) 0 0 [.int a0] [] (some (.int r)) [] := by
  refine GCon.of (by decide) (Nat.le_of_ble_eq_true rfl) ?_
  intro p e s m args below meth c A ls H locs C h hl
  have hx := C.1
  have hb := C.2.1
  have C : MCx p s m args meth c A RX12 cX12_isTray 1 (some .boolean) D cs := C
  have hl : lv_has ls 1 [(0, .int a0)] := hl
  unfold fX12_isTray at hf
  refine lv_iload_n hx hb dX12_isTray_0 rfl (lv_at hl 0 rfl) ?_
  refine lv_i2l hx hb dX12_isTray_1 rfl ?_
  refine lv_lconst (v := (0 : Int64)) hx hb dX12_isTray_2 rfl ?_
  refine lv_ldc2 hx hb C.2.2.2.1 (C.2.2.2.2.1 _ tb_40_5) dX12_isTray_3 ?_
  replace hf := bndv_some hf
  obtain ⟨x1, hc, hf⟩ := hf
  refine m_callSi [.long a0.toInt64, .long (0 : Int64), .long (3 : Int64)] C h cs_X12_147 (qX12_within hc) rfl ⟨rfl, rfl⟩ ⟨Nat.le_of_ble_eq_true rfl, Nat.le_of_ble_eq_true rfl⟩ hl.1 rfl (Nat.le_of_ble_eq_true rfl) ⟨Nat.le_refl _, Nat.le_refl _⟩ dX12_isTray_6 (fun H locs h => ?_)
  clear hc
  replace hf := chk_some hf
  obtain ⟨hq, hf⟩ := hf
  cases hf
  exact m_zret C h hq dX12_isTray_9

set_option maxHeartbeats 4000000 in
set_option maxRecDepth 100000 in
theorem qX12_trayFault {l : Launch} {D : va_G} {cs : Nat → ClassId} {ad : Nat → Nat} {r : Int32} {g' : MS} {g : MS}  {a0 : Int32} (hf : fX12_trayFault g a0 = some (r, g')) : GCon l D cs yX12_trayFault cX12_trayFault 2 (some .int) (rM 2) 0 0 [.ref (ad 48), .int a0] (MW cs ad g) (some (.int r)) (MW cs ad g') := by
  refine GCon.of (by decide) (Nat.le_of_ble_eq_true rfl) ?_
  intro p e s m args below meth c A ls H locs C h hl
  have hx := C.1
  have hb := C.2.1
  have C : MCx p s m args meth c A RX12 cX12_trayFault 2 (some .int) D cs := C
  have hl : lv_has ls 2 [(0, .ref (ad 48)), (1, .int a0)] := hl
  unfold fX12_trayFault at hf
  refine lv_iload_n hx hb dX12_trayFault_0 rfl (lv_at hl 1 rfl) ?_
  replace hf := bndv_some hf
  obtain ⟨x1, hc, hf⟩ := hf
  refine m_callSi [.int a0] C h cs_X12_356 (qX12_isTray hc) rfl ⟨rfl, rfl⟩ ⟨Nat.le_of_ble_eq_true rfl, Nat.le_of_ble_eq_true rfl⟩ hl.1 rfl (Nat.le_of_ble_eq_true rfl) ⟨Nat.le_refl _, Nat.le_refl _⟩ dX12_trayFault_1 (fun H locs h => ?_)
  clear hc
  refine lv_if_ne (tgt := 11) hx hb dX12_trayFault_4 (by decide) (fun hq => ?_) (fun hq => ?_)
  · replace hf := if_tn hq hf
    clear hq
    refine lv_aload_n hx hb dX12_trayFault_11 rfl (lv_at hl 0 rfl) ?_
    refine mg_45 C h dX12_trayFault_12 ?_
    refine lv_iload_n hx hb dX12_trayFault_15 rfl (lv_at hl 1 rfl) ?_
    replace hf := chk_some hf
    obtain ⟨hq, hf⟩ := hf
    refine ml_45 C h hq dX12_trayFault_16 ?_
    clear hq
    refine lv_iconst (v := (-1 : Int32)) hx hb dX12_trayFault_17 (by decide) ?_
    refine lv_icmp_ne (tgt := 25) hx hb dX12_trayFault_18 (by decide) (fun hq => ?_) (fun hq => ?_)
    · replace hf := if_tn hq hf
      clear hq
      refine lv_iconst (v := (0 : Int32)) hx hb dX12_trayFault_25 (by decide) ?_
      cases hf
      exact m_iret C h dX12_trayFault_26
    · replace hf := if_t hq hf
      clear hq
      refine lv_iconst (v := (2 : Int32)) hx hb dX12_trayFault_21 (by decide) ?_
      refine lv_goto (tgt := 26) hx hb dX12_trayFault_22 (by decide) ?_
      cases hf
      exact m_iret C h dX12_trayFault_26
  · replace hf := if_t hq hf
    clear hq
    refine lv_iconst (v := (1 : Int32)) hx hb dX12_trayFault_7 (by decide) ?_
    refine lv_goto (tgt := 26) hx hb dX12_trayFault_8 (by decide) ?_
    cases hf
    exact m_iret C h dX12_trayFault_26

set_option maxHeartbeats 4000000 in
set_option maxRecDepth 100000 in
theorem qX12_whyTold {l : Launch} {D : va_G} {cs : Nat → ClassId} {ad : Nat → Nat} {r : Int32} {g' : MS} {g : MS}  {a0 : Int64} (hf : fX12_whyTold g a0 = some (r, g')) : GCon l D cs yX12_whyTold cX12_whyTold 3 (some .int) (rM 3) 0 0 [.ref (ad 48), .long a0] (MW cs ad g) (some (.int r)) (MW cs ad g') := by
  refine GCon.of (by decide) (Nat.le_of_ble_eq_true rfl) ?_
  intro p e s m args below meth c A ls H locs C h hl
  have hx := C.1
  have hb := C.2.1
  have C : MCx p s m args meth c A RX12 cX12_whyTold 3 (some .int) D cs := C
  have hl : lv_has ls 3 [(0, .ref (ad 48)), (1, .long a0)] := hl
  unfold fX12_whyTold at hf
  refine lv_lload_n hx hb dX12_whyTold_0 rfl (lv_at hl 1 rfl) ?_
  refine lv_ldc2 hx hb C.2.2.2.1 (C.2.2.2.2.1 _ tb_40_21) dX12_whyTold_1 ?_
  refine W.lcmp hx hb dX12_whyTold_4 ?_
  refine lv_if_ne (tgt := 10) hx hb dX12_whyTold_5 (by decide) (fun hq => ?_) (fun hq => ?_)
  · replace hf := if_tn hq hf
    clear hq
    refine lv_lload_n hx hb dX12_whyTold_10 rfl (lv_at hl 1 rfl) ?_
    refine lv_lconst (v := (0 : Int64)) hx hb dX12_whyTold_11 rfl ?_
    refine lv_ldc2 hx hb C.2.2.2.1 (C.2.2.2.2.1 _ tb_37_12) dX12_whyTold_12 ?_
    replace hf := bndv_some hf
    obtain ⟨x1, hc, hf⟩ := hf
    refine m_callSi [.long a0, .long (0 : Int64), .long (99 : Int64)] C h cs_X12_147 (qX12_within hc) rfl ⟨rfl, rfl⟩ ⟨Nat.le_of_ble_eq_true rfl, Nat.le_of_ble_eq_true rfl⟩ hl.1 rfl (Nat.le_of_ble_eq_true rfl) ⟨Nat.le_refl _, Nat.le_refl _⟩ dX12_whyTold_15 (fun H locs h => ?_)
    clear hc
    refine lv_if_eq (tgt := 36) hx hb dX12_whyTold_18 (by decide) (fun hq => ?_) (fun hq => ?_)
    · replace hf := if_t hq hf
      clear hq
      refine lv_lload_n hx hb dX12_whyTold_36 rfl (lv_at hl 1 rfl) ?_
      refine lv_ldc2 hx hb C.2.2.2.1 (C.2.2.2.2.1 _ tb_40_22) dX12_whyTold_37 ?_
      refine lv_ldc2 hx hb C.2.2.2.1 (C.2.2.2.2.1 _ tb_40_23) dX12_whyTold_40 ?_
      replace hf := bndv_some hf
      obtain ⟨x2, hc, hf⟩ := hf
      refine m_callSi [.long a0, .long (100 : Int64), .long (199 : Int64)] C h cs_X12_147 (qX12_within hc) rfl ⟨rfl, rfl⟩ ⟨Nat.le_of_ble_eq_true rfl, Nat.le_of_ble_eq_true rfl⟩ hl.1 rfl (Nat.le_of_ble_eq_true rfl) ⟨Nat.le_refl _, Nat.le_refl _⟩ dX12_whyTold_43 (fun H locs h => ?_)
      clear hc
      refine lv_if_eq (tgt := 81) hx hb dX12_whyTold_46 (by decide) (fun hq => ?_) (fun hq => ?_)
      · replace hf := if_t hq hf
        clear hq
        refine lv_lload_n hx hb dX12_whyTold_81 rfl (lv_at hl 1 rfl) ?_
        refine lv_ldc2 hx hb C.2.2.2.1 (C.2.2.2.2.1 _ tb_41_0) dX12_whyTold_82 ?_
        refine lv_ldc2 hx hb C.2.2.2.1 (C.2.2.2.2.1 _ tb_41_1) dX12_whyTold_85 ?_
        replace hf := bndv_some hf
        obtain ⟨x3, hc, hf⟩ := hf
        refine m_callSi [.long a0, .long (200 : Int64), .long (299 : Int64)] C h cs_X12_147 (qX12_within hc) rfl ⟨rfl, rfl⟩ ⟨Nat.le_of_ble_eq_true rfl, Nat.le_of_ble_eq_true rfl⟩ hl.1 rfl (Nat.le_of_ble_eq_true rfl) ⟨Nat.le_refl _, Nat.le_refl _⟩ dX12_whyTold_88 (fun H locs h => ?_)
        clear hc
        refine lv_if_eq (tgt := 110) hx hb dX12_whyTold_91 (by decide) (fun hq => ?_) (fun hq => ?_)
        · replace hf := if_t hq hf
          clear hq
          refine lv_iconst (v := (1 : Int32)) hx hb dX12_whyTold_110 (by decide) ?_
          cases hf
          exact m_iret C h dX12_whyTold_111
        · replace hf := if_f hq hf
          clear hq
          refine lv_aload_n hx hb dX12_whyTold_94 rfl (lv_at hl 0 rfl) ?_
          refine lv_lload_n hx hb dX12_whyTold_95 rfl (lv_at hl 1 rfl) ?_
          refine lv_ldc2 hx hb C.2.2.2.1 (C.2.2.2.2.1 _ tb_41_0) dX12_whyTold_96 ?_
          refine lv_lsub hx hb dX12_whyTold_99 ?_
          replace hf := bndc_some hf
          obtain ⟨x4, g5, hc, hf⟩ := hf
          refine m_callVi [.long (a0 - (200 : Int64))] C h cv_X12_319 (qX12_isMember hc) rfl ⟨rfl, rfl⟩ ⟨Nat.le_of_ble_eq_true rfl, Nat.le_of_ble_eq_true rfl⟩ (m_recv C h) hl.1 rfl (Nat.le_of_ble_eq_true rfl) ⟨Nat.le_refl _, Nat.le_refl _⟩ dX12_whyTold_100 (fun H locs h => ?_)
          clear hc
          refine lv_if_eq (tgt := 110) hx hb dX12_whyTold_103 (by decide) (fun hq => ?_) (fun hq => ?_)
          · replace hf := if_t hq hf
            clear hq
            refine lv_iconst (v := (1 : Int32)) hx hb dX12_whyTold_110 (by decide) ?_
            cases hf
            exact m_iret C h dX12_whyTold_111
          · replace hf := if_f hq hf
            clear hq
            refine lv_iconst (v := (0 : Int32)) hx hb dX12_whyTold_106 (by decide) ?_
            refine lv_goto (tgt := 111) hx hb dX12_whyTold_107 (by decide) ?_
            cases hf
            exact m_iret C h dX12_whyTold_111
      · replace hf := if_f hq hf
        clear hq
        refine lv_aload_n hx hb dX12_whyTold_49 rfl (lv_at hl 0 rfl) ?_
        refine lv_lload_n hx hb dX12_whyTold_50 rfl (lv_at hl 1 rfl) ?_
        refine lv_ldc2 hx hb C.2.2.2.1 (C.2.2.2.2.1 _ tb_40_22) dX12_whyTold_51 ?_
        refine lv_lsub hx hb dX12_whyTold_54 ?_
        refine lv_ldc2 hx hb C.2.2.2.1 (C.2.2.2.2.1 _ tb_38_14) dX12_whyTold_55 ?_
        replace hf := chk_some hf
        obtain ⟨hq, hf⟩ := hf
        refine lv_ldiv hx hb dX12_whyTold_58 (nzL_ne hq) ?_
        clear hq
        replace hf := bndc_some hf
        obtain ⟨x6, g7, hc, hf⟩ := hf
        refine m_callVi [.long ((a0 - (100 : Int64)) / (10 : Int64))] C h cv_X12_319 (qX12_isMember hc) rfl ⟨rfl, rfl⟩ ⟨Nat.le_of_ble_eq_true rfl, Nat.le_of_ble_eq_true rfl⟩ (m_recv C h) hl.1 rfl (Nat.le_of_ble_eq_true rfl) ⟨Nat.le_refl _, Nat.le_refl _⟩ dX12_whyTold_59 (fun H locs h => ?_)
        clear hc
        refine lv_if_eq (tgt := 79) hx hb dX12_whyTold_62 (by decide) (fun hq => ?_) (fun hq => ?_)
        · replace hf := if_t hq hf
          clear hq
          refine lv_iconst (v := (1 : Int32)) hx hb dX12_whyTold_79 (by decide) ?_
          cases hf
          exact m_iret C h dX12_whyTold_80
        · replace hf := if_f hq hf
          clear hq
          refine lv_lload_n hx hb dX12_whyTold_65 rfl (lv_at hl 1 rfl) ?_
          refine lv_ldc2 hx hb C.2.2.2.1 (C.2.2.2.2.1 _ tb_38_14) dX12_whyTold_66 ?_
          replace hf := chk_some hf
          obtain ⟨hq, hf⟩ := hf
          refine x_lrem hx hb dX12_whyTold_69 (nzL_ne hq) ?_
          clear hq
          refine lv_lconst (v := (0 : Int64)) hx hb dX12_whyTold_70 rfl ?_
          refine W.lcmp hx hb dX12_whyTold_71 ?_
          refine lv_if_le (tgt := 79) hx hb dX12_whyTold_72 (by decide) (fun hq => ?_) (fun hq => ?_)
          · replace hf := if_t hq hf
            clear hq
            refine lv_iconst (v := (1 : Int32)) hx hb dX12_whyTold_79 (by decide) ?_
            cases hf
            exact m_iret C h dX12_whyTold_80
          · replace hf := if_f hq hf
            clear hq
            refine lv_iconst (v := (0 : Int32)) hx hb dX12_whyTold_75 (by decide) ?_
            refine lv_goto (tgt := 80) hx hb dX12_whyTold_76 (by decide) ?_
            cases hf
            exact m_iret C h dX12_whyTold_80
    · replace hf := if_f hq hf
      clear hq
      refine lv_aload_n hx hb dX12_whyTold_21 rfl (lv_at hl 0 rfl) ?_
      refine lv_lload_n hx hb dX12_whyTold_22 rfl (lv_at hl 1 rfl) ?_
      refine lv_ldc2 hx hb C.2.2.2.1 (C.2.2.2.2.1 _ tb_38_14) dX12_whyTold_23 ?_
      replace hf := chk_some hf
      obtain ⟨hq, hf⟩ := hf
      refine lv_ldiv hx hb dX12_whyTold_26 (nzL_ne hq) ?_
      clear hq
      refine lv_lload_n hx hb dX12_whyTold_27 rfl (lv_at hl 1 rfl) ?_
      refine lv_ldc2 hx hb C.2.2.2.1 (C.2.2.2.2.1 _ tb_38_14) dX12_whyTold_28 ?_
      replace hf := chk_some hf
      obtain ⟨hq, hf⟩ := hf
      refine x_lrem hx hb dX12_whyTold_31 (nzL_ne hq) ?_
      clear hq
      replace hf := bndc_some hf
      obtain ⟨x8, g9, hc, hf⟩ := hf
      refine m_callVi [.long (a0 / (10 : Int64)), .long (jremL a0 (10 : Int64))] C h cv_X12_337 (qX12_whyTurn hc) rfl ⟨rfl, rfl⟩ ⟨Nat.le_of_ble_eq_true rfl, Nat.le_of_ble_eq_true rfl⟩ (m_recv C h) hl.1 rfl (Nat.le_of_ble_eq_true rfl) ⟨Nat.le_refl _, Nat.le_refl _⟩ dX12_whyTold_32 (fun H locs h => ?_)
      clear hc
      cases hf
      exact m_iret C h dX12_whyTold_35
  · replace hf := if_t hq hf
    clear hq
    refine lv_iconst (v := (0 : Int32)) hx hb dX12_whyTold_8 (by decide) ?_
    cases hf
    exact m_iret C h dX12_whyTold_9

set_option maxHeartbeats 4000000 in
set_option maxRecDepth 100000 in
theorem qX12_does {l : Launch} {D : va_G} {cs : Nat → ClassId} {ad : Nat → Nat} {g' : MS} {g : MS}  {a0 : Int32} (hf : fX12_does g a0 = some g') : GCon l D cs yX12_does cX12_does 2 none (rM 7) 0 0 [.ref (ad 48), .int a0] (MW cs ad g) none (MW cs ad g') := by
  refine GCon.of (by decide) (Nat.le_of_ble_eq_true rfl) ?_
  intro p e s m args below meth c A ls H locs C h hl
  have hx := C.1
  have hb := C.2.1
  have C : MCx p s m args meth c A RX12 cX12_does 2 none D cs := C
  have hl : lv_has ls 2 [(0, .ref (ad 48)), (1, .int a0)] := hl
  unfold fX12_does at hf
  refine lv_iload_n hx hb dX12_does_0 rfl (lv_at hl 1 rfl) ?_
  refine lv_iconst (v := (-1 : Int32)) hx hb dX12_does_1 (by decide) ?_
  refine lv_icmp_ne (tgt := 12) hx hb dX12_does_2 (by decide) (fun hq => ?_) (fun hq => ?_)
  · replace hf := if_tn hq hf
    clear hq
    refine lv_iload_n hx hb dX12_does_12 rfl (lv_at hl 1 rfl) ?_
    refine lv_bipush (v := (100 : Int32)) hx hb dX12_does_13 (by decide) ?_
    refine lv_icmp_ge (tgt := 33) hx hb dX12_does_15 (by decide) (fun hq => ?_) (fun hq => ?_)
    · replace hf := if_t hq hf
      clear hq
      refine lv_iload_n hx hb dX12_does_33 rfl (lv_at hl 1 rfl) ?_
      refine lv_sipush (v := (200 : Int32)) hx hb dX12_does_34 (by decide) ?_
      refine lv_icmp_ge (tgt := 62) hx hb dX12_does_37 (by decide) (fun hq => ?_) (fun hq => ?_)
      · replace hf := if_t hq hf
        clear hq
        refine lv_aload_n hx hb dX12_does_62 rfl (lv_at hl 0 rfl) ?_
        refine mg_0 C h dX12_does_63 ?_
        refine lv_bipush (v := (18 : Int32)) hx hb dX12_does_66 (by decide) ?_
        refine lv_dup2_11 hx hb dX12_does_68 rfl rfl ?_
        replace hf := chk_some hf
        obtain ⟨hq, hf⟩ := hf
        refine ml_0 C h hq dX12_does_69 ?_
        clear hq
        refine lv_iconst (v := (1 : Int32)) hx hb dX12_does_70 (by decide) ?_
        refine lv_iload_n hx hb dX12_does_71 rfl (lv_at hl 1 rfl) ?_
        refine lv_sipush (v := (200 : Int32)) hx hb dX12_does_72 (by decide) ?_
        refine lv_isub hx hb dX12_does_75 ?_
        refine x_ishl hx hb dX12_does_76 ?_
        refine lv_ixor hx hb dX12_does_77 ?_
        replace hf := chk_some hf
        obtain ⟨hq, hf⟩ := hf
        replace hf := bnd_ex hf
        obtain ⟨g1, eg1, hf⟩ := hf
        refine ms_0 C h hq dX12_does_78 (fun H locs h => ?_)
        rw [← eg1] at h
        clear hq eg1
        cases hf
        exact m_vret C h dX12_does_79
      · replace hf := if_f hq hf
        clear hq
        refine lv_aload_n hx hb dX12_does_40 rfl (lv_at hl 0 rfl) ?_
        refine mg_0 C h dX12_does_41 ?_
        refine lv_bipush (v := (12 : Int32)) hx hb dX12_does_44 (by decide) ?_
        refine lv_iload_n hx hb dX12_does_46 rfl (lv_at hl 1 rfl) ?_
        refine lv_bipush (v := (100 : Int32)) hx hb dX12_does_47 (by decide) ?_
        refine lv_isub hx hb dX12_does_49 ?_
        refine lv_bipush (v := (10 : Int32)) hx hb dX12_does_50 (by decide) ?_
        replace hf := chk_some hf
        obtain ⟨hq, hf⟩ := hf
        refine lv_idiv hx hb dX12_does_52 (nz_ne hq) ?_
        clear hq
        refine lv_iadd hx hb dX12_does_53 ?_
        refine lv_iload_n hx hb dX12_does_54 rfl (lv_at hl 1 rfl) ?_
        refine lv_bipush (v := (10 : Int32)) hx hb dX12_does_55 (by decide) ?_
        replace hf := chk_some hf
        obtain ⟨hq, hf⟩ := hf
        refine x_irem hx hb dX12_does_57 (nz_ne hq) ?_
        clear hq
        replace hf := chk_some hf
        obtain ⟨hq, hf⟩ := hf
        replace hf := bnd_ex hf
        obtain ⟨g2, eg2, hf⟩ := hf
        refine ms_0 C h hq dX12_does_58 (fun H locs h => ?_)
        rw [← eg2] at h
        clear hq eg2
        refine lv_goto (tgt := 79) hx hb dX12_does_59 (by decide) ?_
        cases hf
        exact m_vret C h dX12_does_79
    · replace hf := if_f hq hf
      clear hq
      refine lv_aload_n hx hb dX12_does_18 rfl (lv_at hl 0 rfl) ?_
      refine lv_iload_n hx hb dX12_does_19 rfl (lv_at hl 1 rfl) ?_
      refine lv_bipush (v := (10 : Int32)) hx hb dX12_does_20 (by decide) ?_
      replace hf := chk_some hf
      obtain ⟨hq, hf⟩ := hf
      refine lv_idiv hx hb dX12_does_22 (nz_ne hq) ?_
      clear hq
      refine lv_iload_n hx hb dX12_does_23 rfl (lv_at hl 1 rfl) ?_
      refine lv_bipush (v := (10 : Int32)) hx hb dX12_does_24 (by decide) ?_
      replace hf := chk_some hf
      obtain ⟨hq, hf⟩ := hf
      refine x_irem hx hb dX12_does_26 (nz_ne hq) ?_
      clear hq
      replace hf := bndv_some hf
      obtain ⟨g3, hc, hf⟩ := hf
      refine m_callVv [.int (a0 / (10 : Int32)), .int (jrem a0 (10 : Int32))] C h cv_X12_344 (qX12_turnsBy hc) rfl ⟨rfl, rfl⟩ ⟨Nat.le_of_ble_eq_true rfl, Nat.le_of_ble_eq_true rfl⟩ (m_recv C h) hl.1 rfl (Nat.le_of_ble_eq_true rfl) ⟨Nat.le_refl _, Nat.le_refl _⟩ dX12_does_27 (fun H locs h => ?_)
      clear hc
      refine lv_goto (tgt := 79) hx hb dX12_does_30 (by decide) ?_
      cases hf
      exact m_vret C h dX12_does_79
  · replace hf := if_t hq hf
    clear hq
    refine lv_aload_n hx hb dX12_does_5 rfl (lv_at hl 0 rfl) ?_
    replace hf := bndv_some hf
    obtain ⟨g4, hc, hf⟩ := hf
    refine m_callVv [] C h cv_X12_351 (qX12_minuteNow hc) rfl ⟨rfl, rfl⟩ ⟨Nat.le_of_ble_eq_true rfl, Nat.le_of_ble_eq_true rfl⟩ (m_recv C h) hl.1 rfl (Nat.le_of_ble_eq_true rfl) ⟨Nat.le_refl _, Nat.le_refl _⟩ dX12_does_6 (fun H locs h => ?_)
    clear hc
    refine lv_goto (tgt := 79) hx hb dX12_does_9 (by decide) ?_
    cases hf
    exact m_vret C h dX12_does_79

set_option maxHeartbeats 4000000 in
set_option maxRecDepth 100000 in
theorem wX12_judge_122 (C : MCx p s m args meth c A RX12 cX12_judge 7 (some .int) D cs)  {r : Int32} {g' : MS}  : ∀ (g : MS) (y2 : Int32) (y3 : Int32) (y4 : Int32), fX12_judge_122 g y2 y3 y4 = some (r, g') → ∀ (H : Heap) (locs : List Loc) (ls : Array Slot), MH D (MW cs ad g) A s H locs → lv_has ls 7 [(0, .ref (ad 48)), (2, .int y2), (3, .int y3), (4, .int y4)] → W p l e (rM 8) s m args below meth c H locs 0 0 (MQ below (GPost D (some (.int r)) (MW cs ad g') A) args s 0 0 A) (F0 m 122 ls []) := by
  have hx := C.1
  have hb := C.2.1
  intro g y2 y3 y4 hf H locs ls h hl
  unfold fX12_judge_122 at hf
  refine lv_aload_n hx hb dX12_judge_122 rfl (lv_at hl 0 rfl) ?_
  replace hf := bndc_some hf
  obtain ⟨x1, g2, hc, hf⟩ := hf
  refine m_callVi [] C h cv_X12_328 (qX12_chairNow hc) rfl ⟨rfl, rfl⟩ ⟨Nat.le_of_ble_eq_true rfl, Nat.le_of_ble_eq_true rfl⟩ (m_recv C h) hl.1 rfl (Nat.le_of_ble_eq_true rfl) ⟨Nat.le_refl _, Nat.le_refl _⟩ dX12_judge_123 (fun H locs h => ?_)
  clear hc
  refine lv_istore (lv' := [(5, .int x1), (0, .ref (ad 48)), (2, .int y2), (3, .int y3), (4, .int y4)]) hx hb dX12_judge_126 hl (by decide) rfl (fun ls hl => ?_)
  refine lv_aload_n hx hb dX12_judge_128 rfl (lv_at hl 1 rfl) ?_
  refine mg_0 C h dX12_judge_129 ?_
  refine lv_bipush (v := (18 : Int32)) hx hb dX12_judge_132 (by decide) ?_
  replace hf := chk_some hf
  obtain ⟨hq, hf⟩ := hf
  refine ml_0 C h hq dX12_judge_134 ?_
  clear hq
  refine lv_topi (fun x3 ex3 => ?_)
  replace hf := bnd_at ex3 hf
  clear ex3
  refine lv_istore (lv' := [(6, .int x3), (5, .int x1), (0, .ref (ad 48)), (2, .int y2), (3, .int y3), (4, .int y4)]) hx hb dX12_judge_135 hl (by decide) rfl (fun ls hl => ?_)
  refine lv_aload_n hx hb dX12_judge_137 rfl (lv_at hl 2 rfl) ?_
  replace hf := bndv_some hf
  obtain ⟨g4, hc, hf⟩ := hf
  refine m_callVv [] C h cv_X12_383 (qX12_putsBack hc) rfl ⟨rfl, rfl⟩ ⟨Nat.le_of_ble_eq_true rfl, Nat.le_of_ble_eq_true rfl⟩ (m_recv C h) hl.1 rfl (Nat.le_of_ble_eq_true rfl) ⟨Nat.le_refl _, Nat.le_refl _⟩ dX12_judge_138 (fun H locs h => ?_)
  clear hc
  refine lv_iload_n hx hb dX12_judge_141 rfl (lv_at hl 3 rfl) ?_
  refine lv_if_ne (tgt := 149) hx hb dX12_judge_142 (by decide) (fun hq => ?_) (fun hq => ?_)
  · replace hf := if_tn hq hf
    clear hq
    refine lv_iload_n hx hb dX12_judge_149 rfl (lv_at hl 3 rfl) ?_
    refine lv_iconst (v := (1 : Int32)) hx hb dX12_judge_150 (by decide) ?_
    refine lv_icmp_ne (tgt := 159) hx hb dX12_judge_151 (by decide) (fun hq => ?_) (fun hq => ?_)
    · replace hf := if_tn hq hf
      clear hq
      refine lv_iload_n hx hb dX12_judge_159 rfl (lv_at hl 3 rfl) ?_
      refine lv_iconst (v := (2 : Int32)) hx hb dX12_judge_160 (by decide) ?_
      refine lv_icmp_ne (tgt := 169) hx hb dX12_judge_161 (by decide) (fun hq => ?_) (fun hq => ?_)
      · replace hf := if_tn hq hf
        clear hq
        refine lv_iload hx hb dX12_judge_169 (lv_at hl 0 rfl) ?_
        cases hf
        exact m_iret C h dX12_judge_171
      · replace hf := if_t hq hf
        clear hq
        refine lv_iload hx hb dX12_judge_164 (lv_at hl 1 rfl) ?_
        refine lv_goto (tgt := 171) hx hb dX12_judge_166 (by decide) ?_
        cases hf
        exact m_iret C h dX12_judge_171
    · replace hf := if_t hq hf
      clear hq
      refine lv_iload hx hb dX12_judge_154 (lv_at hl 5 rfl) ?_
      refine lv_goto (tgt := 171) hx hb dX12_judge_156 (by decide) ?_
      cases hf
      exact m_iret C h dX12_judge_171
  · replace hf := if_t hq hf
    clear hq
    refine lv_iload_n hx hb dX12_judge_145 rfl (lv_at hl 4 rfl) ?_
    refine lv_goto (tgt := 171) hx hb dX12_judge_146 (by decide) ?_
    cases hf
    exact m_iret C h dX12_judge_171

set_option maxHeartbeats 4000000 in
set_option maxRecDepth 100000 in
theorem wX12_judge_54 (C : MCx p s m args meth c A RX12 cX12_judge 7 (some .int) D cs)  {r : Int32} {g' : MS}  : ∀ (n : Nat) (g : MS) (y1 : Int32) (y2 : Int32) (y3 : Int32) (y4 : Int32) (y5 : Int32), fX12_judge_54 n g y1 y2 y3 y4 y5 = some (r, g') → ∀ (H : Heap) (locs : List Loc) (ls : Array Slot), MH D (MW cs ad g) A s H locs → lv_has ls 7 [(0, .ref (ad 48)), (1, .int y1), (2, .int y2), (3, .int y3), (4, .int y4), (5, .int y5)] → W p l e (rM 8) s m args below meth c H locs 0 0 (MQ below (GPost D (some (.int r)) (MW cs ad g') A) args s 0 0 A) (F0 m 54 ls []) := by
  have hx := C.1
  have hb := C.2.1
  intro n
  induction n with
  | zero =>
    intro g y1 y2 y3 y4 y5 hf
    exact absurd hf (by simp [fX12_judge_54])
  | succ n ih =>
    intro g y1 y2 y3 y4 y5 hf H locs ls h hl
    rw [fX12_judge_54] at hf
    refine lv_iload hx hb dX12_judge_54 (lv_at hl 5 rfl) ?_
    refine lv_aload_n hx hb dX12_judge_56 rfl (lv_at hl 0 rfl) ?_
    refine mg_46 C h dX12_judge_57 ?_
    refine lv_iload_n hx hb dX12_judge_60 rfl (lv_at hl 1 rfl) ?_
    replace hf := chk_some hf
    obtain ⟨hq, hf⟩ := hf
    refine ml_46 C h hq dX12_judge_61 ?_
    clear hq
    refine lv_icmp_ge (tgt := 122) hx hb dX12_judge_62 (by decide) (fun hq => ?_) (fun hq => ?_)
    · replace hf := if_t hq hf
      clear hq
      exact wX12_judge_122 C g y2 y3 y4 hf H locs ls h (lv_sub hl [0, 2, 3, 4] rfl)
    · replace hf := if_f hq hf
      clear hq
      refine lv_iload_n hx hb dX12_judge_65 rfl (lv_at hl 3 rfl) ?_
      refine lv_iconst (v := (-1 : Int32)) hx hb dX12_judge_66 (by decide) ?_
      refine lv_icmp_ne (tgt := 122) hx hb dX12_judge_67 (by decide) (fun hq => ?_) (fun hq => ?_)
      · replace hf := if_tn hq hf
        clear hq
        exact wX12_judge_122 C g y2 y3 y4 hf H locs ls h (lv_sub hl [0, 2, 3, 4] rfl)
      · replace hf := if_t hq hf
        clear hq
        refine lv_aload_n hx hb dX12_judge_70 rfl (lv_at hl 0 rfl) ?_
        refine lv_aload_n hx hb dX12_judge_71 rfl (lv_at hl 0 rfl) ?_
        refine mg_47 C h dX12_judge_72 ?_
        refine lv_bipush (v := (30 : Int32)) hx hb dX12_judge_75 (by decide) ?_
        refine lv_iload_n hx hb dX12_judge_77 rfl (lv_at hl 1 rfl) ?_
        refine lv_imul hx hb dX12_judge_78 ?_
        refine lv_iload hx hb dX12_judge_79 (lv_at hl 5 rfl) ?_
        refine lv_iadd hx hb dX12_judge_81 ?_
        replace hf := chk_some hf
        obtain ⟨hq, hf⟩ := hf
        refine ml_47 C h hq dX12_judge_82 ?_
        clear hq
        replace hf := bndc_some hf
        obtain ⟨x5, g6, hc, hf⟩ := hf
        refine m_callVi [.long (g.2.2 (ix (((30 : Int32) * y1) + y5)))] C h cv_X12_377 (qX12_whyTold hc) rfl ⟨rfl, rfl⟩ ⟨Nat.le_of_ble_eq_true rfl, Nat.le_of_ble_eq_true rfl⟩ (m_recv C h) hl.1 rfl (Nat.le_of_ble_eq_true rfl) ⟨Nat.le_refl _, Nat.le_refl _⟩ dX12_judge_83 (fun H locs h => ?_)
        clear hc
        refine lv_istore (lv' := [(4, .int x5), (0, .ref (ad 48)), (1, .int y1), (2, .int y2), (3, .int y3), (5, .int y5)]) hx hb dX12_judge_86 hl (by decide) rfl (fun ls hl => ?_)
        refine lv_iload hx hb dX12_judge_88 (lv_at hl 0 rfl) ?_
        refine lv_if_ne (tgt := 113) hx hb dX12_judge_90 (by decide) (fun hq => ?_) (fun hq => ?_)
        · replace hf := if_tn hq hf
          clear hq
          refine lv_iload hx hb dX12_judge_113 (lv_at hl 5 rfl) ?_
          refine lv_istore_n (lv' := [(3, .int y5), (4, .int x5), (0, .ref (ad 48)), (1, .int y1), (2, .int y2), (5, .int y5)]) hx hb dX12_judge_115 rfl hl (by decide) rfl (fun ls hl => ?_)
          obtain ⟨x7, ex7⟩ : ∃ z : Int32, z = y5 + (1 : Int32) := ⟨_, rfl⟩
          replace hf := bnd_at ex7 hf
          refine lv_iinc (v := x7) (lv' := [(5, .int x7), (3, .int y5), (4, .int x5), (0, .ref (ad 48)), (1, .int y1), (2, .int y2)]) hx hb dX12_judge_116 hl (k := 5) rfl (by rw [ex7]; rfl) (by decide) rfl (fun ls hl => ?_)
          clear ex7
          refine lv_goto (tgt := 54) hx hb dX12_judge_119 (by decide) ?_
          exact ih g6 y1 y2 y5 x5 x7 hf H locs ls h (lv_sub hl [3, 4, 5, 1, 2, 0] rfl)
        · replace hf := if_t hq hf
          clear hq
          refine lv_aload_n hx hb dX12_judge_93 rfl (lv_at hl 1 rfl) ?_
          refine lv_aload_n hx hb dX12_judge_94 rfl (lv_at hl 1 rfl) ?_
          refine mg_47 C h dX12_judge_95 ?_
          refine lv_bipush (v := (30 : Int32)) hx hb dX12_judge_98 (by decide) ?_
          refine lv_iload_n hx hb dX12_judge_100 rfl (lv_at hl 2 rfl) ?_
          refine lv_imul hx hb dX12_judge_101 ?_
          refine lv_iload hx hb dX12_judge_102 (lv_at hl 5 rfl) ?_
          refine lv_iadd hx hb dX12_judge_104 ?_
          replace hf := chk_some hf
          obtain ⟨hq, hf⟩ := hf
          refine ml_47 C h hq dX12_judge_105 ?_
          clear hq
          refine lv_l2i hx hb dX12_judge_106 rfl ?_
          replace hf := bndv_some hf
          obtain ⟨g8, hc, hf⟩ := hf
          refine m_callVv [.int ((g6.2.2 (ix (((30 : Int32) * y1) + y5))).toInt32)] C h cv_X12_380 (qX12_does hc) rfl ⟨rfl, rfl⟩ ⟨Nat.le_of_ble_eq_true rfl, Nat.le_of_ble_eq_true rfl⟩ (m_recv C h) hl.1 rfl (Nat.le_of_ble_eq_true rfl) ⟨Nat.le_refl _, Nat.le_refl _⟩ dX12_judge_107 (fun H locs h => ?_)
          clear hc
          refine lv_goto (tgt := 116) hx hb dX12_judge_110 (by decide) ?_
          obtain ⟨x9, ex9⟩ : ∃ z : Int32, z = y5 + (1 : Int32) := ⟨_, rfl⟩
          replace hf := bnd_at ex9 hf
          refine lv_iinc (v := x9) (lv' := [(5, .int x9), (4, .int x5), (0, .ref (ad 48)), (1, .int y1), (2, .int y2), (3, .int y3)]) hx hb dX12_judge_116 hl (k := 5) rfl (by rw [ex9]; rfl) (by decide) rfl (fun ls hl => ?_)
          clear ex9
          refine lv_goto (tgt := 54) hx hb dX12_judge_119 (by decide) ?_
          exact ih g8 y1 y2 y3 x5 x9 hf H locs ls h (lv_sub hl [2, 3, 4, 5, 1, 0] rfl)

set_option maxHeartbeats 4000000 in
set_option maxRecDepth 100000 in
theorem wX12_judge_33 (C : MCx p s m args meth c A RX12 cX12_judge 7 (some .int) D cs)  {r : Int32} {g' : MS}  : ∀ (g : MS) (y1 : Int32) (y2 : Int32), fX12_judge_33 g y1 y2 = some (r, g') → ∀ (H : Heap) (locs : List Loc) (ls : Array Slot), MH D (MW cs ad g) A s H locs → lv_has ls 7 [(0, .ref (ad 48)), (1, .int y1), (2, .int y2)] → W p l e (rM 8) s m args below meth c H locs 0 0 (MQ below (GPost D (some (.int r)) (MW cs ad g') A) args s 0 0 A) (F0 m 33 ls []) := by
  have hx := C.1
  have hb := C.2.1
  intro g y1 y2 hf H locs ls h hl
  unfold fX12_judge_33 at hf
  refine lv_aload_n hx hb dX12_judge_33 rfl (lv_at hl 0 rfl) ?_
  refine mg_4 C h dX12_judge_34 ?_
  refine lv_if_le (tgt := 42) hx hb dX12_judge_37 (by decide) (fun hq => ?_) (fun hq => ?_)
  · replace hf := if_t hq hf
    clear hq
    refine lv_aload_n hx hb dX12_judge_42 rfl (lv_at hl 0 rfl) ?_
    replace hf := bndv_some hf
    obtain ⟨g10, hc, hf⟩ := hf
    refine m_callVv [] C h cv_X12_374 (qX12_putsAside hc) rfl ⟨rfl, rfl⟩ ⟨Nat.le_of_ble_eq_true rfl, Nat.le_of_ble_eq_true rfl⟩ (m_recv C h) hl.1 rfl (Nat.le_of_ble_eq_true rfl) ⟨Nat.le_refl _, Nat.le_refl _⟩ dX12_judge_43 (fun H locs h => ?_)
    clear hc
    refine lv_iconst (v := (-1 : Int32)) hx hb dX12_judge_46 (by decide) ?_
    refine lv_istore_n (lv' := [(3, .int (-1 : Int32)), (0, .ref (ad 48)), (1, .int y1), (2, .int y2)]) hx hb dX12_judge_47 rfl hl (by decide) rfl (fun ls hl => ?_)
    refine lv_iconst (v := (0 : Int32)) hx hb dX12_judge_48 (by decide) ?_
    refine lv_istore (lv' := [(4, .int (0 : Int32)), (3, .int (-1 : Int32)), (0, .ref (ad 48)), (1, .int y1), (2, .int y2)]) hx hb dX12_judge_49 hl (by decide) rfl (fun ls hl => ?_)
    refine lv_iconst (v := (0 : Int32)) hx hb dX12_judge_51 (by decide) ?_
    refine lv_istore (lv' := [(5, .int (0 : Int32)), (4, .int (0 : Int32)), (3, .int (-1 : Int32)), (0, .ref (ad 48)), (1, .int y1), (2, .int y2)]) hx hb dX12_judge_52 hl (by decide) rfl (fun ls hl => ?_)
    exact wX12_judge_54 C fuel g10 y1 y2 (-1 : Int32) (0 : Int32) (0 : Int32) hf H locs ls h (lv_sub hl [3, 4, 5, 2, 1, 0] rfl)
  · replace hf := if_f hq hf
    clear hq
    refine lv_iconst (v := (0 : Int32)) hx hb dX12_judge_40 (by decide) ?_
    cases hf
    exact m_iret C h dX12_judge_41

set_option maxHeartbeats 4000000 in
set_option maxRecDepth 100000 in
theorem qX12_judge {l : Launch} {D : va_G} {cs : Nat → ClassId} {ad : Nat → Nat} {r : Int32} {g' : MS} {g : MS}  {a0 : Int32} {a1 : Int32} (hf : fX12_judge g a0 a1 = some (r, g')) : GCon l D cs yX12_judge cX12_judge 7 (some .int) (rM 8) 0 0 [.ref (ad 48), .int a0, .int a1] (MW cs ad g) (some (.int r)) (MW cs ad g') := by
  refine GCon.of (by decide) (Nat.le_of_ble_eq_true rfl) ?_
  intro p e s m args below meth c A ls H locs C h hl
  have hx := C.1
  have hb := C.2.1
  have C : MCx p s m args meth c A RX12 cX12_judge 7 (some .int) D cs := C
  have hl : lv_has ls 7 [(0, .ref (ad 48)), (1, .int a0), (2, .int a1)] := hl
  unfold fX12_judge at hf
  refine lv_aload_n hx hb dX12_judge_0 rfl (lv_at hl 0 rfl) ?_
  refine lv_aload_n hx hb dX12_judge_1 rfl (lv_at hl 0 rfl) ?_
  refine lv_iload_n hx hb dX12_judge_2 rfl (lv_at hl 1 rfl) ?_
  replace hf := bndc_some hf
  obtain ⟨x11, g12, hc, hf⟩ := hf
  refine m_callVi [.int a0] C h cv_X12_369 (qX12_trayFault hc) rfl ⟨rfl, rfl⟩ ⟨Nat.le_of_ble_eq_true rfl, Nat.le_of_ble_eq_true rfl⟩ (m_recv C h) hl.1 rfl (Nat.le_of_ble_eq_true rfl) ⟨Nat.le_refl _, Nat.le_refl _⟩ dX12_judge_3 (fun H locs h => ?_)
  clear hc
  replace hf := bnd_ex hf
  obtain ⟨g13, eg13, hf⟩ := hf
  refine mp_4 C h dX12_judge_6 (fun H locs h => ?_)
  rw [← eg13] at h
  clear eg13
  refine lv_aload_n hx hb dX12_judge_9 rfl (lv_at hl 0 rfl) ?_
  refine mg_4 C h dX12_judge_10 ?_
  refine lv_if_ne (tgt := 33) hx hb dX12_judge_13 (by decide) (fun hq => ?_) (fun hq => ?_)
  · replace hf := if_tn hq hf
    clear hq
    exact wX12_judge_33 C g13 a0 a1 hf H locs ls h (lv_sub hl [0, 1, 2] rfl)
  · replace hf := if_t hq hf
    clear hq
    refine lv_iload_n hx hb dX12_judge_16 rfl (lv_at hl 2 rfl) ?_
    refine lv_i2l hx hb dX12_judge_17 rfl ?_
    refine lv_lconst (v := (0 : Int64)) hx hb dX12_judge_18 rfl ?_
    refine lv_ldc2 hx hb C.2.2.2.1 (C.2.2.2.2.1 _ tb_40_5) dX12_judge_19 ?_
    replace hf := bndv_some hf
    obtain ⟨x14, hc, hf⟩ := hf
    refine m_callSi [.long a1.toInt64, .long (0 : Int64), .long (3 : Int64)] C h cs_X12_147 (qX12_within hc) rfl ⟨rfl, rfl⟩ ⟨Nat.le_of_ble_eq_true rfl, Nat.le_of_ble_eq_true rfl⟩ hl.1 rfl (Nat.le_of_ble_eq_true rfl) ⟨Nat.le_refl _, Nat.le_refl _⟩ dX12_judge_22 (fun H locs h => ?_)
    clear hc
    refine lv_if_ne (tgt := 33) hx hb dX12_judge_25 (by decide) (fun hq => ?_) (fun hq => ?_)
    · replace hf := if_tn hq hf
      clear hq
      exact wX12_judge_33 C g13 a0 a1 hf H locs ls h (lv_sub hl [0, 1, 2] rfl)
    · replace hf := if_t hq hf
      clear hq
      refine lv_aload_n hx hb dX12_judge_28 rfl (lv_at hl 0 rfl) ?_
      refine lv_iconst (v := (3 : Int32)) hx hb dX12_judge_29 (by decide) ?_
      replace hf := bnd_ex hf
      obtain ⟨g15, eg15, hf⟩ := hf
      refine mp_4 C h dX12_judge_30 (fun H locs h => ?_)
      rw [← eg15] at h
      clear eg15
      exact wX12_judge_33 C g15 a0 a1 hf H locs ls h (lv_sub hl [0, 1, 2] rfl)

set_option maxHeartbeats 4000000 in
set_option maxRecDepth 100000 in
theorem wX12_perform_20 (C : MCx p s m args meth c A RX12 cX12_perform 3 (some .int) D cs)  {r : Int32} {g' : MS}  : ∀ (n : Nat) (g : MS) (y1 : Int32) (y2 : Int32), fX12_perform_20 n g y1 y2 = some (r, g') → ∀ (H : Heap) (locs : List Loc) (ls : Array Slot), MH D (MW cs ad g) A s H locs → lv_has ls 3 [(0, .ref (ad 48)), (1, .int y1), (2, .int y2)] → W p l e (rM 8) s m args below meth c H locs 0 0 (MQ below (GPost D (some (.int r)) (MW cs ad g') A) args s 0 0 A) (F0 m 20 ls []) := by
  have hx := C.1
  have hb := C.2.1
  intro n
  induction n with
  | zero =>
    intro g y1 y2 hf
    exact absurd hf (by simp [fX12_perform_20])
  | succ n ih =>
    intro g y1 y2 hf H locs ls h hl
    rw [fX12_perform_20] at hf
    refine lv_iload_n hx hb dX12_perform_20 rfl (lv_at hl 2 rfl) ?_
    refine lv_aload_n hx hb dX12_perform_21 rfl (lv_at hl 0 rfl) ?_
    refine mg_46 C h dX12_perform_22 ?_
    refine lv_iload_n hx hb dX12_perform_25 rfl (lv_at hl 1 rfl) ?_
    replace hf := chk_some hf
    obtain ⟨hq, hf⟩ := hf
    refine ml_46 C h hq dX12_perform_26 ?_
    clear hq
    refine lv_icmp_ge (tgt := 74) hx hb dX12_perform_27 (by decide) (fun hq => ?_) (fun hq => ?_)
    · replace hf := if_t hq hf
      clear hq
      refine lv_iload_n hx hb dX12_perform_74 rfl (lv_at hl 2 rfl) ?_
      cases hf
      exact m_iret C h dX12_perform_75
    · replace hf := if_f hq hf
      clear hq
      refine lv_aload_n hx hb dX12_perform_30 rfl (lv_at hl 0 rfl) ?_
      refine lv_aload_n hx hb dX12_perform_31 rfl (lv_at hl 0 rfl) ?_
      refine mg_47 C h dX12_perform_32 ?_
      refine lv_bipush (v := (30 : Int32)) hx hb dX12_perform_35 (by decide) ?_
      refine lv_iload_n hx hb dX12_perform_37 rfl (lv_at hl 1 rfl) ?_
      refine lv_imul hx hb dX12_perform_38 ?_
      refine lv_iload_n hx hb dX12_perform_39 rfl (lv_at hl 2 rfl) ?_
      refine lv_iadd hx hb dX12_perform_40 ?_
      replace hf := chk_some hf
      obtain ⟨hq, hf⟩ := hf
      refine ml_47 C h hq dX12_perform_41 ?_
      clear hq
      replace hf := bndc_some hf
      obtain ⟨x1, g2, hc, hf⟩ := hf
      refine m_callVi [.long (g.2.2 (ix (((30 : Int32) * y1) + y2)))] C h cv_X12_377 (qX12_whyTold hc) rfl ⟨rfl, rfl⟩ ⟨Nat.le_of_ble_eq_true rfl, Nat.le_of_ble_eq_true rfl⟩ (m_recv C h) hl.1 rfl (Nat.le_of_ble_eq_true rfl) ⟨Nat.le_refl _, Nat.le_refl _⟩ dX12_perform_42 (fun H locs h => ?_)
      clear hc
      refine lv_if_ne (tgt := 74) hx hb dX12_perform_45 (by decide) (fun hq => ?_) (fun hq => ?_)
      · replace hf := if_tn hq hf
        clear hq
        refine lv_iload_n hx hb dX12_perform_74 rfl (lv_at hl 2 rfl) ?_
        cases hf
        exact m_iret C h dX12_perform_75
      · replace hf := if_t hq hf
        clear hq
        refine lv_aload_n hx hb dX12_perform_48 rfl (lv_at hl 0 rfl) ?_
        replace hf := bndv_some hf
        obtain ⟨g3, hc, hf⟩ := hf
        refine m_callVv [] C h cv_X12_341 (qX12_keeps hc) rfl ⟨rfl, rfl⟩ ⟨Nat.le_of_ble_eq_true rfl, Nat.le_of_ble_eq_true rfl⟩ (m_recv C h) hl.1 rfl (Nat.le_of_ble_eq_true rfl) ⟨Nat.le_refl _, Nat.le_refl _⟩ dX12_perform_49 (fun H locs h => ?_)
        clear hc
        refine lv_aload_n hx hb dX12_perform_52 rfl (lv_at hl 0 rfl) ?_
        refine lv_aload_n hx hb dX12_perform_53 rfl (lv_at hl 0 rfl) ?_
        refine mg_47 C h dX12_perform_54 ?_
        refine lv_bipush (v := (30 : Int32)) hx hb dX12_perform_57 (by decide) ?_
        refine lv_iload_n hx hb dX12_perform_59 rfl (lv_at hl 1 rfl) ?_
        refine lv_imul hx hb dX12_perform_60 ?_
        refine lv_iload_n hx hb dX12_perform_61 rfl (lv_at hl 2 rfl) ?_
        refine lv_iadd hx hb dX12_perform_62 ?_
        replace hf := chk_some hf
        obtain ⟨hq, hf⟩ := hf
        refine ml_47 C h hq dX12_perform_63 ?_
        clear hq
        refine lv_l2i hx hb dX12_perform_64 rfl ?_
        replace hf := bndv_some hf
        obtain ⟨g4, hc, hf⟩ := hf
        refine m_callVv [.int ((g3.2.2 (ix (((30 : Int32) * y1) + y2))).toInt32)] C h cv_X12_380 (qX12_does hc) rfl ⟨rfl, rfl⟩ ⟨Nat.le_of_ble_eq_true rfl, Nat.le_of_ble_eq_true rfl⟩ (m_recv C h) hl.1 rfl (Nat.le_of_ble_eq_true rfl) ⟨Nat.le_refl _, Nat.le_refl _⟩ dX12_perform_65 (fun H locs h => ?_)
        clear hc
        obtain ⟨x5, ex5⟩ : ∃ z : Int32, z = y2 + (1 : Int32) := ⟨_, rfl⟩
        replace hf := bnd_at ex5 hf
        refine lv_iinc (v := x5) (lv' := [(2, .int x5), (0, .ref (ad 48)), (1, .int y1)]) hx hb dX12_perform_68 hl (k := 2) rfl (by rw [ex5]; rfl) (by decide) rfl (fun ls hl => ?_)
        clear ex5
        refine lv_goto (tgt := 20) hx hb dX12_perform_71 (by decide) ?_
        exact ih g4 y1 x5 hf H locs ls h (lv_sub hl [1, 2, 0] rfl)

set_option maxHeartbeats 4000000 in
set_option maxRecDepth 100000 in
theorem qX12_perform {l : Launch} {D : va_G} {cs : Nat → ClassId} {ad : Nat → Nat} {r : Int32} {g' : MS} {g : MS}  {a0 : Int32} (hf : fX12_perform g a0 = some (r, g')) : GCon l D cs yX12_perform cX12_perform 3 (some .int) (rM 8) 0 0 [.ref (ad 48), .int a0] (MW cs ad g) (some (.int r)) (MW cs ad g') := by
  refine GCon.of (by decide) (Nat.le_of_ble_eq_true rfl) ?_
  intro p e s m args below meth c A ls H locs C h hl
  have hx := C.1
  have hb := C.2.1
  have C : MCx p s m args meth c A RX12 cX12_perform 3 (some .int) D cs := C
  have hl : lv_has ls 3 [(0, .ref (ad 48)), (1, .int a0)] := hl
  unfold fX12_perform at hf
  refine lv_aload_n hx hb dX12_perform_0 rfl (lv_at hl 0 rfl) ?_
  refine lv_aload_n hx hb dX12_perform_1 rfl (lv_at hl 0 rfl) ?_
  refine lv_iload_n hx hb dX12_perform_2 rfl (lv_at hl 1 rfl) ?_
  replace hf := bndc_some hf
  obtain ⟨x6, g7, hc, hf⟩ := hf
  refine m_callVi [.int a0] C h cv_X12_369 (qX12_trayFault hc) rfl ⟨rfl, rfl⟩ ⟨Nat.le_of_ble_eq_true rfl, Nat.le_of_ble_eq_true rfl⟩ (m_recv C h) hl.1 rfl (Nat.le_of_ble_eq_true rfl) ⟨Nat.le_refl _, Nat.le_refl _⟩ dX12_perform_3 (fun H locs h => ?_)
  clear hc
  replace hf := bnd_ex hf
  obtain ⟨g8, eg8, hf⟩ := hf
  refine mp_4 C h dX12_perform_6 (fun H locs h => ?_)
  rw [← eg8] at h
  clear eg8
  refine lv_aload_n hx hb dX12_perform_9 rfl (lv_at hl 0 rfl) ?_
  refine mg_4 C h dX12_perform_10 ?_
  refine lv_if_le (tgt := 18) hx hb dX12_perform_13 (by decide) (fun hq => ?_) (fun hq => ?_)
  · replace hf := if_t hq hf
    clear hq
    refine lv_iconst (v := (0 : Int32)) hx hb dX12_perform_18 (by decide) ?_
    refine lv_istore_n (lv' := [(2, .int (0 : Int32)), (0, .ref (ad 48)), (1, .int a0)]) hx hb dX12_perform_19 rfl hl (by decide) rfl (fun ls hl => ?_)
    exact wX12_perform_20 C fuel g8 a0 (0 : Int32) hf H locs ls h (lv_sub hl [1, 2, 0] rfl)
  · replace hf := if_f hq hf
    clear hq
    refine lv_iconst (v := (0 : Int32)) hx hb dX12_perform_16 (by decide) ?_
    cases hf
    exact m_iret C h dX12_perform_17

set_option maxHeartbeats 4000000 in
set_option maxRecDepth 100000 in
theorem qX12_draw {l : Launch} {D : va_G} {cs : Nat → ClassId} {ad : Nat → Nat} {r : Int32} {g' : MS} {g : MS}  {a0 : Int32} (hf : fX12_draw g a0 = some (r, g')) : GCon l D cs yX12_draw cX12_draw 2 (some .int) (rM 0) 0 0 [.ref (ad 48), .int a0] (MW cs ad g) (some (.int r)) (MW cs ad g') := by
  refine GCon.of (by decide) (Nat.le_of_ble_eq_true rfl) ?_
  intro p e s m args below meth c A ls H locs C h hl
  have hx := C.1
  have hb := C.2.1
  have C : MCx p s m args meth c A RX12 cX12_draw 2 (some .int) D cs := C
  have hl : lv_has ls 2 [(0, .ref (ad 48)), (1, .int a0)] := hl
  unfold fX12_draw at hf
  refine lv_aload_n hx hb dX12_draw_0 rfl (lv_at hl 0 rfl) ?_
  refine lv_ldcw hx hb C.2.2.2.1 (C.2.2.2.2.1 _ tb_42_23) dX12_draw_1 ?_
  refine lv_aload_n hx hb dX12_draw_4 rfl (lv_at hl 0 rfl) ?_
  refine mg_25 C h dX12_draw_5 ?_
  refine lv_imul hx hb dX12_draw_8 ?_
  refine lv_sipush (v := (12345 : Int32)) hx hb dX12_draw_9 (by decide) ?_
  refine lv_iadd hx hb dX12_draw_12 ?_
  replace hf := bnd_ex hf
  obtain ⟨g1, eg1, hf⟩ := hf
  refine mp_25 C h dX12_draw_13 (fun H locs h => ?_)
  rw [← eg1] at h
  clear eg1
  refine lv_aload_n hx hb dX12_draw_16 rfl (lv_at hl 0 rfl) ?_
  refine mg_25 C h dX12_draw_17 ?_
  refine lv_bipush (v := (16 : Int32)) hx hb dX12_draw_20 (by decide) ?_
  refine x_iushr hx hb dX12_draw_22 ?_
  refine lv_iload_n hx hb dX12_draw_23 rfl (lv_at hl 1 rfl) ?_
  replace hf := chk_some hf
  obtain ⟨hq, hf⟩ := hf
  refine x_irem hx hb dX12_draw_24 (nz_ne hq) ?_
  clear hq
  cases hf
  exact m_iret C h dX12_draw_25

set_option maxHeartbeats 4000000 in
set_option maxRecDepth 100000 in
theorem qX12_drawn {l : Launch} {D : va_G} {cs : Nat → ClassId} {ad : Nat → Nat} {r : Int32} {g' : MS} {g : MS}  {a0 : Int32} {a1 : Int32} (hf : fX12_drawn g a0 a1 = some (r, g')) : GCon l D cs yX12_drawn cX12_drawn 3 (some .int) (rM 1) 0 0 [.ref (ad 48), .int a0, .int a1] (MW cs ad g) (some (.int r)) (MW cs ad g') := by
  refine GCon.of (by decide) (Nat.le_of_ble_eq_true rfl) ?_
  intro p e s m args below meth c A ls H locs C h hl
  have hx := C.1
  have hb := C.2.1
  have C : MCx p s m args meth c A RX12 cX12_drawn 3 (some .int) D cs := C
  have hl : lv_has ls 3 [(0, .ref (ad 48)), (1, .int a0), (2, .int a1)] := hl
  unfold fX12_drawn at hf
  refine lv_iload_n hx hb dX12_drawn_0 rfl (lv_at hl 1 rfl) ?_
  refine lv_iconst (v := (4 : Int32)) hx hb dX12_drawn_1 (by decide) ?_
  refine lv_icmp_ne (tgt := 11) hx hb dX12_drawn_2 (by decide) (fun hq => ?_) (fun hq => ?_)
  · replace hf := if_tn hq hf
    clear hq
    refine lv_iload_n hx hb dX12_drawn_11 rfl (lv_at hl 1 rfl) ?_
    refine lv_iconst (v := (3 : Int32)) hx hb dX12_drawn_12 (by decide) ?_
    refine lv_icmp_ne (tgt := 33) hx hb dX12_drawn_13 (by decide) (fun hq => ?_) (fun hq => ?_)
    · replace hf := if_tn hq hf
      clear hq
      refine lv_iconst (v := (1 : Int32)) hx hb dX12_drawn_33 (by decide) ?_
      refine lv_bipush (v := (10 : Int32)) hx hb dX12_drawn_34 (by decide) ?_
      refine lv_iload_n hx hb dX12_drawn_36 rfl (lv_at hl 2 rfl) ?_
      refine lv_imul hx hb dX12_drawn_37 ?_
      refine lv_iadd hx hb dX12_drawn_38 ?_
      refine lv_aload_n hx hb dX12_drawn_39 rfl (lv_at hl 0 rfl) ?_
      refine lv_iconst (v := (5 : Int32)) hx hb dX12_drawn_40 (by decide) ?_
      replace hf := bndc_some hf
      obtain ⟨x1, g2, hc, hf⟩ := hf
      refine m_callVi [.int (5 : Int32)] C h cv_X12_392 (qX12_draw hc) rfl ⟨rfl, rfl⟩ ⟨Nat.le_of_ble_eq_true rfl, Nat.le_of_ble_eq_true rfl⟩ (m_recv C h) hl.1 rfl (Nat.le_of_ble_eq_true rfl) ⟨Nat.le_refl _, Nat.le_refl _⟩ dX12_drawn_41 (fun H locs h => ?_)
      clear hc
      refine lv_iadd hx hb dX12_drawn_44 ?_
      cases hf
      exact m_iret C h dX12_drawn_45
    · replace hf := if_t hq hf
      clear hq
      refine lv_bipush (v := (101 : Int32)) hx hb dX12_drawn_16 (by decide) ?_
      refine lv_bipush (v := (10 : Int32)) hx hb dX12_drawn_18 (by decide) ?_
      refine lv_iload_n hx hb dX12_drawn_20 rfl (lv_at hl 2 rfl) ?_
      refine lv_imul hx hb dX12_drawn_21 ?_
      refine lv_iadd hx hb dX12_drawn_22 ?_
      refine lv_aload_n hx hb dX12_drawn_23 rfl (lv_at hl 0 rfl) ?_
      refine lv_bipush (v := (9 : Int32)) hx hb dX12_drawn_24 (by decide) ?_
      replace hf := bndc_some hf
      obtain ⟨x3, g4, hc, hf⟩ := hf
      refine m_callVi [.int (9 : Int32)] C h cv_X12_392 (qX12_draw hc) rfl ⟨rfl, rfl⟩ ⟨Nat.le_of_ble_eq_true rfl, Nat.le_of_ble_eq_true rfl⟩ (m_recv C h) hl.1 rfl (Nat.le_of_ble_eq_true rfl) ⟨Nat.le_refl _, Nat.le_refl _⟩ dX12_drawn_26 (fun H locs h => ?_)
      clear hc
      refine lv_iadd hx hb dX12_drawn_29 ?_
      refine lv_goto (tgt := 45) hx hb dX12_drawn_30 (by decide) ?_
      cases hf
      exact m_iret C h dX12_drawn_45
  · replace hf := if_t hq hf
    clear hq
    refine lv_sipush (v := (200 : Int32)) hx hb dX12_drawn_5 (by decide) ?_
    refine lv_iload_n hx hb dX12_drawn_8 rfl (lv_at hl 2 rfl) ?_
    refine lv_iadd hx hb dX12_drawn_9 ?_
    cases hf
    exact m_iret C h dX12_drawn_10
end
