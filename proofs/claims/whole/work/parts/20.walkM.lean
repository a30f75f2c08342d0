section
variable {p : Program} {l : Launch} {e : Env} {s : State} {m : MethodId} {args : Array Value} {below : List Frame} {meth : Method} {c : Code} {D : va_G} {cs : Nat → ClassId} {ad : Nat → Nat} {A : Nat → Prop}
set_option maxHeartbeats 4000000 in
set_option maxRecDepth 100000 in
theorem qX12_thrown {l : Launch} {D : va_G} {cs : Nat → ClassId} {ad : Nat → Nat} {r : Int32} {g' : MS} {g : MS}  (hf : fX12_thrown g = some (r, g')) : GCon l D cs yX12_thrown cX12_thrown 1 (some .int) (rM 0) 0 0 [.ref (ad 48)] (MW cs ad g) (some (.int r)) (MW cs ad g') := by
  refine GCon.of (by decide) (Nat.le_of_ble_eq_true rfl) ?_
  intro p e s m args below meth c A ls H locs C h hl
  have hx := C.1
  have hb := C.2.1
  have C : MCx p s m args meth c A RX12 cX12_thrown 1 (some .int) D cs := C
  have hl : lv_has ls 1 [(0, .ref (ad 48))] := hl
  unfold fX12_thrown at hf
  refine lv_aload_n hx hb dX12_thrown_0 rfl (lv_at hl 0 rfl) ?_
  refine mg_4 C h dX12_thrown_1 ?_
  cases hf
  exact m_iret C h dX12_thrown_4

set_option maxHeartbeats 4000000 in
set_option maxRecDepth 100000 in
theorem qX12_fails {l : Launch} {D : va_G} {cs : Nat → ClassId} {ad : Nat → Nat} {r : Int32} {g' : MS} {g : MS}  {a0 : Int32} (hf : fX12_fails g a0 = some (r, g')) : GCon l D cs yX12_fails cX12_fails 2 (some .int) (rM 0) 0 0 [.ref (ad 48), .int a0] (MW cs ad g) (some (.int r)) (MW cs ad g') := by
  refine GCon.of (by decide) (Nat.le_of_ble_eq_true rfl) ?_
  intro p e s m args below meth c A ls H locs C h hl
  have hx := C.1
  have hb := C.2.1
  have C : MCx p s m args meth c A RX12 cX12_fails 2 (some .int) D cs := C
  have hl : lv_has ls 2 [(0, .ref (ad 48)), (1, .int a0)] := hl
  unfold fX12_fails at hf
  refine lv_aload_n hx hb dX12_fails_0 rfl (lv_at hl 0 rfl) ?_
  refine lv_iload_n hx hb dX12_fails_1 rfl (lv_at hl 1 rfl) ?_
  replace hf := bnd_ex hf
  obtain ⟨g1, eg1, hf⟩ := hf
  refine mp_4 C h dX12_fails_2 (fun H locs h => ?_)
  rw [← eg1] at h
  clear eg1
  refine lv_iconst (v := (0 : Int32)) hx hb dX12_fails_5 (by decide) ?_
  cases hf
  exact m_iret C h dX12_fails_6

set_option maxHeartbeats 4000000 in
set_option maxRecDepth 100000 in
theorem qX12_within {l : Launch} {D : va_G} {cs : Nat → ClassId} {r : Int32}  {a0 : Int64} {a1 : Int64} {a2 : Int64} (hf : fX12_within a0 a1 a2 = some r) : GCon l D cs yX12_within cX12_within 6 (some .boolean) (rM 0) 0 0 [.long a0, .long a1, .long a2] [] (some (.int r)) [] := by
  refine GCon.of (by decide) (Nat.le_of_ble_eq_true rfl) ?_
  intro p e s m args below meth c A ls H locs C h hl
  have hx := C.1
  have hb := C.2.1
  have C : MCx p s m args meth c A RX12 cX12_within 6 (some .boolean) D cs := C
  have hl : lv_has ls 6 [(0, .long a0), (2, .long a1), (4, .long a2)] := hl
  unfold fX12_within at hf
  refine lv_lload_n hx hb dX12_within_0 rfl (lv_at hl 0 rfl) ?_
  refine lv_lload_n hx hb dX12_within_1 rfl (lv_at hl 1 rfl) ?_
  refine W.lcmp hx hb dX12_within_2 ?_
  refine lv_if_lt (tgt := 17) hx hb dX12_within_3 (by decide) (fun hq => ?_) (fun hq => ?_)
  · replace hf := if_t hq hf
    clear hq
    refine lv_iconst (v := (0 : Int32)) hx hb dX12_within_17 (by decide) ?_
    cases hf
    exact m_zret C h rfl dX12_within_18
  · replace hf := if_f hq hf
    clear hq
    refine lv_lload_n hx hb dX12_within_6 rfl (lv_at hl 0 rfl) ?_
    refine lv_lload hx hb dX12_within_7 (lv_at hl 2 rfl) ?_
    refine W.lcmp hx hb dX12_within_9 ?_
    refine lv_if_gt (tgt := 17) hx hb dX12_within_10 (by decide) (fun hq => ?_) (fun hq => ?_)
    · replace hf := if_t hq hf
      clear hq
      refine lv_iconst (v := (0 : Int32)) hx hb dX12_within_17 (by decide) ?_
      cases hf
      exact m_zret C h rfl dX12_within_18
    · replace hf := if_f hq hf
      clear hq
      refine lv_iconst (v := (1 : Int32)) hx hb dX12_within_13 (by decide) ?_
      refine lv_goto (tgt := 18) hx hb dX12_within_14 (by decide) ?_
      cases hf
      exact m_zret C h rfl dX12_within_18

set_option maxHeartbeats 4000000 in
set_option maxRecDepth 100000 in
theorem qX12_has {l : Launch} {D : va_G} {cs : Nat → ClassId} {r : Int32}  {a0 : Int32} {a1 : Int32} (hf : fX12_has a0 a1 = some r) : GCon l D cs yX12_has cX12_has 2 (some .boolean) (rM 0) 0 0 [.int a0, .int a1] [] (some (.int r)) [] := by
  refine GCon.of (by decide) (Nat.le_of_ble_eq_true rfl) ?_
  intro p e s m args below meth c A ls H locs C h hl
  have hx := C.1
  have hb := C.2.1
  have C : MCx p s m args meth c A RX12 cX12_has 2 (some .boolean) D cs := C
  have hl : lv_has ls 2 [(0, .int a0), (1, .int a1)] := hl
  unfold fX12_has at hf
  refine lv_iload_n hx hb dX12_has_0 rfl (lv_at hl 0 rfl) ?_
  refine lv_iload_n hx hb dX12_has_1 rfl (lv_at hl 1 rfl) ?_
  refine x_ishr hx hb dX12_has_2 ?_
  refine lv_iconst (v := (1 : Int32)) hx hb dX12_has_3 (by decide) ?_
  refine lv_iand hx hb dX12_has_4 ?_
  refine lv_iconst (v := (1 : Int32)) hx hb dX12_has_5 (by decide) ?_
  refine lv_icmp_ne (tgt := 13) hx hb dX12_has_6 (by decide) (fun hq => ?_) (fun hq => ?_)
  · replace hf := if_tn hq hf
    clear hq
    refine lv_iconst (v := (0 : Int32)) hx hb dX12_has_13 (by decide) ?_
    cases hf
    exact m_zret C h rfl dX12_has_14
  · replace hf := if_t hq hf
    clear hq
    refine lv_iconst (v := (1 : Int32)) hx hb dX12_has_9 (by decide) ?_
    refine lv_goto (tgt := 14) hx hb dX12_has_10 (by decide) ?_
    cases hf
    exact m_zret C h rfl dX12_has_14

set_option maxHeartbeats 4000000 in
set_option maxRecDepth 100000 in
theorem wX12_bits_4 (C : MCx p s m args meth c A RX12 cX12_bits 3 (some .int) D cs)  {r : Int32}  : ∀ (n : Nat) (y1 : Int32) (y2 : Int32), fX12_bits_4 n y1 y2 = some r → ∀ (H : Heap) (locs : List Loc) (ls : Array Slot), MH D [] A s H locs → lv_has ls 3 [(1, .int y1), (2, .int y2)] → W p l e (rM 0) s m args below meth c H locs 0 0 (MQ below (GPost D (some (.int r)) [] A) args s 0 0 A) (F0 m 4 ls []) := by
  have hx := C.1
  have hb := C.2.1
  intro n
  induction n with
  | zero =>
    intro y1 y2 hf
    exact absurd hf (by simp [fX12_bits_4])
  | succ n ih =>
    intro y1 y2 hf H locs ls h hl
    rw [fX12_bits_4] at hf
    refine lv_iload_n hx hb dX12_bits_4 rfl (lv_at hl 1 rfl) ?_
    refine lv_if_eq (tgt := 20) hx hb dX12_bits_5 (by decide) (fun hq => ?_) (fun hq => ?_)
    · replace hf := if_t hq hf
      clear hq
      refine lv_iload_n hx hb dX12_bits_20 rfl (lv_at hl 0 rfl) ?_
      cases hf
      exact m_iret C h dX12_bits_21
    · replace hf := if_f hq hf
      clear hq
      obtain ⟨x1, ex1⟩ : ∃ z : Int32, z = y1 + (1 : Int32) := ⟨_, rfl⟩
      replace hf := bnd_at ex1 hf
      refine lv_iinc (v := x1) (lv' := [(1, .int x1), (2, .int y2)]) hx hb dX12_bits_8 hl (k := 0) rfl (by rw [ex1]; rfl) (by decide) rfl (fun ls hl => ?_)
      clear ex1
      refine lv_iload_n hx hb dX12_bits_11 rfl (lv_at hl 1 rfl) ?_
      refine lv_iload_n hx hb dX12_bits_12 rfl (lv_at hl 1 rfl) ?_
      refine lv_iconst (v := (1 : Int32)) hx hb dX12_bits_13 (by decide) ?_
      refine lv_isub hx hb dX12_bits_14 ?_
      refine lv_iand hx hb dX12_bits_15 ?_
      refine lv_topi (fun x2 ex2 => ?_)
      replace hf := bnd_at ex2 hf
      clear ex2
      refine lv_istore_n (lv' := [(2, .int x2), (1, .int x1)]) hx hb dX12_bits_16 rfl hl (by decide) rfl (fun ls hl => ?_)
      refine lv_goto (tgt := 4) hx hb dX12_bits_17 (by decide) ?_
      exact ih x1 x2 hf H locs ls h (lv_sub hl [1, 0] rfl)

set_option maxHeartbeats 4000000 in
set_option maxRecDepth 100000 in
theorem qX12_bits {l : Launch} {D : va_G} {cs : Nat → ClassId} {r : Int32}  {a0 : Int32} (hf : fX12_bits a0 = some r) : GCon l D cs yX12_bits cX12_bits 3 (some .int) (rM 0) 0 0 [.int a0] [] (some (.int r)) [] := by
  refine GCon.of (by decide) (Nat.le_of_ble_eq_true rfl) ?_
  intro p e s m args below meth c A ls H locs C h hl
  have hx := C.1
  have hb := C.2.1
  have C : MCx p s m args meth c A RX12 cX12_bits 3 (some .int) D cs := C
  have hl : lv_has ls 3 [(0, .int a0)] := hl
  unfold fX12_bits at hf
  refine lv_iconst (v := (0 : Int32)) hx hb dX12_bits_0 (by decide) ?_
  refine lv_istore_n (lv' := [(1, .int (0 : Int32)), (0, .int a0)]) hx hb dX12_bits_1 rfl hl (by decide) rfl (fun ls hl => ?_)
  refine lv_iload_n hx hb dX12_bits_2 rfl (lv_at hl 1 rfl) ?_
  refine lv_istore_n (lv' := [(2, .int a0), (1, .int (0 : Int32)), (0, .int a0)]) hx hb dX12_bits_3 rfl hl (by decide) rfl (fun ls hl => ?_)
  exact wX12_bits_4 C fuel (0 : Int32) a0 hf H locs ls h (lv_sub hl [1, 0] rfl)

set_option maxHeartbeats 4000000 in
set_option maxRecDepth 100000 in
theorem wX12_feed_76 (C : MCx p s m args meth c A RX12 cX12_feed 8 (some .int) D cs)  {r : Int32} {g' : MS}  {k23 : MS → Int32 → Int32 → Int32 → Int32 → Int32 → Int32 → Option (Int32 × MS)} (hk23 : ∀ (g : MS) (y1 : Int32) (y2 : Int32) (y3 : Int32) (y4 : Int32) (y5 : Int32) (y6 : Int32), k23 g y1 y2 y3 y4 y5 y6 = some (r, g') → ∀ (H : Heap) (locs : List Loc) (ls : Array Slot), MH D (MW cs ad g) A s H locs → lv_has ls 8 [(0, .ref (ad 48)), (1, .int y1), (2, .int y2), (3, .int y3), (4, .int y4), (5, .int y5), (6, .int y6)] → W p l e (rM 0) s m args below meth c H locs 0 0 (MQ below (GPost D (some (.int r)) (MW cs ad g') A) args s 0 0 A) (F0 m 23 ls [])) : ∀ (g : MS) (y1 : Int32) (y2 : Int32) (y3 : Int32) (y4 : Int32) (y5 : Int32) (y6 : Int32) (t0 : Int32), fX12_feed_76 k23 g y1 y2 y3 y4 y5 y6 t0 = some (r, g') → ∀ (H : Heap) (locs : List Loc) (ls : Array Slot), MH D (MW cs ad g) A s H locs → lv_has ls 8 [(0, .ref (ad 48)), (1, .int y1), (2, .int y2), (3, .int y3), (4, .int y4), (5, .int y5), (6, .int y6)] → W p l e (rM 0) s m args below meth c H locs 0 0 (MQ below (GPost D (some (.int r)) (MW cs ad g') A) args s 0 0 A) (F0 m 76 ls [.int t0]) := by
  have hx := C.1
  have hb := C.2.1
  intro g y1 y2 y3 y4 y5 y6 t0 hf H locs ls h hl
  unfold fX12_feed_76 at hf
  refine lv_istore (lv' := [(7, .int t0), (0, .ref (ad 48)), (1, .int y1), (2, .int y2), (3, .int y3), (4, .int y4), (5, .int y5), (6, .int y6)]) hx hb dX12_feed_76 hl (by decide) rfl (fun ls hl => ?_)
  refine lv_aload_n hx hb dX12_feed_78 rfl (lv_at hl 1 rfl) ?_
  refine mg_5 C h dX12_feed_79 ?_
  refine lv_aload_n hx hb dX12_feed_82 rfl (lv_at hl 1 rfl) ?_
  refine mg_6 C h dX12_feed_83 ?_
  refine lv_iload hx hb dX12_feed_86 (lv_at hl 0 rfl) ?_
  refine lv_bipush (v := (24 : Int32)) hx hb dX12_feed_88 (by decide) ?_
  refine lv_bipush (v := (8 : Int32)) hx hb dX12_feed_90 (by decide) ?_
  refine lv_iload hx hb dX12_feed_92 (lv_at hl 7 rfl) ?_
  refine lv_iconst (v := (3 : Int32)) hx hb dX12_feed_94 (by decide) ?_
  refine lv_iand hx hb dX12_feed_95 ?_
  refine lv_imul hx hb dX12_feed_96 ?_
  refine lv_isub hx hb dX12_feed_97 ?_
  refine x_iushr hx hb dX12_feed_98 ?_
  refine lv_sipush (v := (255 : Int32)) hx hb dX12_feed_99 (by decide) ?_
  refine lv_iand hx hb dX12_feed_102 ?_
  replace hf := chk_some hf
  obtain ⟨hq, hf⟩ := hf
  replace hf := bnd_ex hf
  obtain ⟨g1, eg1, hf⟩ := hf
  refine ms_5 C h hq dX12_feed_103 (fun H locs h => ?_)
  rw [← eg1] at h
  clear hq eg1
  refine lv_aload_n hx hb dX12_feed_104 rfl (lv_at hl 1 rfl) ?_
  refine lv_dup hx hb dX12_feed_105 rfl ?_
  refine mg_6 C h dX12_feed_106 ?_
  refine lv_iconst (v := (1 : Int32)) hx hb dX12_feed_109 (by decide) ?_
  refine lv_iadd hx hb dX12_feed_110 ?_
  replace hf := bnd_ex hf
  obtain ⟨g2, eg2, hf⟩ := hf
  refine mp_6 C h dX12_feed_111 (fun H locs h => ?_)
  rw [← eg2] at h
  clear eg2
  obtain ⟨x3, ex3⟩ : ∃ z : Int32, z = y6 + (1 : Int32) := ⟨_, rfl⟩
  replace hf := bnd_at ex3 hf
  refine lv_iinc (v := x3) (lv' := [(6, .int x3), (7, .int t0), (0, .ref (ad 48)), (1, .int y1), (2, .int y2), (3, .int y3), (4, .int y4), (5, .int y5)]) hx hb dX12_feed_114 hl (k := 7) rfl (by rw [ex3]; rfl) (by decide) rfl (fun ls hl => ?_)
  clear ex3
  refine lv_goto (tgt := 23) hx hb dX12_feed_117 (by decide) ?_
  exact hk23 g2 y1 y2 y3 y4 y5 x3 hf H locs ls h (lv_sub hl [2, 3, 4, 5, 6, 7, 0] rfl)

set_option maxHeartbeats 4000000 in
set_option maxRecDepth 100000 in
theorem wX12_feed_23 (C : MCx p s m args meth c A RX12 cX12_feed 8 (some .int) D cs)  {r : Int32} {g' : MS}  : ∀ (n : Nat) (g : MS) (y1 : Int32) (y2 : Int32) (y3 : Int32) (y4 : Int32) (y5 : Int32) (y6 : Int32), fX12_feed_23 n g y1 y2 y3 y4 y5 y6 = some (r, g') → ∀ (H : Heap) (locs : List Loc) (ls : Array Slot), MH D (MW cs ad g) A s H locs → lv_has ls 8 [(0, .ref (ad 48)), (1, .int y1), (2, .int y2), (3, .int y3), (4, .int y4), (5, .int y5), (6, .int y6)] → W p l e (rM 0) s m args below meth c H locs 0 0 (MQ below (GPost D (some (.int r)) (MW cs ad g') A) args s 0 0 A) (F0 m 23 ls []) := by
  have hx := C.1
  have hb := C.2.1
  intro n
  induction n with
  | zero =>
    intro g y1 y2 y3 y4 y5 y6 hf
    exact absurd hf (by simp [fX12_feed_23])
  | succ n ih =>
    intro g y1 y2 y3 y4 y5 y6 hf H locs ls h hl
    rw [fX12_feed_23] at hf
    refine lv_iload hx hb dX12_feed_23 (lv_at hl 6 rfl) ?_
    refine lv_bipush (v := (20 : Int32)) hx hb dX12_feed_25 (by decide) ?_
    refine lv_icmp_ge (tgt := 120) hx hb dX12_feed_27 (by decide) (fun hq => ?_) (fun hq => ?_)
    · replace hf := if_t hq hf
      clear hq
      refine lv_aload_n hx hb dX12_feed_120 rfl (lv_at hl 0 rfl) ?_
      refine mg_6 C h dX12_feed_121 ?_
      cases hf
      exact m_iret C h dX12_feed_124
    · replace hf := if_f hq hf
      clear hq
      refine lv_iload hx hb dX12_feed_30 (lv_at hl 6 rfl) ?_
      refine lv_iconst (v := (4 : Int32)) hx hb dX12_feed_32 (by decide) ?_
      refine lv_icmp_ge (tgt := 40) hx hb dX12_feed_33 (by decide) (fun hq => ?_) (fun hq => ?_)
      · replace hf := if_t hq hf
        clear hq
        refine lv_iload hx hb dX12_feed_40 (lv_at hl 6 rfl) ?_
        refine lv_bipush (v := (8 : Int32)) hx hb dX12_feed_42 (by decide) ?_
        refine lv_icmp_ge (tgt := 51) hx hb dX12_feed_44 (by decide) (fun hq => ?_) (fun hq => ?_)
        · replace hf := if_t hq hf
          clear hq
          refine lv_iload hx hb dX12_feed_51 (lv_at hl 6 rfl) ?_
          refine lv_bipush (v := (12 : Int32)) hx hb dX12_feed_53 (by decide) ?_
          refine lv_icmp_ge (tgt := 62) hx hb dX12_feed_55 (by decide) (fun hq => ?_) (fun hq => ?_)
          · replace hf := if_t hq hf
            clear hq
            refine lv_iload hx hb dX12_feed_62 (lv_at hl 6 rfl) ?_
            refine lv_bipush (v := (16 : Int32)) hx hb dX12_feed_64 (by decide) ?_
            refine lv_icmp_ge (tgt := 74) hx hb dX12_feed_66 (by decide) (fun hq => ?_) (fun hq => ?_)
            · replace hf := if_t hq hf
              clear hq
              refine lv_iload hx hb dX12_feed_74 (lv_at hl 5 rfl) ?_
              exact wX12_feed_76 C ih g y1 y2 y3 y4 y5 y6 y5 hf H locs ls h (lv_sub hl [0, 1, 2, 3, 4, 5, 6] rfl)
            · replace hf := if_f hq hf
              clear hq
              refine lv_iload hx hb dX12_feed_69 (lv_at hl 4 rfl) ?_
              refine lv_goto (tgt := 76) hx hb dX12_feed_71 (by decide) ?_
              exact wX12_feed_76 C ih g y1 y2 y3 y4 y5 y6 y4 hf H locs ls h (lv_sub hl [0, 1, 2, 3, 4, 5, 6] rfl)
          · replace hf := if_f hq hf
            clear hq
            refine lv_iload_n hx hb dX12_feed_58 rfl (lv_at hl 3 rfl) ?_
            refine lv_goto (tgt := 76) hx hb dX12_feed_59 (by decide) ?_
            exact wX12_feed_76 C ih g y1 y2 y3 y4 y5 y6 y3 hf H locs ls h (lv_sub hl [0, 1, 2, 3, 4, 5, 6] rfl)
        · replace hf := if_f hq hf
          clear hq
          refine lv_iload_n hx hb dX12_feed_47 rfl (lv_at hl 2 rfl) ?_
          refine lv_goto (tgt := 76) hx hb dX12_feed_48 (by decide) ?_
          exact wX12_feed_76 C ih g y1 y2 y3 y4 y5 y6 y2 hf H locs ls h (lv_sub hl [0, 1, 2, 3, 4, 5, 6] rfl)
      · replace hf := if_f hq hf
        clear hq
        refine lv_iload_n hx hb dX12_feed_36 rfl (lv_at hl 1 rfl) ?_
        refine lv_goto (tgt := 76) hx hb dX12_feed_37 (by decide) ?_
        exact wX12_feed_76 C ih g y1 y2 y3 y4 y5 y6 y1 hf H locs ls h (lv_sub hl [0, 1, 2, 3, 4, 5, 6] rfl)

set_option maxHeartbeats 4000000 in
set_option maxRecDepth 100000 in
theorem qX12_feed {l : Launch} {D : va_G} {cs : Nat → ClassId} {ad : Nat → Nat} {r : Int32} {g' : MS} {g : MS}  {a0 : Int32} {a1 : Int32} {a2 : Int32} {a3 : Int32} {a4 : Int32} (hf : fX12_feed g a0 a1 a2 a3 a4 = some (r, g')) : GCon l D cs yX12_feed cX12_feed 8 (some .int) (rM 0) 0 0 [.ref (ad 48), .int a0, .int a1, .int a2, .int a3, .int a4] (MW cs ad g) (some (.int r)) (MW cs ad g') := by
  refine GCon.of (by decide) (Nat.le_of_ble_eq_true rfl) ?_
  intro p e s m args below meth c A ls H locs C h hl
  have hx := C.1
  have hb := C.2.1
  have C : MCx p s m args meth c A RX12 cX12_feed 8 (some .int) D cs := C
  have hl : lv_has ls 8 [(0, .ref (ad 48)), (1, .int a0), (2, .int a1), (3, .int a2), (4, .int a3), (5, .int a4)] := hl
  unfold fX12_feed at hf
  refine lv_aload_n hx hb dX12_feed_0 rfl (lv_at hl 0 rfl) ?_
  refine lv_iconst (v := (0 : Int32)) hx hb dX12_feed_1 (by decide) ?_
  replace hf := bnd_ex hf
  obtain ⟨g4, eg4, hf⟩ := hf
  refine mp_4 C h dX12_feed_2 (fun H locs h => ?_)
  rw [← eg4] at h
  clear eg4
  refine lv_aload_n hx hb dX12_feed_5 rfl (lv_at hl 0 rfl) ?_
  refine mg_6 C h dX12_feed_6 ?_
  refine lv_bipush (v := (20 : Int32)) hx hb dX12_feed_9 (by decide) ?_
  refine lv_iadd hx hb dX12_feed_11 ?_
  refine lv_sipush (v := (900 : Int32)) hx hb dX12_feed_12 (by decide) ?_
  refine lv_icmp_le (tgt := 20) hx hb dX12_feed_15 (by decide) (fun hq => ?_) (fun hq => ?_)
  · replace hf := if_t hq hf
    clear hq
    refine lv_iconst (v := (0 : Int32)) hx hb dX12_feed_20 (by decide) ?_
    refine lv_istore (lv' := [(6, .int (0 : Int32)), (0, .ref (ad 48)), (1, .int a0), (2, .int a1), (3, .int a2), (4, .int a3), (5, .int a4)]) hx hb dX12_feed_21 hl (by decide) rfl (fun ls hl => ?_)
    exact wX12_feed_23 C fuel g4 a0 a1 a2 a3 a4 (0 : Int32) hf H locs ls h (lv_sub hl [1, 2, 3, 4, 5, 6, 0] rfl)
  · replace hf := if_f hq hf
    clear hq
    refine lv_iconst (v := (-1 : Int32)) hx hb dX12_feed_18 (by decide) ?_
    cases hf
    exact m_iret C h dX12_feed_19

set_option maxHeartbeats 4000000 in
set_option maxRecDepth 100000 in
theorem qX12_see {l : Launch} {D : va_G} {cs : Nat → ClassId} {ad : Nat → Nat} {r : Int32} {g' : MS} {g : MS}  {a0 : Int32} (hf : fX12_see g a0 = some (r, g')) : GCon l D cs yX12_see cX12_see 2 (some .int) (rM 0) 0 0 [.ref (ad 48), .int a0] (MW cs ad g) (some (.int r)) (MW cs ad g') := by
  refine GCon.of (by decide) (Nat.le_of_ble_eq_true rfl) ?_
  intro p e s m args below meth c A ls H locs C h hl
  have hx := C.1
  have hb := C.2.1
  have C : MCx p s m args meth c A RX12 cX12_see 2 (some .int) D cs := C
  have hl : lv_has ls 2 [(0, .ref (ad 48)), (1, .int a0)] := hl
  unfold fX12_see at hf
  refine lv_iload_n hx hb dX12_see_0 rfl (lv_at hl 1 rfl) ?_
  refine lv_aload_n hx hb dX12_see_1 rfl (lv_at hl 0 rfl) ?_
  refine mg_7 C h dX12_see_2 ?_
  refine lv_icmp_ge (tgt := 17) hx hb dX12_see_5 (by decide) (fun hq => ?_) (fun hq => ?_)
  · replace hf := if_t hq hf
    clear hq
    refine lv_iconst (v := (0 : Int32)) hx hb dX12_see_17 (by decide) ?_
    cases hf
    exact m_iret C h dX12_see_18
  · replace hf := if_f hq hf
    clear hq
    refine lv_aload_n hx hb dX12_see_8 rfl (lv_at hl 0 rfl) ?_
    refine mg_5 C h dX12_see_9 ?_
    refine lv_iload_n hx hb dX12_see_12 rfl (lv_at hl 1 rfl) ?_
    replace hf := chk_some hf
    obtain ⟨hq, hf⟩ := hf
    refine ml_5 C h hq dX12_see_13 ?_
    clear hq
    refine lv_goto (tgt := 18) hx hb dX12_see_14 (by decide) ?_
    cases hf
    exact m_iret C h dX12_see_18

set_option maxHeartbeats 4000000 in
set_option maxRecDepth 100000 in
theorem qX12_isLetter {l : Launch} {D : va_G} {cs : Nat → ClassId} {r : Int32}  {a0 : Int32} (hf : fX12_isLetter a0 = some r) : GCon l D cs yX12_isLetter cX12_isLetter 1 (some .boolean) (rM 0) 0 0 [.int a0] [] (some (.int r)) [] := by
  refine GCon.of (by decide) (Nat.le_of_ble_eq_true rfl) ?_
  intro p e s m args below meth c A ls H locs C h hl
  have hx := C.1
  have hb := C.2.1
  have C : MCx p s m args meth c A RX12 cX12_isLetter 1 (some .boolean) D cs := C
  have hl : lv_has ls 1 [(0, .int a0)] := hl
  unfold fX12_isLetter at hf
  refine lv_iload_n hx hb dX12_isLetter_0 rfl (lv_at hl 0 rfl) ?_
  refine lv_bipush (v := (97 : Int32)) hx hb dX12_isLetter_1 (by decide) ?_
  refine lv_icmp_lt (tgt := 16) hx hb dX12_isLetter_3 (by decide) (fun hq => ?_) (fun hq => ?_)
  · replace hf := if_t hq hf
    clear hq
    refine lv_iconst (v := (0 : Int32)) hx hb dX12_isLetter_16 (by decide) ?_
    cases hf
    exact m_zret C h rfl dX12_isLetter_17
  · replace hf := if_f hq hf
    clear hq
    refine lv_iload_n hx hb dX12_isLetter_6 rfl (lv_at hl 0 rfl) ?_
    refine lv_bipush (v := (122 : Int32)) hx hb dX12_isLetter_7 (by decide) ?_
    refine lv_icmp_gt (tgt := 16) hx hb dX12_isLetter_9 (by decide) (fun hq => ?_) (fun hq => ?_)
    · replace hf := if_t hq hf
      clear hq
      refine lv_iconst (v := (0 : Int32)) hx hb dX12_isLetter_16 (by decide) ?_
      cases hf
      exact m_zret C h rfl dX12_isLetter_17
    · replace hf := if_f hq hf
      clear hq
      refine lv_iconst (v := (1 : Int32)) hx hb dX12_isLetter_12 (by decide) ?_
      refine lv_goto (tgt := 17) hx hb dX12_isLetter_13 (by decide) ?_
      cases hf
      exact m_zret C h rfl dX12_isLetter_17

set_option maxHeartbeats 4000000 in
set_option maxRecDepth 100000 in
theorem qX12_isDigit {l : Launch} {D : va_G} {cs : Nat → ClassId} {r : Int32}  {a0 : Int32} (hf : fX12_isDigit a0 = some r) : GCon l D cs yX12_isDigit cX12_isDigit 1 (some .boolean) (rM 0) 0 0 [.int a0] [] (some (.int r)) [] := by
  refine GCon.of (by decide) (Nat.le_of_ble_eq_true rfl) ?_
  intro p e s m args below meth c A ls H locs C h hl
  have hx := C.1
  have hb := C.2.1
  have C : MCx p s m args meth c A RX12 cX12_isDigit 1 (some .boolean) D cs := C
  have hl : lv_has ls 1 [(0, .int a0)] := hl
  unfold fX12_isDigit at hf
  refine lv_iload_n hx hb dX12_isDigit_0 rfl (lv_at hl 0 rfl) ?_
  refine lv_bipush (v := (48 : Int32)) hx hb dX12_isDigit_1 (by decide) ?_
  refine lv_icmp_lt (tgt := 16) hx hb dX12_isDigit_3 (by decide) (fun hq => ?_) (fun hq => ?_)
  · replace hf := if_t hq hf
    clear hq
    refine lv_iconst (v := (0 : Int32)) hx hb dX12_isDigit_16 (by decide) ?_
    cases hf
    exact m_zret C h rfl dX12_isDigit_17
  · replace hf := if_f hq hf
    clear hq
    refine lv_iload_n hx hb dX12_isDigit_6 rfl (lv_at hl 0 rfl) ?_
    refine lv_bipush (v := (57 : Int32)) hx hb dX12_isDigit_7 (by decide) ?_
    refine lv_icmp_gt (tgt := 16) hx hb dX12_isDigit_9 (by decide) (fun hq => ?_) (fun hq => ?_)
    · replace hf := if_t hq hf
      clear hq
      refine lv_iconst (v := (0 : Int32)) hx hb dX12_isDigit_16 (by decide) ?_
      cases hf
      exact m_zret C h rfl dX12_isDigit_17
    · replace hf := if_f hq hf
      clear hq
      refine lv_iconst (v := (1 : Int32)) hx hb dX12_isDigit_12 (by decide) ?_
      refine lv_goto (tgt := 17) hx hb dX12_isDigit_13 (by decide) ?_
      cases hf
      exact m_zret C h rfl dX12_isDigit_17

set_option maxHeartbeats 4000000 in
set_option maxRecDepth 100000 in
theorem wX12_isSignByte_82 (C : MCx p s m args meth c A RX12 cX12_isSignByte 2 (some .boolean) D cs)  {r : Int32}  : fX12_isSignByte_82  = some r → ∀ (H : Heap) (locs : List Loc) (ls : Array Slot), MH D [] A s H locs → lv_has ls 2 [] → W p l e (rM 0) s m args below meth c H locs 0 0 (MQ below (GPost D (some (.int r)) [] A) args s 0 0 A) (F0 m 82 ls []) := by
  have hx := C.1
  have hb := C.2.1
  intro  hf H locs ls h hl
  unfold fX12_isSignByte_82 at hf
  refine lv_iconst (v := (1 : Int32)) hx hb dX12_isSignByte_82 (by decide) ?_
  refine lv_goto (tgt := 87) hx hb dX12_isSignByte_83 (by decide) ?_
  cases hf
  exact m_zret C h rfl dX12_isSignByte_87

set_option maxHeartbeats 4000000 in
set_option maxRecDepth 100000 in
theorem wX12_isSignByte_41 (C : MCx p s m args meth c A RX12 cX12_isSignByte 2 (some .boolean) D cs)  {r : Int32}  : ∀ (y0 : Int32) (t0 : Int32), fX12_isSignByte_41 y0 t0 = some r → ∀ (H : Heap) (locs : List Loc) (ls : Array Slot), MH D [] A s H locs → lv_has ls 2 [(0, .int y0)] → W p l e (rM 0) s m args below meth c H locs 0 0 (MQ below (GPost D (some (.int r)) [] A) args s 0 0 A) (F0 m 41 ls [.int t0]) := by
  have hx := C.1
  have hb := C.2.1
  intro y0 t0 hf H locs ls h hl
  unfold fX12_isSignByte_41 at hf
  refine lv_istore_n (lv' := [(1, .int t0), (0, .int y0)]) hx hb dX12_isSignByte_41 rfl hl (by decide) rfl (fun ls hl => ?_)
  refine lv_iload_n hx hb dX12_isSignByte_42 rfl (lv_at hl 0 rfl) ?_
  refine lv_if_ne (tgt := 82) hx hb dX12_isSignByte_43 (by decide) (fun hq => ?_) (fun hq => ?_)
  · replace hf := if_tn hq hf
    clear hq
    exact wX12_isSignByte_82 C  hf H locs ls h (lv_sub hl [] rfl)
  · replace hf := if_t hq hf
    clear hq
    refine lv_iload_n hx hb dX12_isSignByte_46 rfl (lv_at hl 1 rfl) ?_
    refine lv_bipush (v := (59 : Int32)) hx hb dX12_isSignByte_47 (by decide) ?_
    refine lv_icmp_eq (tgt := 82) hx hb dX12_isSignByte_49 (by decide) (fun hq => ?_) (fun hq => ?_)
    · replace hf := if_t hq hf
      clear hq
      exact wX12_isSignByte_82 C  hf H locs ls h (lv_sub hl [] rfl)
    · replace hf := if_f hq hf
      clear hq
      refine lv_iload_n hx hb dX12_isSignByte_52 rfl (lv_at hl 1 rfl) ?_
      refine lv_bipush (v := (43 : Int32)) hx hb dX12_isSignByte_53 (by decide) ?_
      refine lv_icmp_eq (tgt := 82) hx hb dX12_isSignByte_55 (by decide) (fun hq => ?_) (fun hq => ?_)
      · replace hf := if_t hq hf
        clear hq
        exact wX12_isSignByte_82 C  hf H locs ls h (lv_sub hl [] rfl)
      · replace hf := if_f hq hf
        clear hq
        refine lv_iload_n hx hb dX12_isSignByte_58 rfl (lv_at hl 1 rfl) ?_
        refine lv_bipush (v := (45 : Int32)) hx hb dX12_isSignByte_59 (by decide) ?_
        refine lv_icmp_eq (tgt := 82) hx hb dX12_isSignByte_61 (by decide) (fun hq => ?_) (fun hq => ?_)
        · replace hf := if_t hq hf
          clear hq
          exact wX12_isSignByte_82 C  hf H locs ls h (lv_sub hl [] rfl)
        · replace hf := if_f hq hf
          clear hq
          refine lv_iload_n hx hb dX12_isSignByte_64 rfl (lv_at hl 1 rfl) ?_
          refine lv_bipush (v := (42 : Int32)) hx hb dX12_isSignByte_65 (by decide) ?_
          refine lv_icmp_eq (tgt := 82) hx hb dX12_isSignByte_67 (by decide) (fun hq => ?_) (fun hq => ?_)
          · replace hf := if_t hq hf
            clear hq
            exact wX12_isSignByte_82 C  hf H locs ls h (lv_sub hl [] rfl)
          · replace hf := if_f hq hf
            clear hq
            refine lv_iload_n hx hb dX12_isSignByte_70 rfl (lv_at hl 1 rfl) ?_
            refine lv_bipush (v := (40 : Int32)) hx hb dX12_isSignByte_71 (by decide) ?_
            refine lv_icmp_eq (tgt := 82) hx hb dX12_isSignByte_73 (by decide) (fun hq => ?_) (fun hq => ?_)
            · replace hf := if_t hq hf
              clear hq
              exact wX12_isSignByte_82 C  hf H locs ls h (lv_sub hl [] rfl)
            · replace hf := if_f hq hf
              clear hq
              refine lv_iload_n hx hb dX12_isSignByte_76 rfl (lv_at hl 1 rfl) ?_
              refine lv_bipush (v := (41 : Int32)) hx hb dX12_isSignByte_77 (by decide) ?_
              refine lv_icmp_ne (tgt := 86) hx hb dX12_isSignByte_79 (by decide) (fun hq => ?_) (fun hq => ?_)
              · replace hf := if_tn hq hf
                clear hq
                refine lv_iconst (v := (0 : Int32)) hx hb dX12_isSignByte_86 (by decide) ?_
                cases hf
                exact m_zret C h rfl dX12_isSignByte_87
              · replace hf := if_t hq hf
                clear hq
                exact wX12_isSignByte_82 C  hf H locs ls h (lv_sub hl [] rfl)

set_option maxHeartbeats 4000000 in
set_option maxRecDepth 100000 in
theorem wX12_isSignByte_36 (C : MCx p s m args meth c A RX12 cX12_isSignByte 2 (some .boolean) D cs)  {r : Int32}  : ∀ (y0 : Int32), fX12_isSignByte_36 y0 = some r → ∀ (H : Heap) (locs : List Loc) (ls : Array Slot), MH D [] A s H locs → lv_has ls 2 [(0, .int y0)] → W p l e (rM 0) s m args below meth c H locs 0 0 (MQ below (GPost D (some (.int r)) [] A) args s 0 0 A) (F0 m 36 ls []) := by
  have hx := C.1
  have hb := C.2.1
  intro y0 hf H locs ls h hl
  unfold fX12_isSignByte_36 at hf
  refine lv_iconst (v := (1 : Int32)) hx hb dX12_isSignByte_36 (by decide) ?_
  refine lv_goto (tgt := 41) hx hb dX12_isSignByte_37 (by decide) ?_
  exact wX12_isSignByte_41 C y0 (1 : Int32) hf H locs ls h (lv_sub hl [0] rfl)

set_option maxHeartbeats 4000000 in
set_option maxRecDepth 100000 in
theorem qX12_isSignByte {l : Launch} {D : va_G} {cs : Nat → ClassId} {r : Int32}  {a0 : Int32} (hf : fX12_isSignByte a0 = some r) : GCon l D cs yX12_isSignByte cX12_isSignByte 2 (some .boolean) (rM 0) 0 0 [.int a0] [] (some (.int r)) [] := by
  refine GCon.of (by decide) (Nat.le_of_ble_eq_true rfl) ?_
  intro p e s m args below meth c A ls H locs C h hl
  have hx := C.1
  have hb := C.2.1
  have C : MCx p s m args meth c A RX12 cX12_isSignByte 2 (some .boolean) D cs := C
  have hl : lv_has ls 2 [(0, .int a0)] := hl
  unfold fX12_isSignByte at hf
  refine lv_iload_n hx hb dX12_isSignByte_0 rfl (lv_at hl 0 rfl) ?_
  refine lv_bipush (v := (91 : Int32)) hx hb dX12_isSignByte_1 (by decide) ?_
  refine lv_icmp_eq (tgt := 36) hx hb dX12_isSignByte_3 (by decide) (fun hq => ?_) (fun hq => ?_)
  · replace hf := if_t hq hf
    clear hq
    exact wX12_isSignByte_36 C a0 hf H locs ls h (lv_sub hl [0] rfl)
  · replace hf := if_f hq hf
    clear hq
    refine lv_iload_n hx hb dX12_isSignByte_6 rfl (lv_at hl 0 rfl) ?_
    refine lv_bipush (v := (93 : Int32)) hx hb dX12_isSignByte_7 (by decide) ?_
    refine lv_icmp_eq (tgt := 36) hx hb dX12_isSignByte_9 (by decide) (fun hq => ?_) (fun hq => ?_)
    · replace hf := if_t hq hf
      clear hq
      exact wX12_isSignByte_36 C a0 hf H locs ls h (lv_sub hl [0] rfl)
    · replace hf := if_f hq hf
      clear hq
      refine lv_iload_n hx hb dX12_isSignByte_12 rfl (lv_at hl 0 rfl) ?_
      refine lv_bipush (v := (61 : Int32)) hx hb dX12_isSignByte_13 (by decide) ?_
      refine lv_icmp_eq (tgt := 36) hx hb dX12_isSignByte_15 (by decide) (fun hq => ?_) (fun hq => ?_)
      · replace hf := if_t hq hf
        clear hq
        exact wX12_isSignByte_36 C a0 hf H locs ls h (lv_sub hl [0] rfl)
      · replace hf := if_f hq hf
        clear hq
        refine lv_iload_n hx hb dX12_isSignByte_18 rfl (lv_at hl 0 rfl) ?_
        refine lv_bipush (v := (60 : Int32)) hx hb dX12_isSignByte_19 (by decide) ?_
        refine lv_icmp_eq (tgt := 36) hx hb dX12_isSignByte_21 (by decide) (fun hq => ?_) (fun hq => ?_)
        · replace hf := if_t hq hf
          clear hq
          exact wX12_isSignByte_36 C a0 hf H locs ls h (lv_sub hl [0] rfl)
        · replace hf := if_f hq hf
          clear hq
          refine lv_iload_n hx hb dX12_isSignByte_24 rfl (lv_at hl 0 rfl) ?_
          refine lv_bipush (v := (62 : Int32)) hx hb dX12_isSignByte_25 (by decide) ?_
          refine lv_icmp_eq (tgt := 36) hx hb dX12_isSignByte_27 (by decide) (fun hq => ?_) (fun hq => ?_)
          · replace hf := if_t hq hf
            clear hq
            exact wX12_isSignByte_36 C a0 hf H locs ls h (lv_sub hl [0] rfl)
          · replace hf := if_f hq hf
            clear hq
            refine lv_iload_n hx hb dX12_isSignByte_30 rfl (lv_at hl 0 rfl) ?_
            refine lv_bipush (v := (58 : Int32)) hx hb dX12_isSignByte_31 (by decide) ?_
            refine lv_icmp_ne (tgt := 40) hx hb dX12_isSignByte_33 (by decide) (fun hq => ?_) (fun hq => ?_)
            · replace hf := if_tn hq hf
              clear hq
              refine lv_iconst (v := (0 : Int32)) hx hb dX12_isSignByte_40 (by decide) ?_
              exact wX12_isSignByte_41 C a0 (0 : Int32) hf H locs ls h (lv_sub hl [0] rfl)
            · replace hf := if_t hq hf
              clear hq
              exact wX12_isSignByte_36 C a0 hf H locs ls h (lv_sub hl [0] rfl)

set_option maxHeartbeats 4000000 in
set_option maxRecDepth 100000 in
theorem wX12_readsOn_250 (C : MCx p s m args meth c A RX12 cX12_readsOn 2 none D cs)  {g' : MS}  : ∀ (g : MS) (t1 : Int32), fX12_readsOn_250 g t1 = some g' → ∀ (H : Heap) (locs : List Loc) (ls : Array Slot), MH D (MW cs ad g) A s H locs → lv_has ls 2 [(0, .ref (ad 48))] → W p l e (rM 1) s m args below meth c H locs 0 0 (MQ below (GPost D none (MW cs ad g') A) args s 0 0 A) (F0 m 250 ls [.int t1, .ref (ad 48)]) := by
  have hx := C.1
  have hb := C.2.1
  intro g t1 hf H locs ls h hl
  unfold fX12_readsOn_250 at hf
  replace hf := bnd_ex hf
  obtain ⟨g1, eg1, hf⟩ := hf
  refine mp_10 C h dX12_readsOn_250 (fun H locs h => ?_)
  rw [← eg1] at h
  clear eg1
  refine lv_aload_n hx hb dX12_readsOn_253 rfl (lv_at hl 0 rfl) ?_
  refine lv_dup hx hb dX12_readsOn_254 rfl ?_
  refine mg_8 C h dX12_readsOn_255 ?_
  refine lv_iconst (v := (1 : Int32)) hx hb dX12_readsOn_258 (by decide) ?_
  refine lv_iadd hx hb dX12_readsOn_259 ?_
  replace hf := bnd_ex hf
  obtain ⟨g2, eg2, hf⟩ := hf
  refine mp_8 C h dX12_readsOn_260 (fun H locs h => ?_)
  rw [← eg2] at h
  clear eg2
  cases hf
  exact m_vret C h dX12_readsOn_263

set_option maxHeartbeats 4000000 in
set_option maxRecDepth 100000 in
theorem wX12_readsOn_231 (C : MCx p s m args meth c A RX12 cX12_readsOn 2 none D cs)  {g' : MS}  : ∀ (g : MS) (t1 : Int32), fX12_readsOn_231 g t1 = some g' → ∀ (H : Heap) (locs : List Loc) (ls : Array Slot), MH D (MW cs ad g) A s H locs → lv_has ls 2 [] → W p l e (rM 1) s m args below meth c H locs 0 0 (MQ below (GPost D none (MW cs ad g') A) args s 0 0 A) (F0 m 231 ls [.int t1, .ref (ad 48)]) := by
  have hx := C.1
  have hb := C.2.1
  intro g t1 hf H locs ls h hl
  unfold fX12_readsOn_231 at hf
  replace hf := bnd_ex hf
  obtain ⟨g3, eg3, hf⟩ := hf
  refine mp_10 C h dX12_readsOn_231 (fun H locs h => ?_)
  rw [← eg3] at h
  clear eg3
  refine lv_goto (tgt := 263) hx hb dX12_readsOn_234 (by decide) ?_
  cases hf
  exact m_vret C h dX12_readsOn_263

set_option maxHeartbeats 4000000 in
set_option maxRecDepth 100000 in
theorem wX12_readsOn_196 (C : MCx p s m args meth c A RX12 cX12_readsOn 2 none D cs)  {g' : MS}  {k141 : MS → Option (MS)} (hk141 : ∀ (g : MS), k141 g = some g' → ∀ (H : Heap) (locs : List Loc) (ls : Array Slot), MH D (MW cs ad g) A s H locs → lv_has ls 2 [(0, .ref (ad 48))] → W p l e (rM 1) s m args below meth c H locs 0 0 (MQ below (GPost D none (MW cs ad g') A) args s 0 0 A) (F0 m 141 ls [])) : ∀ (g : MS) (t1 : Int32), fX12_readsOn_196 k141 g t1 = some g' → ∀ (H : Heap) (locs : List Loc) (ls : Array Slot), MH D (MW cs ad g) A s H locs → lv_has ls 2 [(0, .ref (ad 48))] → W p l e (rM 1) s m args below meth c H locs 0 0 (MQ below (GPost D none (MW cs ad g') A) args s 0 0 A) (F0 m 196 ls [.int t1, .ref (ad 48)]) := by
  have hx := C.1
  have hb := C.2.1
  intro g t1 hf H locs ls h hl
  unfold fX12_readsOn_196 at hf
  replace hf := bnd_ex hf
  obtain ⟨g4, eg4, hf⟩ := hf
  refine mp_11 C h dX12_readsOn_196 (fun H locs h => ?_)
  rw [← eg4] at h
  clear eg4
  refine lv_aload_n hx hb dX12_readsOn_199 rfl (lv_at hl 0 rfl) ?_
  refine lv_dup hx hb dX12_readsOn_200 rfl ?_
  refine mg_8 C h dX12_readsOn_201 ?_
  refine lv_iconst (v := (1 : Int32)) hx hb dX12_readsOn_204 (by decide) ?_
  refine lv_iadd hx hb dX12_readsOn_205 ?_
  replace hf := bnd_ex hf
  obtain ⟨g5, eg5, hf⟩ := hf
  refine mp_8 C h dX12_readsOn_206 (fun H locs h => ?_)
  rw [← eg5] at h
  clear eg5
  refine lv_goto (tgt := 141) hx hb dX12_readsOn_209 (by decide) ?_
  exact hk141 g5 hf H locs ls h (lv_sub hl [0] rfl)

set_option maxHeartbeats 4000000 in
set_option maxRecDepth 100000 in
theorem wX12_readsOn_141 (C : MCx p s m args meth c A RX12 cX12_readsOn 2 none D cs)  {g' : MS}  : ∀ (n : Nat) (g : MS), fX12_readsOn_141 n g = some g' → ∀ (H : Heap) (locs : List Loc) (ls : Array Slot), MH D (MW cs ad g) A s H locs → lv_has ls 2 [(0, .ref (ad 48))] → W p l e (rM 1) s m args below meth c H locs 0 0 (MQ below (GPost D none (MW cs ad g') A) args s 0 0 A) (F0 m 141 ls []) := by
  have hx := C.1
  have hb := C.2.1
  intro n
  induction n with
  | zero =>
    intro g hf
    exact absurd hf (by simp [fX12_readsOn_141])
  | succ n ih =>
    intro g hf H locs ls h hl
    rw [fX12_readsOn_141] at hf
    refine lv_aload_n hx hb dX12_readsOn_141 rfl (lv_at hl 0 rfl) ?_
    refine lv_aload_n hx hb dX12_readsOn_142 rfl (lv_at hl 0 rfl) ?_
    refine mg_8 C h dX12_readsOn_143 ?_
    replace hf := bndc_some hf
    obtain ⟨x6, g7, hc, hf⟩ := hf
    refine m_callVi [.int (g.1 8)] C h cv_X12_108 (qX12_see hc) rfl ⟨rfl, rfl⟩ ⟨Nat.le_of_ble_eq_true rfl, Nat.le_of_ble_eq_true rfl⟩ (m_recv C h) hl.1 rfl (Nat.le_of_ble_eq_true rfl) ⟨Nat.le_refl _, Nat.le_refl _⟩ dX12_readsOn_146 (fun H locs h => ?_)
    clear hc
    replace hf := bndv_some hf
    obtain ⟨x8, hc, hf⟩ := hf
    refine m_callSi [.int x6] C h cs_X12_112 (qX12_isDigit hc) rfl ⟨rfl, rfl⟩ ⟨Nat.le_of_ble_eq_true rfl, Nat.le_of_ble_eq_true rfl⟩ hl.1 rfl (Nat.le_of_ble_eq_true rfl) ⟨Nat.le_refl _, Nat.le_refl _⟩ dX12_readsOn_149 (fun H locs h => ?_)
    clear hc
    refine lv_if_eq (tgt := 212) hx hb dX12_readsOn_152 (by decide) (fun hq => ?_) (fun hq => ?_)
    · replace hf := if_t hq hf
      clear hq
      refine lv_aload_n hx hb dX12_readsOn_212 rfl (lv_at hl 0 rfl) ?_
      refine lv_aload_n hx hb dX12_readsOn_213 rfl (lv_at hl 0 rfl) ?_
      refine mg_8 C h dX12_readsOn_214 ?_
      refine lv_aload_n hx hb dX12_readsOn_217 rfl (lv_at hl 0 rfl) ?_
      refine mg_9 C h dX12_readsOn_218 ?_
      refine lv_isub hx hb dX12_readsOn_221 ?_
      refine lv_iconst (v := (3 : Int32)) hx hb dX12_readsOn_222 (by decide) ?_
      refine lv_icmp_le (tgt := 230) hx hb dX12_readsOn_223 (by decide) (fun hq => ?_) (fun hq => ?_)
      · replace hf := if_t hq hf
        clear hq
        refine lv_iconst (v := (2 : Int32)) hx hb dX12_readsOn_230 (by decide) ?_
        exact wX12_readsOn_231 C g7 (2 : Int32) hf H locs ls h (lv_sub hl [] rfl)
      · replace hf := if_f hq hf
        clear hq
        refine lv_iconst (v := (3 : Int32)) hx hb dX12_readsOn_226 (by decide) ?_
        refine lv_goto (tgt := 231) hx hb dX12_readsOn_227 (by decide) ?_
        exact wX12_readsOn_231 C g7 (3 : Int32) hf H locs ls h (lv_sub hl [] rfl)
    · replace hf := if_f hq hf
      clear hq
      refine lv_aload_n hx hb dX12_readsOn_155 rfl (lv_at hl 0 rfl) ?_
      refine lv_aload_n hx hb dX12_readsOn_156 rfl (lv_at hl 0 rfl) ?_
      refine mg_8 C h dX12_readsOn_157 ?_
      refine lv_aload_n hx hb dX12_readsOn_160 rfl (lv_at hl 0 rfl) ?_
      refine mg_9 C h dX12_readsOn_161 ?_
      refine lv_isub hx hb dX12_readsOn_164 ?_
      refine lv_iconst (v := (3 : Int32)) hx hb dX12_readsOn_165 (by decide) ?_
      refine lv_icmp_ge (tgt := 192) hx hb dX12_readsOn_166 (by decide) (fun hq => ?_) (fun hq => ?_)
      · replace hf := if_t hq hf
        clear hq
        refine lv_aload_n hx hb dX12_readsOn_192 rfl (lv_at hl 0 rfl) ?_
        refine mg_11 C h dX12_readsOn_193 ?_
        exact wX12_readsOn_196 C ih g7 (g7.1 11) hf H locs ls h (lv_sub hl [0] rfl)
      · replace hf := if_f hq hf
        clear hq
        refine lv_bipush (v := (10 : Int32)) hx hb dX12_readsOn_169 (by decide) ?_
        refine lv_aload_n hx hb dX12_readsOn_171 rfl (lv_at hl 0 rfl) ?_
        refine mg_11 C h dX12_readsOn_172 ?_
        refine lv_imul hx hb dX12_readsOn_175 ?_
        refine lv_aload_n hx hb dX12_readsOn_176 rfl (lv_at hl 0 rfl) ?_
        refine mg_5 C h dX12_readsOn_177 ?_
        refine lv_aload_n hx hb dX12_readsOn_180 rfl (lv_at hl 0 rfl) ?_
        refine mg_8 C h dX12_readsOn_181 ?_
        replace hf := chk_some hf
        obtain ⟨hq, hf⟩ := hf
        refine ml_5 C h hq dX12_readsOn_184 ?_
        clear hq
        refine lv_iadd hx hb dX12_readsOn_185 ?_
        refine lv_bipush (v := (48 : Int32)) hx hb dX12_readsOn_186 (by decide) ?_
        refine lv_isub hx hb dX12_readsOn_188 ?_
        refine lv_goto (tgt := 196) hx hb dX12_readsOn_189 (by decide) ?_
        exact wX12_readsOn_196 C ih g7 ((((10 : Int32) * (g7.1 11)) + (g7.2.1 5 (ix (g7.1 8)))) - (48 : Int32)) hf H locs ls h (lv_sub hl [0] rfl)

set_option maxHeartbeats 4000000 in
set_option maxRecDepth 100000 in
theorem wX12_readsOn_94 (C : MCx p s m args meth c A RX12 cX12_readsOn 2 none D cs)  {g' : MS}  : ∀ (n : Nat) (g : MS), fX12_readsOn_94 n g = some g' → ∀ (H : Heap) (locs : List Loc) (ls : Array Slot), MH D (MW cs ad g) A s H locs → lv_has ls 2 [(0, .ref (ad 48))] → W p l e (rM 1) s m args below meth c H locs 0 0 (MQ below (GPost D none (MW cs ad g') A) args s 0 0 A) (F0 m 94 ls []) := by
  have hx := C.1
  have hb := C.2.1
  intro n
  induction n with
  | zero =>
    intro g hf
    exact absurd hf (by simp [fX12_readsOn_94])
  | succ n ih =>
    intro g hf H locs ls h hl
    rw [fX12_readsOn_94] at hf
    refine lv_aload_n hx hb dX12_readsOn_94 rfl (lv_at hl 0 rfl) ?_
    refine lv_aload_n hx hb dX12_readsOn_95 rfl (lv_at hl 0 rfl) ?_
    refine mg_8 C h dX12_readsOn_96 ?_
    replace hf := bndc_some hf
    obtain ⟨x9, g10, hc, hf⟩ := hf
    refine m_callVi [.int (g.1 8)] C h cv_X12_108 (qX12_see hc) rfl ⟨rfl, rfl⟩ ⟨Nat.le_of_ble_eq_true rfl, Nat.le_of_ble_eq_true rfl⟩ (m_recv C h) hl.1 rfl (Nat.le_of_ble_eq_true rfl) ⟨Nat.le_refl _, Nat.le_refl _⟩ dX12_readsOn_99 (fun H locs h => ?_)
    clear hc
    replace hf := bndv_some hf
    obtain ⟨x11, hc, hf⟩ := hf
    refine m_callSi [.int x9] C h cs_X12_104 (qX12_isLetter hc) rfl ⟨rfl, rfl⟩ ⟨Nat.le_of_ble_eq_true rfl, Nat.le_of_ble_eq_true rfl⟩ hl.1 rfl (Nat.le_of_ble_eq_true rfl) ⟨Nat.le_refl _, Nat.le_refl _⟩ dX12_readsOn_102 (fun H locs h => ?_)
    clear hc
    refine lv_if_eq (tgt := 121) hx hb dX12_readsOn_105 (by decide) (fun hq => ?_) (fun hq => ?_)
    · replace hf := if_t hq hf
      clear hq
      refine lv_aload_n hx hb dX12_readsOn_121 rfl (lv_at hl 0 rfl) ?_
      refine lv_iconst (v := (1 : Int32)) hx hb dX12_readsOn_122 (by decide) ?_
      replace hf := bnd_ex hf
      obtain ⟨g12, eg12, hf⟩ := hf
      refine mp_10 C h dX12_readsOn_123 (fun H locs h => ?_)
      rw [← eg12] at h
      clear eg12
      refine lv_goto (tgt := 263) hx hb dX12_readsOn_126 (by decide) ?_
      cases hf
      exact m_vret C h dX12_readsOn_263
    · replace hf := if_f hq hf
      clear hq
      refine lv_aload_n hx hb dX12_readsOn_108 rfl (lv_at hl 0 rfl) ?_
      refine lv_dup hx hb dX12_readsOn_109 rfl ?_
      refine mg_8 C h dX12_readsOn_110 ?_
      refine lv_iconst (v := (1 : Int32)) hx hb dX12_readsOn_113 (by decide) ?_
      refine lv_iadd hx hb dX12_readsOn_114 ?_
      replace hf := bnd_ex hf
      obtain ⟨g13, eg13, hf⟩ := hf
      refine mp_8 C h dX12_readsOn_115 (fun H locs h => ?_)
      rw [← eg13] at h
      clear eg13
      refine lv_goto (tgt := 94) hx hb dX12_readsOn_118 (by decide) ?_
      exact ih g13 hf H locs ls h (lv_sub hl [0] rfl)

set_option maxHeartbeats 4000000 in
set_option maxRecDepth 100000 in
theorem wX12_readsOn_52 (C : MCx p s m args meth c A RX12 cX12_readsOn 2 none D cs)  {g' : MS}  : ∀ (g : MS), fX12_readsOn_52 g = some g' → ∀ (H : Heap) (locs : List Loc) (ls : Array Slot), MH D (MW cs ad g) A s H locs → lv_has ls 2 [(0, .ref (ad 48))] → W p l e (rM 1) s m args below meth c H locs 0 0 (MQ below (GPost D none (MW cs ad g') A) args s 0 0 A) (F0 m 52 ls []) := by
  have hx := C.1
  have hb := C.2.1
  intro g hf H locs ls h hl
  unfold fX12_readsOn_52 at hf
  refine lv_aload_n hx hb dX12_readsOn_52 rfl (lv_at hl 0 rfl) ?_
  refine lv_aload_n hx hb dX12_readsOn_53 rfl (lv_at hl 0 rfl) ?_
  refine mg_8 C h dX12_readsOn_54 ?_
  replace hf := bnd_ex hf
  obtain ⟨g14, eg14, hf⟩ := hf
  refine mp_9 C h dX12_readsOn_57 (fun H locs h => ?_)
  rw [← eg14] at h
  clear eg14
  refine lv_aload_n hx hb dX12_readsOn_60 rfl (lv_at hl 0 rfl) ?_
  refine mg_8 C h dX12_readsOn_61 ?_
  refine lv_aload_n hx hb dX12_readsOn_64 rfl (lv_at hl 0 rfl) ?_
  refine mg_7 C h dX12_readsOn_65 ?_
  refine lv_icmp_lt (tgt := 77) hx hb dX12_readsOn_68 (by decide) (fun hq => ?_) (fun hq => ?_)
  · replace hf := if_t hq hf
    clear hq
    refine lv_aload_n hx hb dX12_readsOn_77 rfl (lv_at hl 0 rfl) ?_
    refine mg_5 C h dX12_readsOn_78 ?_
    refine lv_aload_n hx hb dX12_readsOn_81 rfl (lv_at hl 0 rfl) ?_
    refine mg_8 C h dX12_readsOn_82 ?_
    replace hf := chk_some hf
    obtain ⟨hq, hf⟩ := hf
    refine ml_5 C h hq dX12_readsOn_85 ?_
    clear hq
    refine lv_topi (fun x15 ex15 => ?_)
    replace hf := bnd_at ex15 hf
    clear ex15
    refine lv_istore_n (lv' := [(1, .int x15), (0, .ref (ad 48))]) hx hb dX12_readsOn_86 rfl hl (by decide) rfl (fun ls hl => ?_)
    refine lv_iload_n hx hb dX12_readsOn_87 rfl (lv_at hl 0 rfl) ?_
    replace hf := bndv_some hf
    obtain ⟨x16, hc, hf⟩ := hf
    refine m_callSi [.int x15] C h cs_X12_104 (qX12_isLetter hc) rfl ⟨rfl, rfl⟩ ⟨Nat.le_of_ble_eq_true rfl, Nat.le_of_ble_eq_true rfl⟩ hl.1 rfl (Nat.le_of_ble_eq_true rfl) ⟨Nat.le_refl _, Nat.le_refl _⟩ dX12_readsOn_88 (fun H locs h => ?_)
    clear hc
    refine lv_if_eq (tgt := 129) hx hb dX12_readsOn_91 (by decide) (fun hq => ?_) (fun hq => ?_)
    · replace hf := if_t hq hf
      clear hq
      refine lv_iload_n hx hb dX12_readsOn_129 rfl (lv_at hl 0 rfl) ?_
      replace hf := bndv_some hf
      obtain ⟨x17, hc, hf⟩ := hf
      refine m_callSi [.int x15] C h cs_X12_112 (qX12_isDigit hc) rfl ⟨rfl, rfl⟩ ⟨Nat.le_of_ble_eq_true rfl, Nat.le_of_ble_eq_true rfl⟩ hl.1 rfl (Nat.le_of_ble_eq_true rfl) ⟨Nat.le_refl _, Nat.le_refl _⟩ dX12_readsOn_130 (fun H locs h => ?_)
      clear hc
      refine lv_if_eq (tgt := 237) hx hb dX12_readsOn_133 (by decide) (fun hq => ?_) (fun hq => ?_)
      · replace hf := if_t hq hf
        clear hq
        refine lv_aload_n hx hb dX12_readsOn_237 rfl (lv_at hl 1 rfl) ?_
        refine lv_iload_n hx hb dX12_readsOn_238 rfl (lv_at hl 0 rfl) ?_
        replace hf := bndv_some hf
        obtain ⟨x18, hc, hf⟩ := hf
        refine m_callSi [.int x15] C h cs_X12_118 (qX12_isSignByte hc) rfl ⟨rfl, rfl⟩ ⟨Nat.le_of_ble_eq_true rfl, Nat.le_of_ble_eq_true rfl⟩ hl.1 rfl (Nat.le_of_ble_eq_true rfl) ⟨Nat.le_refl _, Nat.le_refl _⟩ dX12_readsOn_239 (fun H locs h => ?_)
        clear hc
        refine lv_if_eq (tgt := 249) hx hb dX12_readsOn_242 (by decide) (fun hq => ?_) (fun hq => ?_)
        · replace hf := if_t hq hf
          clear hq
          refine lv_iconst (v := (3 : Int32)) hx hb dX12_readsOn_249 (by decide) ?_
          exact wX12_readsOn_250 C g14 (3 : Int32) hf H locs ls h (lv_sub hl [1] rfl)
        · replace hf := if_f hq hf
          clear hq
          refine lv_iload_n hx hb dX12_readsOn_245 rfl (lv_at hl 0 rfl) ?_
          refine lv_goto (tgt := 250) hx hb dX12_readsOn_246 (by decide) ?_
          exact wX12_readsOn_250 C g14 x15 hf H locs ls h (lv_sub hl [1] rfl)
      · replace hf := if_f hq hf
        clear hq
        refine lv_aload_n hx hb dX12_readsOn_136 rfl (lv_at hl 1 rfl) ?_
        refine lv_iconst (v := (0 : Int32)) hx hb dX12_readsOn_137 (by decide) ?_
        replace hf := bnd_ex hf
        obtain ⟨g19, eg19, hf⟩ := hf
        refine mp_11 C h dX12_readsOn_138 (fun H locs h => ?_)
        rw [← eg19] at h
        clear eg19
        exact wX12_readsOn_141 C fuel g19 hf H locs ls h (lv_sub hl [1] rfl)
    · replace hf := if_f hq hf
      clear hq
      exact wX12_readsOn_94 C fuel g14 hf H locs ls h (lv_sub hl [1] rfl)
  · replace hf := if_f hq hf
    clear hq
    refine lv_aload_n hx hb dX12_readsOn_71 rfl (lv_at hl 0 rfl) ?_
    refine lv_iconst (v := (0 : Int32)) hx hb dX12_readsOn_72 (by decide) ?_
    replace hf := bnd_ex hf
    obtain ⟨g20, eg20, hf⟩ := hf
    refine mp_10 C h dX12_readsOn_73 (fun H locs h => ?_)
    rw [← eg20] at h
    clear eg20
    cases hf
    exact m_vret C h dX12_readsOn_76

set_option maxHeartbeats 4000000 in
set_option maxRecDepth 100000 in
theorem wX12_readsOn_39 (C : MCx p s m args meth c A RX12 cX12_readsOn 2 none D cs)  {g' : MS}  {k0 : MS → Option (MS)} (hk0 : ∀ (g : MS), k0 g = some g' → ∀ (H : Heap) (locs : List Loc) (ls : Array Slot), MH D (MW cs ad g) A s H locs → lv_has ls 2 [(0, .ref (ad 48))] → W p l e (rM 1) s m args below meth c H locs 0 0 (MQ below (GPost D none (MW cs ad g') A) args s 0 0 A) (F0 m 0 ls [])) : ∀ (g : MS), fX12_readsOn_39 k0 g = some g' → ∀ (H : Heap) (locs : List Loc) (ls : Array Slot), MH D (MW cs ad g) A s H locs → lv_has ls 2 [(0, .ref (ad 48))] → W p l e (rM 1) s m args below meth c H locs 0 0 (MQ below (GPost D none (MW cs ad g') A) args s 0 0 A) (F0 m 39 ls []) := by
  have hx := C.1
  have hb := C.2.1
  intro g hf H locs ls h hl
  unfold fX12_readsOn_39 at hf
  refine lv_aload_n hx hb dX12_readsOn_39 rfl (lv_at hl 0 rfl) ?_
  refine lv_dup hx hb dX12_readsOn_40 rfl ?_
  refine mg_8 C h dX12_readsOn_41 ?_
  refine lv_iconst (v := (1 : Int32)) hx hb dX12_readsOn_44 (by decide) ?_
  refine lv_iadd hx hb dX12_readsOn_45 ?_
  replace hf := bnd_ex hf
  obtain ⟨g21, eg21, hf⟩ := hf
  refine mp_8 C h dX12_readsOn_46 (fun H locs h => ?_)
  rw [← eg21] at h
  clear eg21
  refine lv_goto (tgt := 0) hx hb dX12_readsOn_49 (by decide) ?_
  exact hk0 g21 hf H locs ls h (lv_sub hl [0] rfl)

set_option maxHeartbeats 4000000 in
set_option maxRecDepth 100000 in
theorem wX12_readsOn_0 (C : MCx p s m args meth c A RX12 cX12_readsOn 2 none D cs)  {g' : MS}  : ∀ (n : Nat) (g : MS), fX12_readsOn_0 n g = some g' → ∀ (H : Heap) (locs : List Loc) (ls : Array Slot), MH D (MW cs ad g) A s H locs → lv_has ls 2 [(0, .ref (ad 48))] → W p l e (rM 1) s m args below meth c H locs 0 0 (MQ below (GPost D none (MW cs ad g') A) args s 0 0 A) (F0 m 0 ls []) := by
  have hx := C.1
  have hb := C.2.1
  intro n
  induction n with
  | zero =>
    intro g hf
    exact absurd hf (by simp [fX12_readsOn_0])
  | succ n ih =>
    intro g hf H locs ls h hl
    rw [fX12_readsOn_0] at hf
    refine lv_aload_n hx hb dX12_readsOn_0 rfl (lv_at hl 0 rfl) ?_
    refine mg_8 C h dX12_readsOn_1 ?_
    refine lv_aload_n hx hb dX12_readsOn_4 rfl (lv_at hl 0 rfl) ?_
    refine mg_7 C h dX12_readsOn_5 ?_
    refine lv_icmp_ge (tgt := 52) hx hb dX12_readsOn_8 (by decide) (fun hq => ?_) (fun hq => ?_)
    · replace hf := if_t hq hf
      clear hq
      exact wX12_readsOn_52 C g hf H locs ls h (lv_sub hl [0] rfl)
    · replace hf := if_f hq hf
      clear hq
      refine lv_aload_n hx hb dX12_readsOn_11 rfl (lv_at hl 0 rfl) ?_
      refine mg_5 C h dX12_readsOn_12 ?_
      refine lv_aload_n hx hb dX12_readsOn_15 rfl (lv_at hl 0 rfl) ?_
      refine mg_8 C h dX12_readsOn_16 ?_
      replace hf := chk_some hf
      obtain ⟨hq, hf⟩ := hf
      refine ml_5 C h hq dX12_readsOn_19 ?_
      clear hq
      refine lv_bipush (v := (32 : Int32)) hx hb dX12_readsOn_20 (by decide) ?_
      refine lv_icmp_eq (tgt := 39) hx hb dX12_readsOn_22 (by decide) (fun hq => ?_) (fun hq => ?_)
      · replace hf := if_t hq hf
        clear hq
        exact wX12_readsOn_39 C ih g hf H locs ls h (lv_sub hl [0] rfl)
      · replace hf := if_f hq hf
        clear hq
        refine lv_aload_n hx hb dX12_readsOn_25 rfl (lv_at hl 0 rfl) ?_
        refine mg_5 C h dX12_readsOn_26 ?_
        refine lv_aload_n hx hb dX12_readsOn_29 rfl (lv_at hl 0 rfl) ?_
        refine mg_8 C h dX12_readsOn_30 ?_
        replace hf := chk_some hf
        obtain ⟨hq, hf⟩ := hf
        refine ml_5 C h hq dX12_readsOn_33 ?_
        clear hq
        refine lv_bipush (v := (10 : Int32)) hx hb dX12_readsOn_34 (by decide) ?_
        refine lv_icmp_ne (tgt := 52) hx hb dX12_readsOn_36 (by decide) (fun hq => ?_) (fun hq => ?_)
        · replace hf := if_tn hq hf
          clear hq
          exact wX12_readsOn_52 C g hf H locs ls h (lv_sub hl [0] rfl)
        · replace hf := if_t hq hf
          clear hq
          exact wX12_readsOn_39 C ih g hf H locs ls h (lv_sub hl [0] rfl)

set_option maxHeartbeats 4000000 in
set_option maxRecDepth 100000 in
theorem qX12_readsOn {l : Launch} {D : va_G} {cs : Nat → ClassId} {ad : Nat → Nat} {g' : MS} {g : MS}  (hf : fX12_readsOn g = some g') : GCon l D cs yX12_readsOn cX12_readsOn 2 none (rM 1) 0 0 [.ref (ad 48)] (MW cs ad g) none (MW cs ad g') := by
  refine GCon.of (by decide) (Nat.le_of_ble_eq_true rfl) ?_
  intro p e s m args below meth c A ls H locs C h hl
  have hx := C.1
  have hb := C.2.1
  have C : MCx p s m args meth c A RX12 cX12_readsOn 2 none D cs := C
  have hl : lv_has ls 2 [(0, .ref (ad 48))] := hl
  unfold fX12_readsOn at hf
  exact wX12_readsOn_0 C fuel g hf H locs ls h (lv_sub hl [0] rfl)

set_option maxHeartbeats 4000000 in
set_option maxRecDepth 100000 in
theorem wX12_blames_22 (C : MCx p s m args meth c A RX12 cX12_blames 2 none D cs)  {g' : MS}  : ∀ (g : MS) (t1 : Int32), fX12_blames_22 g t1 = some g' → ∀ (H : Heap) (locs : List Loc) (ls : Array Slot), MH D (MW cs ad g) A s H locs → lv_has ls 2 [(0, .ref (ad 48))] → W p l e (rM 0) s m args below meth c H locs 0 0 (MQ below (GPost D none (MW cs ad g') A) args s 0 0 A) (F0 m 22 ls [.int t1, .ref (ad 48)]) := by
  have hx := C.1
  have hb := C.2.1
  intro g t1 hf H locs ls h hl
  unfold fX12_blames_22 at hf
  replace hf := bnd_ex hf
  obtain ⟨g1, eg1, hf⟩ := hf
  refine mp_12 C h dX12_blames_22 (fun H locs h => ?_)
  rw [← eg1] at h
  clear eg1
  refine lv_aload_n hx hb dX12_blames_25 rfl (lv_at hl 0 rfl) ?_
  refine lv_aload_n hx hb dX12_blames_26 rfl (lv_at hl 0 rfl) ?_
  refine mg_9 C h dX12_blames_27 ?_
  replace hf := bnd_ex hf
  obtain ⟨g2, eg2, hf⟩ := hf
  refine mp_13 C h dX12_blames_30 (fun H locs h => ?_)
  rw [← eg2] at h
  clear eg2
  cases hf
  exact m_vret C h dX12_blames_33

set_option maxHeartbeats 4000000 in
set_option maxRecDepth 100000 in
theorem qX12_blames {l : Launch} {D : va_G} {cs : Nat → ClassId} {ad : Nat → Nat} {g' : MS} {g : MS}  {a0 : Int32} (hf : fX12_blames g a0 = some g') : GCon l D cs yX12_blames cX12_blames 2 none (rM 0) 0 0 [.ref (ad 48), .int a0] (MW cs ad g) none (MW cs ad g') := by
  refine GCon.of (by decide) (Nat.le_of_ble_eq_true rfl) ?_
  intro p e s m args below meth c A ls H locs C h hl
  have hx := C.1
  have hb := C.2.1
  have C : MCx p s m args meth c A RX12 cX12_blames 2 none D cs := C
  have hl : lv_has ls 2 [(0, .ref (ad 48)), (1, .int a0)] := hl
  unfold fX12_blames at hf
  refine lv_aload_n hx hb dX12_blames_0 rfl (lv_at hl 0 rfl) ?_
  refine mg_12 C h dX12_blames_1 ?_
  refine lv_if_eq (tgt := 8) hx hb dX12_blames_4 (by decide) (fun hq => ?_) (fun hq => ?_)
  · replace hf := if_t hq hf
    clear hq
    refine lv_aload_n hx hb dX12_blames_8 rfl (lv_at hl 0 rfl) ?_
    refine lv_aload_n hx hb dX12_blames_9 rfl (lv_at hl 0 rfl) ?_
    refine mg_10 C h dX12_blames_10 ?_
    refine lv_iconst (v := (3 : Int32)) hx hb dX12_blames_13 (by decide) ?_
    refine lv_icmp_ne (tgt := 21) hx hb dX12_blames_14 (by decide) (fun hq => ?_) (fun hq => ?_)
    · replace hf := if_tn hq hf
      clear hq
      refine lv_iload_n hx hb dX12_blames_21 rfl (lv_at hl 1 rfl) ?_
      exact wX12_blames_22 C g a0 hf H locs ls h (lv_sub hl [0] rfl)
    · replace hf := if_t hq hf
      clear hq
      refine lv_iconst (v := (1 : Int32)) hx hb dX12_blames_17 (by decide) ?_
      refine lv_goto (tgt := 22) hx hb dX12_blames_18 (by decide) ?_
      exact wX12_blames_22 C g (1 : Int32) hf H locs ls h (lv_sub hl [0] rfl)
  · replace hf := if_f hq hf
    clear hq
    cases hf
    exact m_vret C h dX12_blames_7

set_option maxHeartbeats 4000000 in
set_option maxRecDepth 100000 in
theorem qX12_isSign {l : Launch} {D : va_G} {cs : Nat → ClassId} {ad : Nat → Nat} {r : Int32} {g' : MS} {g : MS}  {a0 : Int32} (hf : fX12_isSign g a0 = some (r, g')) : GCon l D cs yX12_isSign cX12_isSign 2 (some .boolean) (rM 0) 0 0 [.ref (ad 48), .int a0] (MW cs ad g) (some (.int r)) (MW cs ad g') := by
  refine GCon.of (by decide) (Nat.le_of_ble_eq_true rfl) ?_
  intro p e s m args below meth c A ls H locs C h hl
  have hx := C.1
  have hb := C.2.1
  have C : MCx p s m args meth c A RX12 cX12_isSign 2 (some .boolean) D cs := C
  have hl : lv_has ls 2 [(0, .ref (ad 48)), (1, .int a0)] := hl
  unfold fX12_isSign at hf
  refine lv_aload_n hx hb dX12_isSign_0 rfl (lv_at hl 0 rfl) ?_
  refine mg_12 C h dX12_isSign_1 ?_
  refine lv_if_ne (tgt := 19) hx hb dX12_isSign_4 (by decide) (fun hq => ?_) (fun hq => ?_)
  · replace hf := if_tn hq hf
    clear hq
    refine lv_iconst (v := (0 : Int32)) hx hb dX12_isSign_19 (by decide) ?_
    cases hf
    exact m_zret C h rfl dX12_isSign_20
  · replace hf := if_t hq hf
    clear hq
    refine lv_aload_n hx hb dX12_isSign_7 rfl (lv_at hl 0 rfl) ?_
    refine mg_10 C h dX12_isSign_8 ?_
    refine lv_iload_n hx hb dX12_isSign_11 rfl (lv_at hl 1 rfl) ?_
    refine lv_icmp_ne (tgt := 19) hx hb dX12_isSign_12 (by decide) (fun hq => ?_) (fun hq => ?_)
    · replace hf := if_tn hq hf
      clear hq
      refine lv_iconst (v := (0 : Int32)) hx hb dX12_isSign_19 (by decide) ?_
      cases hf
      exact m_zret C h rfl dX12_isSign_20
    · replace hf := if_t hq hf
      clear hq
      refine lv_iconst (v := (1 : Int32)) hx hb dX12_isSign_15 (by decide) ?_
      refine lv_goto (tgt := 20) hx hb dX12_isSign_16 (by decide) ?_
      cases hf
      exact m_zret C h rfl dX12_isSign_20

set_option maxHeartbeats 4000000 in
set_option maxRecDepth 100000 in
theorem wX12_mustSign_13 (C : MCx p s m args meth c A RX12 cX12_mustSign 2 none D cs)  {g' : MS}  : ∀ (g : MS), fX12_mustSign_13 g = some g' → ∀ (H : Heap) (locs : List Loc) (ls : Array Slot), MH D (MW cs ad g) A s H locs → lv_has ls 2 [(0, .ref (ad 48))] → W p l e (rM 2) s m args below meth c H locs 0 0 (MQ below (GPost D none (MW cs ad g') A) args s 0 0 A) (F0 m 13 ls []) := by
  have hx := C.1
  have hb := C.2.1
  intro g hf H locs ls h hl
  unfold fX12_mustSign_13 at hf
  refine lv_aload_n hx hb dX12_mustSign_13 rfl (lv_at hl 0 rfl) ?_
  refine mg_12 C h dX12_mustSign_14 ?_
  refine lv_if_ne (tgt := 24) hx hb dX12_mustSign_17 (by decide) (fun hq => ?_) (fun hq => ?_)
  · replace hf := if_tn hq hf
    clear hq
    cases hf
    exact m_vret C h dX12_mustSign_24
  · replace hf := if_t hq hf
    clear hq
    refine lv_aload_n hx hb dX12_mustSign_20 rfl (lv_at hl 0 rfl) ?_
    replace hf := bndv_some hf
    obtain ⟨g1, hc, hf⟩ := hf
    refine m_callVv [] C h cv_X12_140 (qX12_readsOn hc) rfl ⟨rfl, rfl⟩ ⟨Nat.le_of_ble_eq_true rfl, Nat.le_of_ble_eq_true rfl⟩ (m_recv C h) hl.1 rfl (Nat.le_of_ble_eq_true rfl) ⟨Nat.le_refl _, Nat.le_refl _⟩ dX12_mustSign_21 (fun H locs h => ?_)
    clear hc
    cases hf
    exact m_vret C h dX12_mustSign_24

set_option maxHeartbeats 4000000 in
set_option maxRecDepth 100000 in
theorem qX12_mustSign {l : Launch} {D : va_G} {cs : Nat → ClassId} {ad : Nat → Nat} {g' : MS} {g : MS}  {a0 : Int32} (hf : fX12_mustSign g a0 = some g') : GCon l D cs yX12_mustSign cX12_mustSign 2 none (rM 2) 0 0 [.ref (ad 48), .int a0] (MW cs ad g) none (MW cs ad g') := by
  refine GCon.of (by decide) (Nat.le_of_ble_eq_true rfl) ?_
  intro p e s m args below meth c A ls H locs C h hl
  have hx := C.1
  have hb := C.2.1
  have C : MCx p s m args meth c A RX12 cX12_mustSign 2 none D cs := C
  have hl : lv_has ls 2 [(0, .ref (ad 48)), (1, .int a0)] := hl
  unfold fX12_mustSign at hf
  refine lv_aload_n hx hb dX12_mustSign_0 rfl (lv_at hl 0 rfl) ?_
  refine mg_10 C h dX12_mustSign_1 ?_
  refine lv_iload_n hx hb dX12_mustSign_4 rfl (lv_at hl 1 rfl) ?_
  refine lv_icmp_eq (tgt := 13) hx hb dX12_mustSign_5 (by decide) (fun hq => ?_) (fun hq => ?_)
  · replace hf := if_t hq hf
    clear hq
    exact wX12_mustSign_13 C g hf H locs ls h (lv_sub hl [0] rfl)
  · replace hf := if_f hq hf
    clear hq
    refine lv_aload_n hx hb dX12_mustSign_8 rfl (lv_at hl 0 rfl) ?_
    refine lv_iconst (v := (2 : Int32)) hx hb dX12_mustSign_9 (by decide) ?_
    replace hf := bndv_some hf
    obtain ⟨g2, hc, hf⟩ := hf
    refine m_callVv [.int (2 : Int32)] C h cv_X12_143 (qX12_blames hc) rfl ⟨rfl, rfl⟩ ⟨Nat.le_of_ble_eq_true rfl, Nat.le_of_ble_eq_true rfl⟩ (m_recv C h) hl.1 rfl (Nat.le_of_ble_eq_true rfl) ⟨Nat.le_refl _, Nat.le_refl _⟩ dX12_mustSign_10 (fun H locs h => ?_)
    clear hc
    exact wX12_mustSign_13 C g2 hf H locs ls h (lv_sub hl [0] rfl)

set_option maxHeartbeats 4000000 in
set_option maxRecDepth 100000 in
theorem wX12_number_52 (C : MCx p s m args meth c A RX12 cX12_number 4 (some .int) D cs)  {r : Int32} {g' : MS}  : ∀ (g : MS) (y1 : Int32) (y3 : Int32), fX12_number_52 g y1 y3 = some (r, g') → ∀ (H : Heap) (locs : List Loc) (ls : Array Slot), MH D (MW cs ad g) A s H locs → lv_has ls 4 [(0, .ref (ad 48)), (1, .int y1), (3, .int y3)] → W p l e (rM 2) s m args below meth c H locs 0 0 (MQ below (GPost D (some (.int r)) (MW cs ad g') A) args s 0 0 A) (F0 m 52 ls []) := by
  have hx := C.1
  have hb := C.2.1
  intro g y1 y3 hf H locs ls h hl
  unfold fX12_number_52 at hf
  refine lv_aload_n hx hb dX12_number_52 rfl (lv_at hl 0 rfl) ?_
  refine mg_12 C h dX12_number_53 ?_
  refine lv_if_ne (tgt := 63) hx hb dX12_number_56 (by decide) (fun hq => ?_) (fun hq => ?_)
  · replace hf := if_tn hq hf
    clear hq
    refine lv_iload_n hx hb dX12_number_63 rfl (lv_at hl 1 rfl) ?_
    cases hf
    exact m_iret C h dX12_number_64
  · replace hf := if_t hq hf
    clear hq
    refine lv_iload_n hx hb dX12_number_59 rfl (lv_at hl 2 rfl) ?_
    refine lv_goto (tgt := 64) hx hb dX12_number_60 (by decide) ?_
    cases hf
    exact m_iret C h dX12_number_64

set_option maxHeartbeats 4000000 in
set_option maxRecDepth 100000 in
theorem wX12_number_36 (C : MCx p s m args meth c A RX12 cX12_number 4 (some .int) D cs)  {r : Int32} {g' : MS}  : ∀ (g : MS) (y1 : Int32), fX12_number_36 g y1 = some (r, g') → ∀ (H : Heap) (locs : List Loc) (ls : Array Slot), MH D (MW cs ad g) A s H locs → lv_has ls 4 [(0, .ref (ad 48)), (1, .int y1)] → W p l e (rM 2) s m args below meth c H locs 0 0 (MQ below (GPost D (some (.int r)) (MW cs ad g') A) args s 0 0 A) (F0 m 36 ls []) := by
  have hx := C.1
  have hb := C.2.1
  intro g y1 hf H locs ls h hl
  unfold fX12_number_36 at hf
  refine lv_aload_n hx hb dX12_number_36 rfl (lv_at hl 0 rfl) ?_
  refine mg_11 C h dX12_number_37 ?_
  refine lv_topi (fun x1 ex1 => ?_)
  replace hf := bnd_at ex1 hf
  clear ex1
  refine lv_istore_n (lv' := [(3, .int x1), (0, .ref (ad 48)), (1, .int y1)]) hx hb dX12_number_40 rfl hl (by decide) rfl (fun ls hl => ?_)
  refine lv_aload_n hx hb dX12_number_41 rfl (lv_at hl 1 rfl) ?_
  refine mg_12 C h dX12_number_42 ?_
  refine lv_if_ne (tgt := 52) hx hb dX12_number_45 (by decide) (fun hq => ?_) (fun hq => ?_)
  · replace hf := if_tn hq hf
    clear hq
    exact wX12_number_52 C g y1 x1 hf H locs ls h (lv_sub hl [1, 2, 0] rfl)
  · replace hf := if_t hq hf
    clear hq
    refine lv_aload_n hx hb dX12_number_48 rfl (lv_at hl 1 rfl) ?_
    replace hf := bndv_some hf
    obtain ⟨g2, hc, hf⟩ := hf
    refine m_callVv [] C h cv_X12_140 (qX12_readsOn hc) rfl ⟨rfl, rfl⟩ ⟨Nat.le_of_ble_eq_true rfl, Nat.le_of_ble_eq_true rfl⟩ (m_recv C h) hl.1 rfl (Nat.le_of_ble_eq_true rfl) ⟨Nat.le_refl _, Nat.le_refl _⟩ dX12_number_49 (fun H locs h => ?_)
    clear hc
    exact wX12_number_52 C g2 y1 x1 hf H locs ls h (lv_sub hl [1, 2, 0] rfl)

set_option maxHeartbeats 4000000 in
set_option maxRecDepth 100000 in
theorem qX12_number {l : Launch} {D : va_G} {cs : Nat → ClassId} {ad : Nat → Nat} {r : Int32} {g' : MS} {g : MS}  {a0 : Int32} {a1 : Int32} (hf : fX12_number g a0 a1 = some (r, g')) : GCon l D cs yX12_number cX12_number 4 (some .int) (rM 2) 0 0 [.ref (ad 48), .int a0, .int a1] (MW cs ad g) (some (.int r)) (MW cs ad g') := by
  refine GCon.of (by decide) (Nat.le_of_ble_eq_true rfl) ?_
  intro p e s m args below meth c A ls H locs C h hl
  have hx := C.1
  have hb := C.2.1
  have C : MCx p s m args meth c A RX12 cX12_number 4 (some .int) D cs := C
  have hl : lv_has ls 4 [(0, .ref (ad 48)), (1, .int a0), (2, .int a1)] := hl
  unfold fX12_number at hf
  refine lv_aload_n hx hb dX12_number_0 rfl (lv_at hl 0 rfl) ?_
  refine mg_10 C h dX12_number_1 ?_
  refine lv_iconst (v := (2 : Int32)) hx hb dX12_number_4 (by decide) ?_
  refine lv_icmp_eq (tgt := 16) hx hb dX12_number_5 (by decide) (fun hq => ?_) (fun hq => ?_)
  · replace hf := if_t hq hf
    clear hq
    refine lv_aload_n hx hb dX12_number_16 rfl (lv_at hl 0 rfl) ?_
    refine mg_11 C h dX12_number_17 ?_
    refine lv_i2l hx hb dX12_number_20 rfl ?_
    refine lv_iload_n hx hb dX12_number_21 rfl (lv_at hl 1 rfl) ?_
    refine lv_i2l hx hb dX12_number_22 rfl ?_
    refine lv_iload_n hx hb dX12_number_23 rfl (lv_at hl 2 rfl) ?_
    refine lv_i2l hx hb dX12_number_24 rfl ?_
    replace hf := bndv_some hf
    obtain ⟨x3, hc, hf⟩ := hf
    refine m_callSi [.long ((g.1 11).toInt64), .long a0.toInt64, .long a1.toInt64] C h cs_X12_147 (qX12_within hc) rfl ⟨rfl, rfl⟩ ⟨Nat.le_of_ble_eq_true rfl, Nat.le_of_ble_eq_true rfl⟩ hl.1 rfl (Nat.le_of_ble_eq_true rfl) ⟨Nat.le_refl _, Nat.le_refl _⟩ dX12_number_25 (fun H locs h => ?_)
    clear hc
    refine lv_if_ne (tgt := 36) hx hb dX12_number_28 (by decide) (fun hq => ?_) (fun hq => ?_)
    · replace hf := if_tn hq hf
      clear hq
      exact wX12_number_36 C g a0 hf H locs ls h (lv_sub hl [0, 1] rfl)
    · replace hf := if_t hq hf
      clear hq
      refine lv_aload_n hx hb dX12_number_31 rfl (lv_at hl 0 rfl) ?_
      refine lv_iconst (v := (3 : Int32)) hx hb dX12_number_32 (by decide) ?_
      replace hf := bndv_some hf
      obtain ⟨g4, hc, hf⟩ := hf
      refine m_callVv [.int (3 : Int32)] C h cv_X12_143 (qX12_blames hc) rfl ⟨rfl, rfl⟩ ⟨Nat.le_of_ble_eq_true rfl, Nat.le_of_ble_eq_true rfl⟩ (m_recv C h) hl.1 rfl (Nat.le_of_ble_eq_true rfl) ⟨Nat.le_refl _, Nat.le_refl _⟩ dX12_number_33 (fun H locs h => ?_)
      clear hc
      exact wX12_number_36 C g4 a0 hf H locs ls h (lv_sub hl [0, 1] rfl)
  · replace hf := if_f hq hf
    clear hq
    refine lv_aload_n hx hb dX12_number_8 rfl (lv_at hl 0 rfl) ?_
    refine lv_iconst (v := (2 : Int32)) hx hb dX12_number_9 (by decide) ?_
    replace hf := bndv_some hf
    obtain ⟨g5, hc, hf⟩ := hf
    refine m_callVv [.int (2 : Int32)] C h cv_X12_143 (qX12_blames hc) rfl ⟨rfl, rfl⟩ ⟨Nat.le_of_ble_eq_true rfl, Nat.le_of_ble_eq_true rfl⟩ (m_recv C h) hl.1 rfl (Nat.le_of_ble_eq_true rfl) ⟨Nat.le_refl _, Nat.le_refl _⟩ dX12_number_10 (fun H locs h => ?_)
    clear hc
    refine lv_goto (tgt := 36) hx hb dX12_number_13 (by decide) ?_
    exact wX12_number_36 C g5 a0 hf H locs ls h (lv_sub hl [0, 1] rfl)

set_option maxHeartbeats 4000000 in
set_option maxRecDepth 100000 in
theorem qX12_laysStep {l : Launch} {D : va_G} {cs : Nat → ClassId} {ad : Nat → Nat} {g' : MS} {g : MS}  {a0 : Int32} (hf : fX12_laysStep g a0 = some g') : GCon l D cs yX12_laysStep cX12_laysStep 2 none (rM 0) 0 0 [.ref (ad 48), .int a0] (MW cs ad g) none (MW cs ad g') := by
  refine GCon.of (by decide) (Nat.le_of_ble_eq_true rfl) ?_
  intro p e s m args below meth c A ls H locs C h hl
  have hx := C.1
  have hb := C.2.1
  have C : MCx p s m args meth c A RX12 cX12_laysStep 2 none D cs := C
  have hl : lv_has ls 2 [(0, .ref (ad 48)), (1, .int a0)] := hl
  unfold fX12_laysStep at hf
  refine lv_aload_n hx hb dX12_laysStep_0 rfl (lv_at hl 0 rfl) ?_
  refine mg_12 C h dX12_laysStep_1 ?_
  refine lv_if_eq (tgt := 8) hx hb dX12_laysStep_4 (by decide) (fun hq => ?_) (fun hq => ?_)
  · replace hf := if_t hq hf
    clear hq
    refine lv_aload_n hx hb dX12_laysStep_8 rfl (lv_at hl 0 rfl) ?_
    refine mg_1 C h dX12_laysStep_9 ?_
    refine lv_aload_n hx hb dX12_laysStep_12 rfl (lv_at hl 0 rfl) ?_
    refine mg_18 C h dX12_laysStep_13 ?_
    refine lv_aload_n hx hb dX12_laysStep_16 rfl (lv_at hl 0 rfl) ?_
    refine mg_1 C h dX12_laysStep_17 ?_
    refine lv_aload_n hx hb dX12_laysStep_20 rfl (lv_at hl 0 rfl) ?_
    refine mg_17 C h dX12_laysStep_21 ?_
    replace hf := chk_some hf
    obtain ⟨hq, hf⟩ := hf
    refine ml_1 C h hq dX12_laysStep_24 ?_
    clear hq
    refine lv_iadd hx hb dX12_laysStep_25 ?_
    refine lv_iload_n hx hb dX12_laysStep_26 rfl (lv_at hl 1 rfl) ?_
    replace hf := chk_some hf
    obtain ⟨hq, hf⟩ := hf
    replace hf := bnd_ex hf
    obtain ⟨g1, eg1, hf⟩ := hf
    refine ms_1 C h hq dX12_laysStep_27 (fun H locs h => ?_)
    rw [← eg1] at h
    clear hq eg1
    refine lv_aload_n hx hb dX12_laysStep_28 rfl (lv_at hl 0 rfl) ?_
    refine mg_1 C h dX12_laysStep_29 ?_
    refine lv_aload_n hx hb dX12_laysStep_32 rfl (lv_at hl 0 rfl) ?_
    refine mg_17 C h dX12_laysStep_33 ?_
    refine lv_dup2_11 hx hb dX12_laysStep_36 rfl rfl ?_
    replace hf := chk_some hf
    obtain ⟨hq, hf⟩ := hf
    refine ml_1 C h hq dX12_laysStep_37 ?_
    clear hq
    refine lv_iconst (v := (1 : Int32)) hx hb dX12_laysStep_38 (by decide) ?_
    refine lv_iadd hx hb dX12_laysStep_39 ?_
    replace hf := chk_some hf
    obtain ⟨hq, hf⟩ := hf
    replace hf := bnd_ex hf
    obtain ⟨g2, eg2, hf⟩ := hf
    refine ms_1 C h hq dX12_laysStep_40 (fun H locs h => ?_)
    rw [← eg2] at h
    clear hq eg2
    cases hf
    exact m_vret C h dX12_laysStep_41
  · replace hf := if_f hq hf
    clear hq
    cases hf
    exact m_vret C h dX12_laysStep_7

set_option maxHeartbeats 4000000 in
set_option maxRecDepth 100000 in
theorem qX12_beginsLaw {l : Launch} {D : va_G} {cs : Nat → ClassId} {ad : Nat → Nat} {g' : MS} {g : MS}  {a0 : Int32} {a1 : Int32} (hf : fX12_beginsLaw g a0 a1 = some g') : GCon l D cs yX12_beginsLaw cX12_beginsLaw 3 none (rM 3) 0 0 [.ref (ad 48), .int a0, .int a1] (MW cs ad g) none (MW cs ad g') := by
  refine GCon.of (by decide) (Nat.le_of_ble_eq_true rfl) ?_
  intro p e s m args below meth c A ls H locs C h hl
  have hx := C.1
  have hb := C.2.1
  have C : MCx p s m args meth c A RX12 cX12_beginsLaw 3 none D cs := C
  have hl : lv_has ls 3 [(0, .ref (ad 48)), (1, .int a0), (2, .int a1)] := hl
  unfold fX12_beginsLaw at hf
  refine lv_aload_n hx hb dX12_beginsLaw_0 rfl (lv_at hl 0 rfl) ?_
  refine lv_iload_n hx hb dX12_beginsLaw_1 rfl (lv_at hl 1 rfl) ?_
  replace hf := bnd_ex hf
  obtain ⟨g1, eg1, hf⟩ := hf
  refine mp_17 C h dX12_beginsLaw_2 (fun H locs h => ?_)
  rw [← eg1] at h
  clear eg1
  refine lv_aload_n hx hb dX12_beginsLaw_5 rfl (lv_at hl 0 rfl) ?_
  refine lv_iload_n hx hb dX12_beginsLaw_6 rfl (lv_at hl 2 rfl) ?_
  replace hf := bnd_ex hf
  obtain ⟨g2, eg2, hf⟩ := hf
  refine mp_18 C h dX12_beginsLaw_7 (fun H locs h => ?_)
  rw [← eg2] at h
  clear eg2
  refine lv_aload_n hx hb dX12_beginsLaw_10 rfl (lv_at hl 0 rfl) ?_
  refine mg_1 C h dX12_beginsLaw_11 ?_
  refine lv_iload_n hx hb dX12_beginsLaw_14 rfl (lv_at hl 1 rfl) ?_
  refine lv_iconst (v := (0 : Int32)) hx hb dX12_beginsLaw_15 (by decide) ?_
  replace hf := chk_some hf
  obtain ⟨hq, hf⟩ := hf
  replace hf := bnd_ex hf
  obtain ⟨g3, eg3, hf⟩ := hf
  refine ms_1 C h hq dX12_beginsLaw_16 (fun H locs h => ?_)
  rw [← eg3] at h
  clear hq eg3
  refine lv_aload_n hx hb dX12_beginsLaw_17 rfl (lv_at hl 0 rfl) ?_
  refine lv_bipush (v := (58 : Int32)) hx hb dX12_beginsLaw_18 (by decide) ?_
  replace hf := bndv_some hf
  obtain ⟨g4, hc, hf⟩ := hf
  refine m_callVv [.int (58 : Int32)] C h cv_X12_160 (qX12_mustSign hc) rfl ⟨rfl, rfl⟩ ⟨Nat.le_of_ble_eq_true rfl, Nat.le_of_ble_eq_true rfl⟩ (m_recv C h) hl.1 rfl (Nat.le_of_ble_eq_true rfl) ⟨Nat.le_refl _, Nat.le_refl _⟩ dX12_beginsLaw_20 (fun H locs h => ?_)
  clear hc
  cases hf
  exact m_vret C h dX12_beginsLaw_23

set_option maxHeartbeats 4000000 in
set_option maxRecDepth 100000 in
theorem wX12_goesIn_14 (C : MCx p s m args meth c A RX12 cX12_goesIn 1 none D cs)  {g' : MS}  : ∀ (g : MS), fX12_goesIn_14 g = some g' → ∀ (H : Heap) (locs : List Loc) (ls : Array Slot), MH D (MW cs ad g) A s H locs → lv_has ls 1 [(0, .ref (ad 48))] → W p l e (rM 2) s m args below meth c H locs 0 0 (MQ below (GPost D none (MW cs ad g') A) args s 0 0 A) (F0 m 14 ls []) := by
  have hx := C.1
  have hb := C.2.1
  intro g hf H locs ls h hl
  unfold fX12_goesIn_14 at hf
  refine lv_aload_n hx hb dX12_goesIn_14 rfl (lv_at hl 0 rfl) ?_
  refine lv_dup hx hb dX12_goesIn_15 rfl ?_
  refine mg_16 C h dX12_goesIn_16 ?_
  refine lv_iconst (v := (1 : Int32)) hx hb dX12_goesIn_19 (by decide) ?_
  refine lv_iadd hx hb dX12_goesIn_20 ?_
  replace hf := bnd_ex hf
  obtain ⟨g1, eg1, hf⟩ := hf
  refine mp_16 C h dX12_goesIn_21 (fun H locs h => ?_)
  rw [← eg1] at h
  clear eg1
  refine lv_aload_n hx hb dX12_goesIn_24 rfl (lv_at hl 0 rfl) ?_
  refine mg_12 C h dX12_goesIn_25 ?_
  refine lv_if_ne (tgt := 35) hx hb dX12_goesIn_28 (by decide) (fun hq => ?_) (fun hq => ?_)
  · replace hf := if_tn hq hf
    clear hq
    cases hf
    exact m_vret C h dX12_goesIn_35
  · replace hf := if_t hq hf
    clear hq
    refine lv_aload_n hx hb dX12_goesIn_31 rfl (lv_at hl 0 rfl) ?_
    replace hf := bndv_some hf
    obtain ⟨g2, hc, hf⟩ := hf
    refine m_callVv [] C h cv_X12_140 (qX12_readsOn hc) rfl ⟨rfl, rfl⟩ ⟨Nat.le_of_ble_eq_true rfl, Nat.le_of_ble_eq_true rfl⟩ (m_recv C h) hl.1 rfl (Nat.le_of_ble_eq_true rfl) ⟨Nat.le_refl _, Nat.le_refl _⟩ dX12_goesIn_32 (fun H locs h => ?_)
    clear hc
    cases hf
    exact m_vret C h dX12_goesIn_35

set_option maxHeartbeats 4000000 in
set_option maxRecDepth 100000 in
theorem qX12_goesIn {l : Launch} {D : va_G} {cs : Nat → ClassId} {ad : Nat → Nat} {g' : MS} {g : MS}  (hf : fX12_goesIn g = some g') : GCon l D cs yX12_goesIn cX12_goesIn 1 none (rM 2) 0 0 [.ref (ad 48)] (MW cs ad g) none (MW cs ad g') := by
  refine GCon.of (by decide) (Nat.le_of_ble_eq_true rfl) ?_
  intro p e s m args below meth c A ls H locs C h hl
  have hx := C.1
  have hb := C.2.1
  have C : MCx p s m args meth c A RX12 cX12_goesIn 1 none D cs := C
  have hl : lv_has ls 1 [(0, .ref (ad 48))] := hl
  unfold fX12_goesIn at hf
  refine lv_aload_n hx hb dX12_goesIn_0 rfl (lv_at hl 0 rfl) ?_
  refine mg_16 C h dX12_goesIn_1 ?_
  refine lv_bipush (v := (6 : Int32)) hx hb dX12_goesIn_4 (by decide) ?_
  refine lv_icmp_ne (tgt := 14) hx hb dX12_goesIn_6 (by decide) (fun hq => ?_) (fun hq => ?_)
  · replace hf := if_tn hq hf
    clear hq
    exact wX12_goesIn_14 C g hf H locs ls h (lv_sub hl [0] rfl)
  · replace hf := if_t hq hf
    clear hq
    refine lv_aload_n hx hb dX12_goesIn_9 rfl (lv_at hl 0 rfl) ?_
    refine lv_iconst (v := (4 : Int32)) hx hb dX12_goesIn_10 (by decide) ?_
    replace hf := bndv_some hf
    obtain ⟨g3, hc, hf⟩ := hf
    refine m_callVv [.int (4 : Int32)] C h cv_X12_143 (qX12_blames hc) rfl ⟨rfl, rfl⟩ ⟨Nat.le_of_ble_eq_true rfl, Nat.le_of_ble_eq_true rfl⟩ (m_recv C h) hl.1 rfl (Nat.le_of_ble_eq_true rfl) ⟨Nat.le_refl _, Nat.le_refl _⟩ dX12_goesIn_11 (fun H locs h => ?_)
    clear hc
    exact wX12_goesIn_14 C g3 hf H locs ls h (lv_sub hl [0] rfl)

set_option maxHeartbeats 4000000 in
set_option maxRecDepth 100000 in
theorem qX12_readStop {l : Launch} {D : va_G} {cs : Nat → ClassId} {ad : Nat → Nat} {g' : MS} {g : MS}  (hf : fX12_readStop g = some g') : GCon l D cs yX12_readStop cX12_readStop 1 none (rM 3) 0 0 [.ref (ad 48)] (MW cs ad g) none (MW cs ad g') := by
  refine GCon.of (by decide) (Nat.le_of_ble_eq_true rfl) ?_
  intro p e s m args below meth c A ls H locs C h hl
  have hx := C.1
  have hb := C.2.1
  have C : MCx p s m args meth c A RX12 cX12_readStop 1 none D cs := C
  have hl : lv_has ls 1 [(0, .ref (ad 48))] := hl
  unfold fX12_readStop at hf
  refine lv_aload_n hx hb dX12_readStop_0 rfl (lv_at hl 0 rfl) ?_
  refine lv_bipush (v := (59 : Int32)) hx hb dX12_readStop_1 (by decide) ?_
  replace hf := bndv_some hf
  obtain ⟨g1, hc, hf⟩ := hf
  refine m_callVv [.int (59 : Int32)] C h cv_X12_160 (qX12_mustSign hc) rfl ⟨rfl, rfl⟩ ⟨Nat.le_of_ble_eq_true rfl, Nat.le_of_ble_eq_true rfl⟩ (m_recv C h) hl.1 rfl (Nat.le_of_ble_eq_true rfl) ⟨Nat.le_refl _, Nat.le_refl _⟩ dX12_readStop_3 (fun H locs h => ?_)
  clear hc
  refine lv_aload_n hx hb dX12_readStop_6 rfl (lv_at hl 0 rfl) ?_
  refine mg_12 C h dX12_readStop_7 ?_
  refine lv_if_ne (tgt := 23) hx hb dX12_readStop_10 (by decide) (fun hq => ?_) (fun hq => ?_)
  · replace hf := if_tn hq hf
    clear hq
    cases hf
    exact m_vret C h dX12_readStop_23
  · replace hf := if_t hq hf
    clear hq
    refine lv_aload_n hx hb dX12_readStop_13 rfl (lv_at hl 0 rfl) ?_
    refine mg_1 C h dX12_readStop_14 ?_
    refine lv_iconst (v := (0 : Int32)) hx hb dX12_readStop_17 (by decide) ?_
    refine lv_dup2_11 hx hb dX12_readStop_18 rfl rfl ?_
    replace hf := chk_some hf
    obtain ⟨hq, hf⟩ := hf
    refine ml_1 C h hq dX12_readStop_19 ?_
    clear hq
    refine lv_iconst (v := (1 : Int32)) hx hb dX12_readStop_20 (by decide) ?_
    refine lv_iadd hx hb dX12_readStop_21 ?_
    replace hf := chk_some hf
    obtain ⟨hq, hf⟩ := hf
    replace hf := bnd_ex hf
    obtain ⟨g2, eg2, hf⟩ := hf
    refine ms_1 C h hq dX12_readStop_22 (fun H locs h => ?_)
    rw [← eg2] at h
    clear hq eg2
    cases hf
    exact m_vret C h dX12_readStop_23

set_option maxHeartbeats 4000000 in
set_option maxRecDepth 100000 in
theorem qX12_fault {l : Launch} {D : va_G} {cs : Nat → ClassId} {ad : Nat → Nat} {r : Int32} {g' : MS} {g : MS}  {a0 : Int32} (hf : fX12_fault g a0 = some (r, g')) : GCon l D cs yX12_fault cX12_fault 2 (some .int) (rM 0) 0 0 [.ref (ad 48), .int a0] (MW cs ad g) (some (.int r)) (MW cs ad g') := by
  refine GCon.of (by decide) (Nat.le_of_ble_eq_true rfl) ?_
  intro p e s m args below meth c A ls H locs C h hl
  have hx := C.1
  have hb := C.2.1
  have C : MCx p s m args meth c A RX12 cX12_fault 2 (some .int) D cs := C
  have hl : lv_has ls 2 [(0, .ref (ad 48)), (1, .int a0)] := hl
  unfold fX12_fault at hf
  refine lv_aload_n hx hb dX12_fault_0 rfl (lv_at hl 0 rfl) ?_
  refine lv_iconst (v := (0 : Int32)) hx hb dX12_fault_1 (by decide) ?_
  replace hf := bnd_ex hf
  obtain ⟨g1, eg1, hf⟩ := hf
  refine mp_4 C h dX12_fault_2 (fun H locs h => ?_)
  rw [← eg1] at h
  clear eg1
  refine lv_iload_n hx hb dX12_fault_5 rfl (lv_at hl 1 rfl) ?_
  refine lv_if_ne (tgt := 16) hx hb dX12_fault_6 (by decide) (fun hq => ?_) (fun hq => ?_)
  · replace hf := if_tn hq hf
    clear hq
    refine lv_iload_n hx hb dX12_fault_16 rfl (lv_at hl 1 rfl) ?_
    refine lv_iconst (v := (1 : Int32)) hx hb dX12_fault_17 (by decide) ?_
    refine lv_icmp_ne (tgt := 28) hx hb dX12_fault_18 (by decide) (fun hq => ?_) (fun hq => ?_)
    · replace hf := if_tn hq hf
      clear hq
      refine lv_iconst (v := (-1 : Int32)) hx hb dX12_fault_28 (by decide) ?_
      cases hf
      exact m_iret C h dX12_fault_29
    · replace hf := if_t hq hf
      clear hq
      refine lv_aload_n hx hb dX12_fault_21 rfl (lv_at hl 0 rfl) ?_
      refine mg_15 C h dX12_fault_22 ?_
      refine lv_goto (tgt := 29) hx hb dX12_fault_25 (by decide) ?_
      cases hf
      exact m_iret C h dX12_fault_29
  · replace hf := if_t hq hf
    clear hq
    refine lv_aload_n hx hb dX12_fault_9 rfl (lv_at hl 0 rfl) ?_
    refine mg_14 C h dX12_fault_10 ?_
    refine lv_goto (tgt := 29) hx hb dX12_fault_13 (by decide) ?_
    cases hf
    exact m_iret C h dX12_fault_29

set_option maxHeartbeats 4000000 in
set_option maxRecDepth 100000 in
theorem qX12_size {l : Launch} {D : va_G} {cs : Nat → ClassId} {ad : Nat → Nat} {r : Int32} {g' : MS} {g : MS}  (hf : fX12_size g = some (r, g')) : GCon l D cs yX12_size cX12_size 1 (some .int) (rM 0) 0 0 [.ref (ad 48)] (MW cs ad g) (some (.int r)) (MW cs ad g') := by
  refine GCon.of (by decide) (Nat.le_of_ble_eq_true rfl) ?_
  intro p e s m args below meth c A ls H locs C h hl
  have hx := C.1
  have hb := C.2.1
  have C : MCx p s m args meth c A RX12 cX12_size 1 (some .int) D cs := C
  have hl : lv_has ls 1 [(0, .ref (ad 48))] := hl
  unfold fX12_size at hf
  refine lv_aload_n hx hb dX12_size_0 rfl (lv_at hl 0 rfl) ?_
  refine mg_0 C h dX12_size_1 ?_
  refine lv_iconst (v := (1 : Int32)) hx hb dX12_size_4 (by decide) ?_
  replace hf := chk_some hf
  obtain ⟨hq, hf⟩ := hf
  refine ml_0 C h hq dX12_size_5 ?_
  clear hq
  cases hf
  exact m_iret C h dX12_size_6

set_option maxHeartbeats 4000000 in
set_option maxRecDepth 100000 in
theorem qX12_isMember {l : Launch} {D : va_G} {cs : Nat → ClassId} {ad : Nat → Nat} {r : Int32} {g' : MS} {g : MS}  {a0 : Int64} (hf : fX12_isMember g a0 = some (r, g')) : GCon l D cs yX12_isMember cX12_isMember 3 (some .boolean) (rM 1) 0 0 [.ref (ad 48), .long a0] (MW cs ad g) (some (.int r)) (MW cs ad g') := by
  refine GCon.of (by decide) (Nat.le_of_ble_eq_true rfl) ?_
  intro p e s m args below meth c A ls H locs C h hl
  have hx := C.1
  have hb := C.2.1
  have C : MCx p s m args meth c A RX12 cX12_isMember 3 (some .boolean) D cs := C
  have hl : lv_has ls 3 [(0, .ref (ad 48)), (1, .long a0)] := hl
  unfold fX12_isMember at hf
  refine lv_lload_n hx hb dX12_isMember_0 rfl (lv_at hl 1 rfl) ?_
  refine lv_lconst (v := (0 : Int64)) hx hb dX12_isMember_1 rfl ?_
  refine lv_aload_n hx hb dX12_isMember_2 rfl (lv_at hl 0 rfl) ?_
  replace hf := bndc_some hf
  obtain ⟨x1, g2, hc, hf⟩ := hf
  refine m_callVi [] C h cv_X12_254 (qX12_size hc) rfl ⟨rfl, rfl⟩ ⟨Nat.le_of_ble_eq_true rfl, Nat.le_of_ble_eq_true rfl⟩ (m_recv C h) hl.1 rfl (Nat.le_of_ble_eq_true rfl) ⟨Nat.le_refl _, Nat.le_refl _⟩ dX12_isMember_3 (fun H locs h => ?_)
  clear hc
  refine lv_iconst (v := (1 : Int32)) hx hb dX12_isMember_6 (by decide) ?_
  refine lv_isub hx hb dX12_isMember_7 ?_
  refine lv_i2l hx hb dX12_isMember_8 rfl ?_
  replace hf := bndv_some hf
  obtain ⟨x3, hc, hf⟩ := hf
  refine m_callSi [.long a0, .long (0 : Int64), .long ((x1 - (1 : Int32)).toInt64)] C h cs_X12_147 (qX12_within hc) rfl ⟨rfl, rfl⟩ ⟨Nat.le_of_ble_eq_true rfl, Nat.le_of_ble_eq_true rfl⟩ hl.1 rfl (Nat.le_of_ble_eq_true rfl) ⟨Nat.le_refl _, Nat.le_refl _⟩ dX12_isMember_9 (fun H locs h => ?_)
  clear hc
  replace hf := chk_some hf
  obtain ⟨hq, hf⟩ := hf
  cases hf
  exact m_zret C h hq dX12_isMember_12

set_option maxHeartbeats 4000000 in
set_option maxRecDepth 100000 in
theorem qX12_isStuck {l : Launch} {D : va_G} {cs : Nat → ClassId} {ad : Nat → Nat} {r : Int32} {g' : MS} {g : MS}  {a0 : Int32} (hf : fX12_isStuck g a0 = some (r, g')) : GCon l D cs yX12_isStuck cX12_isStuck 2 (some .boolean) (rM 1) 0 0 [.ref (ad 48), .int a0] (MW cs ad g) (some (.int r)) (MW cs ad g') := by
  refine GCon.of (by decide) (Nat.le_of_ble_eq_true rfl) ?_
  intro p e s m args below meth c A ls H locs C h hl
  have hx := C.1
  have hb := C.2.1
  have C : MCx p s m args meth c A RX12 cX12_isStuck 2 (some .boolean) D cs := C
  have hl : lv_has ls 2 [(0, .ref (ad 48)), (1, .int a0)] := hl
  unfold fX12_isStuck at hf
  refine lv_aload_n hx hb dX12_isStuck_0 rfl (lv_at hl 0 rfl) ?_
  refine mg_0 C h dX12_isStuck_1 ?_
  refine lv_bipush (v := (18 : Int32)) hx hb dX12_isStuck_4 (by decide) ?_
  replace hf := chk_some hf
  obtain ⟨hq, hf⟩ := hf
  refine ml_0 C h hq dX12_isStuck_6 ?_
  clear hq
  refine lv_iload_n hx hb dX12_isStuck_7 rfl (lv_at hl 1 rfl) ?_
  replace hf := bndv_some hf
  obtain ⟨x1, hc, hf⟩ := hf
  refine m_callSi [.int (g.2.1 0 (ix (18 : Int32))), .int a0] C h cs_X12_257 (qX12_has hc) rfl ⟨rfl, rfl⟩ ⟨Nat.le_of_ble_eq_true rfl, Nat.le_of_ble_eq_true rfl⟩ hl.1 rfl (Nat.le_of_ble_eq_true rfl) ⟨Nat.le_refl _, Nat.le_refl _⟩ dX12_isStuck_8 (fun H locs h => ?_)
  clear hc
  replace hf := chk_some hf
  obtain ⟨hq, hf⟩ := hf
  cases hf
  exact m_zret C h hq dX12_isStuck_11

set_option maxHeartbeats 4000000 in
set_option maxRecDepth 100000 in
theorem qX12_bound {l : Launch} {D : va_G} {cs : Nat → ClassId} {r : Int32}  {a0 : Int64} (hf : fX12_bound a0 = some r) : GCon l D cs yX12_bound cX12_bound 2 (some .int) (rM 1) 0 0 [.long a0] [] (some (.int r)) [] := by
  refine GCon.of (by decide) (Nat.le_of_ble_eq_true rfl) ?_
  intro p e s m args below meth c A ls H locs C h hl
  have hx := C.1
  have hb := C.2.1
  have C : MCx p s m args meth c A RX12 cX12_bound 2 (some .int) D cs := C
  have hl : lv_has ls 2 [(0, .long a0)] := hl
  unfold fX12_bound at hf
  refine lv_ldc2 hx hb C.2.2.2.1 (C.2.2.2.2.1 _ tb_30_12) dX12_bound_0 ?_
  refine lv_ldc2 hx hb C.2.2.2.1 (C.2.2.2.2.1 _ tb_30_13) dX12_bound_3 ?_
  refine lv_lload_n hx hb dX12_bound_6 rfl (lv_at hl 0 rfl) ?_
  refine x_minL tb_30_14 C hl.1 (Nat.le_of_ble_eq_true rfl) (Nat.le_of_ble_eq_true rfl) (Nat.le_refl _) (Nat.le_refl _) dX12_bound_7 ?_
  refine x_maxL tb_30_17 C hl.1 (Nat.le_of_ble_eq_true rfl) (Nat.le_of_ble_eq_true rfl) (Nat.le_refl _) (Nat.le_refl _) dX12_bound_10 ?_
  refine lv_l2i hx hb dX12_bound_13 rfl ?_
  cases hf
  exact m_iret C h dX12_bound_14

set_option maxHeartbeats 4000000 in
set_option maxRecDepth 100000 in
theorem qX12_done {l : Launch} {D : va_G} {cs : Nat → ClassId} {r : Int32}  {a0 : Int32} {a1 : Int64} {a2 : Int64} (hf : fX12_done a0 a1 a2 = some r) : GCon l D cs yX12_done cX12_done 5 (some .int) (rM 2) 0 0 [.int a0, .long a1, .long a2] [] (some (.int r)) [] := by
  refine GCon.of (by decide) (Nat.le_of_ble_eq_true rfl) ?_
  intro p e s m args below meth c A ls H locs C h hl
  have hx := C.1
  have hb := C.2.1
  have C : MCx p s m args meth c A RX12 cX12_done 5 (some .int) D cs := C
  have hl : lv_has ls 5 [(0, .int a0), (1, .long a1), (3, .long a2)] := hl
  unfold fX12_done at hf
  refine lv_iload_n hx hb dX12_done_0 rfl (lv_at hl 0 rfl) ?_
  rcases Decidable.em (a0 = (10 : Int32)) with hq | q0
  · replace hf := if_t hq hf
    subst hq
    refine lv_tableIn (off := 43) (tgt := 44) hx hb dX12_done_1 (by decide) (by decide) (by decide) (by decide) ?_
    refine lv_lload_n hx hb dX12_done_44 rfl (lv_at hl 1 rfl) ?_
    refine lv_lload_n hx hb dX12_done_45 rfl (lv_at hl 2 rfl) ?_
    refine lv_ladd hx hb dX12_done_46 ?_
    replace hf := bndv_some hf
    obtain ⟨x1, hc, hf⟩ := hf
    refine m_callSi [.long (a1 + a2)] C h cs_X12_274 (qX12_bound hc) rfl ⟨rfl, rfl⟩ ⟨Nat.le_of_ble_eq_true rfl, Nat.le_of_ble_eq_true rfl⟩ hl.1 rfl (Nat.le_of_ble_eq_true rfl) ⟨Nat.le_refl _, Nat.le_refl _⟩ dX12_done_47 (fun H locs h => ?_)
    clear hc
    cases hf
    exact m_iret C h dX12_done_50
  replace hf := if_f q0 hf
  rcases Decidable.em (a0 = (11 : Int32)) with hq | q1
  · replace hf := if_t hq hf
    subst hq
    refine lv_tableIn (off := 50) (tgt := 51) hx hb dX12_done_1 (by decide) (by decide) (by decide) (by decide) ?_
    refine lv_lload_n hx hb dX12_done_51 rfl (lv_at hl 1 rfl) ?_
    refine lv_lload_n hx hb dX12_done_52 rfl (lv_at hl 2 rfl) ?_
    refine lv_lsub hx hb dX12_done_53 ?_
    replace hf := bndv_some hf
    obtain ⟨x2, hc, hf⟩ := hf
    refine m_callSi [.long (a1 - a2)] C h cs_X12_274 (qX12_bound hc) rfl ⟨rfl, rfl⟩ ⟨Nat.le_of_ble_eq_true rfl, Nat.le_of_ble_eq_true rfl⟩ hl.1 rfl (Nat.le_of_ble_eq_true rfl) ⟨Nat.le_refl _, Nat.le_refl _⟩ dX12_done_54 (fun H locs h => ?_)
    clear hc
    cases hf
    exact m_iret C h dX12_done_57
  replace hf := if_f q1 hf
  rcases Decidable.em (a0 = (12 : Int32)) with hq | q2
  · replace hf := if_t hq hf
    subst hq
    refine lv_tableIn (off := 57) (tgt := 58) hx hb dX12_done_1 (by decide) (by decide) (by decide) (by decide) ?_
    refine lv_lload_n hx hb dX12_done_58 rfl (lv_at hl 1 rfl) ?_
    refine lv_lload_n hx hb dX12_done_59 rfl (lv_at hl 2 rfl) ?_
    refine lv_lmul hx hb dX12_done_60 ?_
    replace hf := bndv_some hf
    obtain ⟨x3, hc, hf⟩ := hf
    refine m_callSi [.long (a1 * a2)] C h cs_X12_274 (qX12_bound hc) rfl ⟨rfl, rfl⟩ ⟨Nat.le_of_ble_eq_true rfl, Nat.le_of_ble_eq_true rfl⟩ hl.1 rfl (Nat.le_of_ble_eq_true rfl) ⟨Nat.le_refl _, Nat.le_refl _⟩ dX12_done_61 (fun H locs h => ?_)
    clear hc
    cases hf
    exact m_iret C h dX12_done_64
  replace hf := if_f q2 hf
  rcases Decidable.em (a0 = (13 : Int32)) with hq | q3
  · replace hf := if_t hq hf
    subst hq
    refine lv_tableIn (off := 64) (tgt := 65) hx hb dX12_done_1 (by decide) (by decide) (by decide) (by decide) ?_
    refine lv_lload_n hx hb dX12_done_65 rfl (lv_at hl 1 rfl) ?_
    refine lv_lload_n hx hb dX12_done_66 rfl (lv_at hl 2 rfl) ?_
    refine W.lcmp hx hb dX12_done_67 ?_
    refine lv_if_ne (tgt := 75) hx hb dX12_done_68 (by decide) (fun hq => ?_) (fun hq => ?_)
    · replace hf := if_tn hq hf
      clear hq
      refine lv_iconst (v := (0 : Int32)) hx hb dX12_done_75 (by decide) ?_
      cases hf
      exact m_iret C h dX12_done_76
    · replace hf := if_t hq hf
      clear hq
      refine lv_iconst (v := (1 : Int32)) hx hb dX12_done_71 (by decide) ?_
      refine lv_goto (tgt := 76) hx hb dX12_done_72 (by decide) ?_
      cases hf
      exact m_iret C h dX12_done_76
  replace hf := if_f q3 hf
  rcases Decidable.em (a0 = (14 : Int32)) with hq | q4
  · replace hf := if_t hq hf
    subst hq
    refine lv_tableIn (off := 76) (tgt := 77) hx hb dX12_done_1 (by decide) (by decide) (by decide) (by decide) ?_
    refine lv_lload_n hx hb dX12_done_77 rfl (lv_at hl 1 rfl) ?_
    refine lv_lload_n hx hb dX12_done_78 rfl (lv_at hl 2 rfl) ?_
    refine W.lcmp hx hb dX12_done_79 ?_
    refine lv_if_ge (tgt := 87) hx hb dX12_done_80 (by decide) (fun hq => ?_) (fun hq => ?_)
    · replace hf := if_t hq hf
      clear hq
      refine lv_iconst (v := (0 : Int32)) hx hb dX12_done_87 (by decide) ?_
      cases hf
      exact m_iret C h dX12_done_88
    · replace hf := if_f hq hf
      clear hq
      refine lv_iconst (v := (1 : Int32)) hx hb dX12_done_83 (by decide) ?_
      refine lv_goto (tgt := 88) hx hb dX12_done_84 (by decide) ?_
      cases hf
      exact m_iret C h dX12_done_88
  replace hf := if_f q4 hf
  rcases Decidable.em (a0 = (15 : Int32)) with hq | q5
  · replace hf := if_t hq hf
    subst hq
    refine lv_tableIn (off := 88) (tgt := 89) hx hb dX12_done_1 (by decide) (by decide) (by decide) (by decide) ?_
    refine lv_lload_n hx hb dX12_done_89 rfl (lv_at hl 1 rfl) ?_
    refine lv_lload_n hx hb dX12_done_90 rfl (lv_at hl 2 rfl) ?_
    refine W.lcmp hx hb dX12_done_91 ?_
    refine lv_if_le (tgt := 99) hx hb dX12_done_92 (by decide) (fun hq => ?_) (fun hq => ?_)
    · replace hf := if_t hq hf
      clear hq
      refine lv_iconst (v := (0 : Int32)) hx hb dX12_done_99 (by decide) ?_
      cases hf
      exact m_iret C h dX12_done_100
    · replace hf := if_f hq hf
      clear hq
      refine lv_iconst (v := (1 : Int32)) hx hb dX12_done_95 (by decide) ?_
      refine lv_goto (tgt := 100) hx hb dX12_done_96 (by decide) ?_
      cases hf
      exact m_iret C h dX12_done_100
  replace hf := if_f q5 hf
  rcases Decidable.em (a0 = (16 : Int32)) with hq | q6
  · replace hf := if_t hq hf
    subst hq
    refine lv_tableIn (off := 100) (tgt := 101) hx hb dX12_done_1 (by decide) (by decide) (by decide) (by decide) ?_
    refine lv_lload_n hx hb dX12_done_101 rfl (lv_at hl 1 rfl) ?_
    refine lv_lload_n hx hb dX12_done_102 rfl (lv_at hl 2 rfl) ?_
    refine lv_ladd hx hb dX12_done_103 ?_
    refine lv_lconst (v := (1 : Int64)) hx hb dX12_done_104 rfl ?_
    refine W.lcmp hx hb dX12_done_105 ?_
    refine lv_if_le (tgt := 113) hx hb dX12_done_106 (by decide) (fun hq => ?_) (fun hq => ?_)
    · replace hf := if_t hq hf
      clear hq
      refine lv_iconst (v := (0 : Int32)) hx hb dX12_done_113 (by decide) ?_
      cases hf
      exact m_iret C h dX12_done_114
    · replace hf := if_f hq hf
      clear hq
      refine lv_iconst (v := (1 : Int32)) hx hb dX12_done_109 (by decide) ?_
      refine lv_goto (tgt := 114) hx hb dX12_done_110 (by decide) ?_
      cases hf
      exact m_iret C h dX12_done_114
  replace hf := if_f q6 hf
  refine lv_tableOut (tgt := 115) hx hb dX12_done_1 (by
      have z0 := i32_ne q0
      have z1 := i32_ne q1
      have z2 := i32_ne q2
      have z3 := i32_ne q3
      have z4 := i32_ne q4
      have z5 := i32_ne q5
      have z6 := i32_ne q6
      simp only [i32v_10, i32v_11, i32v_12, i32v_13, i32v_14, i32v_15, i32v_16] at z0 z1 z2 z3 z4 z5 z6
      omega) (by decide) ?_
  clear q0 q1 q2 q3 q4 q5 q6
  refine lv_lload_n hx hb dX12_done_115 rfl (lv_at hl 1 rfl) ?_
  refine lv_lload_n hx hb dX12_done_116 rfl (lv_at hl 2 rfl) ?_
  refine lv_ladd hx hb dX12_done_117 ?_
  refine lv_lconst (v := (0 : Int64)) hx hb dX12_done_118 rfl ?_
  refine W.lcmp hx hb dX12_done_119 ?_
  refine lv_if_le (tgt := 127) hx hb dX12_done_120 (by decide) (fun hq => ?_) (fun hq => ?_)
  · replace hf := if_t hq hf
    clear hq
    refine lv_iconst (v := (0 : Int32)) hx hb dX12_done_127 (by decide) ?_
    cases hf
    exact m_iret C h dX12_done_128
  · replace hf := if_f hq hf
    clear hq
    refine lv_iconst (v := (1 : Int32)) hx hb dX12_done_123 (by decide) ?_
    refine lv_goto (tgt := 128) hx hb dX12_done_124 (by decide) ?_
    cases hf
    exact m_iret C h dX12_done_128

set_option maxHeartbeats 4000000 in
set_option maxRecDepth 100000 in
theorem wX12_lawOf_66 (C : MCx p s m args meth c A RX12 cX12_lawOf 6 (some .int) D cs)  {r : Int32} {g' : MS}  {k5 : MS → Int32 → Int32 → Int32 → Int32 → Option (Int32 × MS)} (hk5 : ∀ (g : MS) (y1 : Int32) (y2 : Int32) (y3 : Int32) (y4 : Int32), k5 g y1 y2 y3 y4 = some (r, g') → ∀ (H : Heap) (locs : List Loc) (ls : Array Slot), MH D (MW cs ad g) A s H locs → lv_has ls 6 [(0, .ref (ad 48)), (1, .int y1), (2, .int y2), (3, .int y3), (4, .int y4)] → W p l e (rM 3) s m args below meth c H locs 0 0 (MQ below (GPost D (some (.int r)) (MW cs ad g') A) args s 0 0 A) (F0 m 5 ls [])) : ∀ (g : MS) (y1 : Int32) (y2 : Int32) (y3 : Int32) (y4 : Int32) (t1 : Int32) (t2 : Int32), fX12_lawOf_66 k5 g y1 y2 y3 y4 t1 t2 = some (r, g') → ∀ (H : Heap) (locs : List Loc) (ls : Array Slot), MH D (MW cs ad g) A s H locs → lv_has ls 6 [(0, .ref (ad 48)), (1, .int y1), (2, .int y2), (3, .int y3), (4, .int y4)] → W p l e (rM 3) s m args below meth c H locs 0 0 (MQ below (GPost D (some (.int r)) (MW cs ad g') A) args s 0 0 A) (F0 m 66 ls [.int t2, .int t1, .ref (ad 19)]) := by
  have hx := C.1
  have hb := C.2.1
  intro g y1 y2 y3 y4 t1 t2 hf H locs ls h hl
  unfold fX12_lawOf_66 at hf
  replace hf := chk_some hf
  obtain ⟨hq, hf⟩ := hf
  replace hf := bnd_ex hf
  obtain ⟨g1, eg1, hf⟩ := hf
  refine ms_19 C h hq dX12_lawOf_66 (fun H locs h => ?_)
  rw [← eg1] at h
  clear hq eg1
  obtain ⟨x2, ex2⟩ : ∃ z : Int32, z = y3 + (1 : Int32) := ⟨_, rfl⟩
  replace hf := bnd_at ex2 hf
  refine lv_iinc (v := x2) (lv' := [(3, .int x2), (0, .ref (ad 48)), (1, .int y1), (2, .int y2), (4, .int y4)]) hx hb dX12_lawOf_67 hl (k := 3) rfl (by rw [ex2]; rfl) (by decide) rfl (fun ls hl => ?_)
  clear ex2
  refine lv_goto (tgt := 133) hx hb dX12_lawOf_70 (by decide) ?_
  obtain ⟨x3, ex3⟩ : ∃ z : Int32, z = y4 + (1 : Int32) := ⟨_, rfl⟩
  replace hf := bnd_at ex3 hf
  refine lv_iinc (v := x3) (lv' := [(4, .int x3), (3, .int x2), (0, .ref (ad 48)), (1, .int y1), (2, .int y2)]) hx hb dX12_lawOf_133 hl (k := 4) rfl (by rw [ex3]; rfl) (by decide) rfl (fun ls hl => ?_)
  clear ex3
  refine lv_goto (tgt := 5) hx hb dX12_lawOf_136 (by decide) ?_
  exact hk5 g1 y1 y2 x2 x3 hf H locs ls h (lv_sub hl [2, 3, 4, 1, 0] rfl)

set_option maxHeartbeats 4000000 in
set_option maxRecDepth 100000 in
theorem wX12_lawOf_5 (C : MCx p s m args meth c A RX12 cX12_lawOf 6 (some .int) D cs)  {r : Int32} {g' : MS}  : ∀ (n : Nat) (g : MS) (y1 : Int32) (y2 : Int32) (y3 : Int32) (y4 : Int32), fX12_lawOf_5 n g y1 y2 y3 y4 = some (r, g') → ∀ (H : Heap) (locs : List Loc) (ls : Array Slot), MH D (MW cs ad g) A s H locs → lv_has ls 6 [(0, .ref (ad 48)), (1, .int y1), (2, .int y2), (3, .int y3), (4, .int y4)] → W p l e (rM 3) s m args below meth c H locs 0 0 (MQ below (GPost D (some (.int r)) (MW cs ad g') A) args s 0 0 A) (F0 m 5 ls []) := by
  have hx := C.1
  have hb := C.2.1
  intro n
  induction n with
  | zero =>
    intro g y1 y2 y3 y4 hf
    exact absurd hf (by simp [fX12_lawOf_5])
  | succ n ih =>
    intro g y1 y2 y3 y4 hf H locs ls h hl
    rw [fX12_lawOf_5] at hf
    refine lv_iload hx hb dX12_lawOf_5 (lv_at hl 4 rfl) ?_
    refine lv_aload_n hx hb dX12_lawOf_7 rfl (lv_at hl 0 rfl) ?_
    refine mg_0 C h dX12_lawOf_8 ?_
    refine lv_iload_n hx hb dX12_lawOf_11 rfl (lv_at hl 1 rfl) ?_
    replace hf := chk_some hf
    obtain ⟨hq, hf⟩ := hf
    refine ml_0 C h hq dX12_lawOf_12 ?_
    clear hq
    refine lv_icmp_ge (tgt := 139) hx hb dX12_lawOf_13 (by decide) (fun hq => ?_) (fun hq => ?_)
    · replace hf := if_t hq hf
      clear hq
      refine lv_aload_n hx hb dX12_lawOf_139 rfl (lv_at hl 0 rfl) ?_
      refine mg_19 C h dX12_lawOf_140 ?_
      refine lv_iconst (v := (0 : Int32)) hx hb dX12_lawOf_143 (by decide) ?_
      replace hf := chk_some hf
      obtain ⟨hq, hf⟩ := hf
      refine ml_19 C h hq dX12_lawOf_144 ?_
      clear hq
      cases hf
      exact m_iret C h dX12_lawOf_145
    · replace hf := if_f hq hf
      clear hq
      refine lv_aload_n hx hb dX12_lawOf_16 rfl (lv_at hl 0 rfl) ?_
      refine mg_0 C h dX12_lawOf_17 ?_
      refine lv_iload_n hx hb dX12_lawOf_20 rfl (lv_at hl 2 rfl) ?_
      refine lv_iload hx hb dX12_lawOf_21 (lv_at hl 4 rfl) ?_
      refine lv_iadd hx hb dX12_lawOf_23 ?_
      replace hf := chk_some hf
      obtain ⟨hq, hf⟩ := hf
      refine ml_0 C h hq dX12_lawOf_24 ?_
      clear hq
      refine lv_topi (fun x4 ex4 => ?_)
      replace hf := bnd_at ex4 hf
      clear ex4
      refine lv_istore (lv' := [(5, .int x4), (0, .ref (ad 48)), (1, .int y1), (2, .int y2), (3, .int y3), (4, .int y4)]) hx hb dX12_lawOf_25 hl (by decide) rfl (fun ls hl => ?_)
      refine lv_iload hx hb dX12_lawOf_27 (lv_at hl 0 rfl) ?_
      refine lv_bipush (v := (100 : Int32)) hx hb dX12_lawOf_29 (by decide) ?_
      refine lv_icmp_lt (tgt := 73) hx hb dX12_lawOf_31 (by decide) (fun hq => ?_) (fun hq => ?_)
      · replace hf := if_t hq hf
        clear hq
        refine lv_iload hx hb dX12_lawOf_73 (lv_at hl 0 rfl) ?_
        refine lv_bipush (v := (18 : Int32)) hx hb dX12_lawOf_75 (by decide) ?_
        refine lv_icmp_ne (tgt := 101) hx hb dX12_lawOf_77 (by decide) (fun hq => ?_) (fun hq => ?_)
        · replace hf := if_tn hq hf
          clear hq
          obtain ⟨x5, ex5⟩ : ∃ z : Int32, z = y3 + (-1 : Int32) := ⟨_, rfl⟩
          replace hf := bnd_at ex5 hf
          refine lv_iinc (v := x5) (lv' := [(3, .int x5), (5, .int x4), (0, .ref (ad 48)), (1, .int y1), (2, .int y2), (4, .int y4)]) hx hb dX12_lawOf_101 hl (k := 4) rfl (by rw [ex5]; rfl) (by decide) rfl (fun ls hl => ?_)
          clear ex5
          refine lv_aload_n hx hb dX12_lawOf_104 rfl (lv_at hl 2 rfl) ?_
          refine mg_19 C h dX12_lawOf_105 ?_
          refine lv_iload_n hx hb dX12_lawOf_108 rfl (lv_at hl 0 rfl) ?_
          refine lv_iconst (v := (1 : Int32)) hx hb dX12_lawOf_109 (by decide) ?_
          refine lv_isub hx hb dX12_lawOf_110 ?_
          refine lv_iload hx hb dX12_lawOf_111 (lv_at hl 1 rfl) ?_
          refine lv_aload_n hx hb dX12_lawOf_113 rfl (lv_at hl 2 rfl) ?_
          refine mg_19 C h dX12_lawOf_114 ?_
          refine lv_iload_n hx hb dX12_lawOf_117 rfl (lv_at hl 0 rfl) ?_
          refine lv_iconst (v := (1 : Int32)) hx hb dX12_lawOf_118 (by decide) ?_
          refine lv_isub hx hb dX12_lawOf_119 ?_
          replace hf := chk_some hf
          obtain ⟨hq, hf⟩ := hf
          refine ml_19 C h hq dX12_lawOf_120 ?_
          clear hq
          refine lv_i2l hx hb dX12_lawOf_121 rfl ?_
          refine lv_aload_n hx hb dX12_lawOf_122 rfl (lv_at hl 2 rfl) ?_
          refine mg_19 C h dX12_lawOf_123 ?_
          refine lv_iload_n hx hb dX12_lawOf_126 rfl (lv_at hl 0 rfl) ?_
          replace hf := chk_some hf
          obtain ⟨hq, hf⟩ := hf
          refine ml_19 C h hq dX12_lawOf_127 ?_
          clear hq
          refine lv_i2l hx hb dX12_lawOf_128 rfl ?_
          replace hf := bndv_some hf
          obtain ⟨x6, hc, hf⟩ := hf
          refine m_callSi [.int x4, .long ((g.2.1 19 (ix (x5 - (1 : Int32)))).toInt64), .long ((g.2.1 19 (ix x5)).toInt64)] C h cs_X12_278 (qX12_done hc) rfl ⟨rfl, rfl⟩ ⟨Nat.le_of_ble_eq_true rfl, Nat.le_of_ble_eq_true rfl⟩ hl.1 rfl (Nat.le_of_ble_eq_true rfl) ⟨Nat.le_refl _, Nat.le_refl _⟩ dX12_lawOf_129 (fun H locs h => ?_)
          clear hc
          replace hf := chk_some hf
          obtain ⟨hq, hf⟩ := hf
          replace hf := bnd_ex hf
          obtain ⟨g7, eg7, hf⟩ := hf
          refine ms_19 C h hq dX12_lawOf_132 (fun H locs h => ?_)
          rw [← eg7] at h
          clear hq eg7
          obtain ⟨x8, ex8⟩ : ∃ z : Int32, z = y4 + (1 : Int32) := ⟨_, rfl⟩
          replace hf := bnd_at ex8 hf
          refine lv_iinc (v := x8) (lv' := [(4, .int x8), (3, .int x5), (5, .int x4), (0, .ref (ad 48)), (1, .int y1), (2, .int y2)]) hx hb dX12_lawOf_133 hl (k := 5) rfl (by rw [ex8]; rfl) (by decide) rfl (fun ls hl => ?_)
          clear ex8
          refine lv_goto (tgt := 5) hx hb dX12_lawOf_136 (by decide) ?_
          exact ih g7 y1 y2 x5 x8 hf H locs ls h (lv_sub hl [3, 4, 5, 1, 0] rfl)
        · replace hf := if_t hq hf
          clear hq
          refine lv_aload_n hx hb dX12_lawOf_80 rfl (lv_at hl 1 rfl) ?_
          refine mg_19 C h dX12_lawOf_81 ?_
          refine lv_iload_n hx hb dX12_lawOf_84 rfl (lv_at hl 4 rfl) ?_
          refine lv_iconst (v := (1 : Int32)) hx hb dX12_lawOf_85 (by decide) ?_
          refine lv_isub hx hb dX12_lawOf_86 ?_
          refine lv_iconst (v := (1 : Int32)) hx hb dX12_lawOf_87 (by decide) ?_
          refine lv_aload_n hx hb dX12_lawOf_88 rfl (lv_at hl 1 rfl) ?_
          refine mg_19 C h dX12_lawOf_89 ?_
          refine lv_iload_n hx hb dX12_lawOf_92 rfl (lv_at hl 4 rfl) ?_
          refine lv_iconst (v := (1 : Int32)) hx hb dX12_lawOf_93 (by decide) ?_
          refine lv_isub hx hb dX12_lawOf_94 ?_
          replace hf := chk_some hf
          obtain ⟨hq, hf⟩ := hf
          refine ml_19 C h hq dX12_lawOf_95 ?_
          clear hq
          refine lv_isub hx hb dX12_lawOf_96 ?_
          replace hf := chk_some hf
          obtain ⟨hq, hf⟩ := hf
          replace hf := bnd_ex hf
          obtain ⟨g9, eg9, hf⟩ := hf
          refine ms_19 C h hq dX12_lawOf_97 (fun H locs h => ?_)
          rw [← eg9] at h
          clear hq eg9
          refine lv_goto (tgt := 133) hx hb dX12_lawOf_98 (by decide) ?_
          obtain ⟨x10, ex10⟩ : ∃ z : Int32, z = y4 + (1 : Int32) := ⟨_, rfl⟩
          replace hf := bnd_at ex10 hf
          refine lv_iinc (v := x10) (lv' := [(4, .int x10), (5, .int x4), (0, .ref (ad 48)), (1, .int y1), (2, .int y2), (3, .int y3)]) hx hb dX12_lawOf_133 hl (k := 5) rfl (by rw [ex10]; rfl) (by decide) rfl (fun ls hl => ?_)
          clear ex10
          refine lv_goto (tgt := 5) hx hb dX12_lawOf_136 (by decide) ?_
          exact ih g9 y1 y2 y3 x10 hf H locs ls h (lv_sub hl [2, 3, 4, 5, 0] rfl)
      · replace hf := if_f hq hf
        clear hq
        refine lv_aload_n hx hb dX12_lawOf_34 rfl (lv_at hl 1 rfl) ?_
        refine mg_19 C h dX12_lawOf_35 ?_
        refine lv_iload_n hx hb dX12_lawOf_38 rfl (lv_at hl 4 rfl) ?_
        refine lv_iload hx hb dX12_lawOf_39 (lv_at hl 0 rfl) ?_
        refine lv_sipush (v := (1000 : Int32)) hx hb dX12_lawOf_41 (by decide) ?_
        refine lv_icmp_lt (tgt := 56) hx hb dX12_lawOf_44 (by decide) (fun hq => ?_) (fun hq => ?_)
        · replace hf := if_t hq hf
          clear hq
          refine lv_aload_n hx hb dX12_lawOf_56 rfl (lv_at hl 1 rfl) ?_
          refine mg_20 C h dX12_lawOf_57 ?_
          refine lv_iload hx hb dX12_lawOf_60 (lv_at hl 0 rfl) ?_
          refine lv_bipush (v := (100 : Int32)) hx hb dX12_lawOf_62 (by decide) ?_
          refine lv_isub hx hb dX12_lawOf_64 ?_
          replace hf := chk_some hf
          obtain ⟨hq, hf⟩ := hf
          refine ml_20 C h hq dX12_lawOf_65 ?_
          clear hq
          exact wX12_lawOf_66 C ih g y1 y2 y3 y4 y3 (g.2.1 20 (ix (x4 - (100 : Int32)))) hf H locs ls h (lv_sub hl [1, 2, 3, 4, 5] rfl)
        · replace hf := if_f hq hf
          clear hq
          refine lv_iload hx hb dX12_lawOf_47 (lv_at hl 0 rfl) ?_
          refine lv_sipush (v := (1000 : Int32)) hx hb dX12_lawOf_49 (by decide) ?_
          refine lv_isub hx hb dX12_lawOf_52 ?_
          refine lv_goto (tgt := 66) hx hb dX12_lawOf_53 (by decide) ?_
          exact wX12_lawOf_66 C ih g y1 y2 y3 y4 y3 (x4 - (1000 : Int32)) hf H locs ls h (lv_sub hl [1, 2, 3, 4, 5] rfl)

set_option maxHeartbeats 4000000 in
set_option maxRecDepth 100000 in
theorem qX12_lawOf {l : Launch} {D : va_G} {cs : Nat → ClassId} {ad : Nat → Nat} {r : Int32} {g' : MS} {g : MS}  {a0 : Int32} {a1 : Int32} (hf : fX12_lawOf g a0 a1 = some (r, g')) : GCon l D cs yX12_lawOf cX12_lawOf 6 (some .int) (rM 3) 0 0 [.ref (ad 48), .int a0, .int a1] (MW cs ad g) (some (.int r)) (MW cs ad g') := by
  refine GCon.of (by decide) (Nat.le_of_ble_eq_true rfl) ?_
  intro p e s m args below meth c A ls H locs C h hl
  have hx := C.1
  have hb := C.2.1
  have C : MCx p s m args meth c A RX12 cX12_lawOf 6 (some .int) D cs := C
  have hl : lv_has ls 6 [(0, .ref (ad 48)), (1, .int a0), (2, .int a1)] := hl
  unfold fX12_lawOf at hf
  refine lv_iconst (v := (0 : Int32)) hx hb dX12_lawOf_0 (by decide) ?_
  refine lv_istore_n (lv' := [(3, .int (0 : Int32)), (0, .ref (ad 48)), (1, .int a0), (2, .int a1)]) hx hb dX12_lawOf_1 rfl hl (by decide) rfl (fun ls hl => ?_)
  refine lv_iconst (v := (0 : Int32)) hx hb dX12_lawOf_2 (by decide) ?_
  refine lv_istore (lv' := [(4, .int (0 : Int32)), (3, .int (0 : Int32)), (0, .ref (ad 48)), (1, .int a0), (2, .int a1)]) hx hb dX12_lawOf_3 hl (by decide) rfl (fun ls hl => ?_)
  exact wX12_lawOf_5 C fuel g a0 a1 (0 : Int32) (0 : Int32) hf H locs ls h (lv_sub hl [2, 3, 4, 1, 0] rfl)

set_option maxHeartbeats 4000000 in
set_option maxRecDepth 100000 in
theorem qX12_asks {l : Launch} {D : va_G} {cs : Nat → ClassId} {ad : Nat → Nat} {g' : MS} {g : MS}  {a0 : Int32} {a1 : Int32} {a2 : Int32} (hf : fX12_asks g a0 a1 a2 = some g') : GCon l D cs yX12_asks cX12_asks 4 none (rM 0) 0 0 [.ref (ad 48), .int a0, .int a1, .int a2] (MW cs ad g) none (MW cs ad g') := by
  refine GCon.of (by decide) (Nat.le_of_ble_eq_true rfl) ?_
  intro p e s m args below meth c A ls H locs C h hl
  have hx := C.1
  have hb := C.2.1
  have C : MCx p s m args meth c A RX12 cX12_asks 4 none D cs := C
  have hl : lv_has ls 4 [(0, .ref (ad 48)), (1, .int a0), (2, .int a1), (3, .int a2)] := hl
  unfold fX12_asks at hf
  refine lv_aload_n hx hb dX12_asks_0 rfl (lv_at hl 0 rfl) ?_
  refine mg_20 C h dX12_asks_1 ?_
  refine lv_iconst (v := (0 : Int32)) hx hb dX12_asks_4 (by decide) ?_
  refine lv_iload_n hx hb dX12_asks_5 rfl (lv_at hl 1 rfl) ?_
  replace hf := chk_some hf
  obtain ⟨hq, hf⟩ := hf
  replace hf := bnd_ex hf
  obtain ⟨g1, eg1, hf⟩ := hf
  refine ms_20 C h hq dX12_asks_6 (fun H locs h => ?_)
  rw [← eg1] at h
  clear hq eg1
  refine lv_aload_n hx hb dX12_asks_7 rfl (lv_at hl 0 rfl) ?_
  refine mg_20 C h dX12_asks_8 ?_
  refine lv_iconst (v := (1 : Int32)) hx hb dX12_asks_11 (by decide) ?_
  refine lv_aload_n hx hb dX12_asks_12 rfl (lv_at hl 0 rfl) ?_
  refine mg_0 C h dX12_asks_13 ?_
  refine lv_bipush (v := (12 : Int32)) hx hb dX12_asks_16 (by decide) ?_
  refine lv_iload_n hx hb dX12_asks_18 rfl (lv_at hl 1 rfl) ?_
  refine lv_iadd hx hb dX12_asks_19 ?_
  replace hf := chk_some hf
  obtain ⟨hq, hf⟩ := hf
  refine ml_0 C h hq dX12_asks_20 ?_
  clear hq
  replace hf := chk_some hf
  obtain ⟨hq, hf⟩ := hf
  replace hf := bnd_ex hf
  obtain ⟨g2, eg2, hf⟩ := hf
  refine ms_20 C h hq dX12_asks_21 (fun H locs h => ?_)
  rw [← eg2] at h
  clear hq eg2
  refine lv_aload_n hx hb dX12_asks_22 rfl (lv_at hl 0 rfl) ?_
  refine mg_20 C h dX12_asks_23 ?_
  refine lv_iconst (v := (2 : Int32)) hx hb dX12_asks_26 (by decide) ?_
  refine lv_iload_n hx hb dX12_asks_27 rfl (lv_at hl 2 rfl) ?_
  replace hf := chk_some hf
  obtain ⟨hq, hf⟩ := hf
  replace hf := bnd_ex hf
  obtain ⟨g3, eg3, hf⟩ := hf
  refine ms_20 C h hq dX12_asks_28 (fun H locs h => ?_)
  rw [← eg3] at h
  clear hq eg3
  refine lv_aload_n hx hb dX12_asks_29 rfl (lv_at hl 0 rfl) ?_
  refine mg_20 C h dX12_asks_30 ?_
  refine lv_iconst (v := (3 : Int32)) hx hb dX12_asks_33 (by decide) ?_
  refine lv_iload_n hx hb dX12_asks_34 rfl (lv_at hl 3 rfl) ?_
  replace hf := chk_some hf
  obtain ⟨hq, hf⟩ := hf
  replace hf := bnd_ex hf
  obtain ⟨g4, eg4, hf⟩ := hf
  refine ms_20 C h hq dX12_asks_35 (fun H locs h => ?_)
  rw [← eg4] at h
  clear hq eg4
  cases hf
  exact m_vret C h dX12_asks_36

set_option maxHeartbeats 4000000 in
set_option maxRecDepth 100000 in
theorem qX12_apart {l : Launch} {D : va_G} {cs : Nat → ClassId} {ad : Nat → Nat} {r : Int32} {g' : MS} {g : MS}  {a0 : Int32} {a1 : Int32} (hf : fX12_apart g a0 a1 = some (r, g')) : GCon l D cs yX12_apart cX12_apart 4 (some .int) (rM 1) 0 0 [.ref (ad 48), .int a0, .int a1] (MW cs ad g) (some (.int r)) (MW cs ad g') := by
  refine GCon.of (by decide) (Nat.le_of_ble_eq_true rfl) ?_
  intro p e s m args below meth c A ls H locs C h hl
  have hx := C.1
  have hb := C.2.1
  have C : MCx p s m args meth c A RX12 cX12_apart 4 (some .int) D cs := C
  have hl : lv_has ls 4 [(0, .ref (ad 48)), (1, .int a0), (2, .int a1)] := hl
  unfold fX12_apart at hf
  refine lv_iload_n hx hb dX12_apart_0 rfl (lv_at hl 1 rfl) ?_
  refine lv_iload_n hx hb dX12_apart_1 rfl (lv_at hl 2 rfl) ?_
  refine lv_isub hx hb dX12_apart_2 ?_
  refine x_abs tb_33_4 C hl.1 (Nat.le_of_ble_eq_true rfl) (Nat.le_of_ble_eq_true rfl) (Nat.le_refl _) (Nat.le_refl _) dX12_apart_3 ?_
  refine lv_topi (fun x1 ex1 => ?_)
  replace hf := bnd_at ex1 hf
  clear ex1
  refine lv_istore_n (lv' := [(3, .int x1), (0, .ref (ad 48)), (1, .int a0), (2, .int a1)]) hx hb dX12_apart_6 rfl hl (by decide) rfl (fun ls hl => ?_)
  refine lv_iload_n hx hb dX12_apart_7 rfl (lv_at hl 0 rfl) ?_
  refine lv_aload_n hx hb dX12_apart_8 rfl (lv_at hl 1 rfl) ?_
  replace hf := bndc_some hf
  obtain ⟨x2, g3, hc, hf⟩ := hf
  refine m_callVi [] C h cv_X12_254 (qX12_size hc) rfl ⟨rfl, rfl⟩ ⟨Nat.le_of_ble_eq_true rfl, Nat.le_of_ble_eq_true rfl⟩ (m_recv C h) hl.1 rfl (Nat.le_of_ble_eq_true rfl) ⟨Nat.le_refl _, Nat.le_refl _⟩ dX12_apart_9 (fun H locs h => ?_)
  clear hc
  refine lv_iload_n hx hb dX12_apart_12 rfl (lv_at hl 0 rfl) ?_
  refine lv_isub hx hb dX12_apart_13 ?_
  refine x_min tb_29_20 C hl.1 (Nat.le_of_ble_eq_true rfl) (Nat.le_of_ble_eq_true rfl) (Nat.le_refl _) (Nat.le_refl _) dX12_apart_14 ?_
  cases hf
  exact m_iret C h dX12_apart_17

set_option maxHeartbeats 4000000 in
set_option maxRecDepth 100000 in
theorem qX12_goesAlong {l : Launch} {D : va_G} {cs : Nat → ClassId} {ad : Nat → Nat} {r : Int32} {g' : MS} {g : MS}  {a0 : Int32} {a1 : Int32} (hf : fX12_goesAlong g a0 a1 = some (r, g')) : GCon l D cs yX12_goesAlong cX12_goesAlong 3 (some .boolean) (rM 4) 0 0 [.ref (ad 48), .int a0, .int a1] (MW cs ad g) (some (.int r)) (MW cs ad g') := by
  refine GCon.of (by decide) (Nat.le_of_ble_eq_true rfl) ?_
  intro p e s m args below meth c A ls H locs C h hl
  have hx := C.1
  have hb := C.2.1
  have C : MCx p s m args meth c A RX12 cX12_goesAlong 3 (some .boolean) D cs := C
  have hl : lv_has ls 3 [(0, .ref (ad 48)), (1, .int a0), (2, .int a1)] := hl
  unfold fX12_goesAlong at hf
  refine lv_aload_n hx hb dX12_goesAlong_0 rfl (lv_at hl 0 rfl) ?_
  refine lv_iload_n hx hb dX12_goesAlong_1 rfl (lv_at hl 1 rfl) ?_
  replace hf := bndc_some hf
  obtain ⟨x1, g2, hc, hf⟩ := hf
  refine m_callVi [.int a0] C h cv_X12_287 (qX12_isStuck hc) rfl ⟨rfl, rfl⟩ ⟨Nat.le_of_ble_eq_true rfl, Nat.le_of_ble_eq_true rfl⟩ (m_recv C h) hl.1 rfl (Nat.le_of_ble_eq_true rfl) ⟨Nat.le_refl _, Nat.le_refl _⟩ dX12_goesAlong_2 (fun H locs h => ?_)
  clear hc
  refine lv_if_ne (tgt := 16) hx hb dX12_goesAlong_5 (by decide) (fun hq => ?_) (fun hq => ?_)
  · replace hf := if_tn hq hf
    clear hq
    refine lv_iconst (v := (0 : Int32)) hx hb dX12_goesAlong_16 (by decide) ?_
    cases hf
    exact m_zret C h rfl dX12_goesAlong_17
  · replace hf := if_t hq hf
    clear hq
    refine lv_aload_n hx hb dX12_goesAlong_8 rfl (lv_at hl 0 rfl) ?_
    refine lv_iload_n hx hb dX12_goesAlong_9 rfl (lv_at hl 2 rfl) ?_
    replace hf := bndc_some hf
    obtain ⟨x3, g4, hc, hf⟩ := hf
    refine m_callVi [.int a1] C h cv_X12_287 (qX12_isStuck hc) rfl ⟨rfl, rfl⟩ ⟨Nat.le_of_ble_eq_true rfl, Nat.le_of_ble_eq_true rfl⟩ (m_recv C h) hl.1 rfl (Nat.le_of_ble_eq_true rfl) ⟨Nat.le_refl _, Nat.le_refl _⟩ dX12_goesAlong_10 (fun H locs h => ?_)
    clear hc
    refine lv_if_eq (tgt := 18) hx hb dX12_goesAlong_13 (by decide) (fun hq => ?_) (fun hq => ?_)
    · replace hf := if_t hq hf
      clear hq
      refine lv_iload_n hx hb dX12_goesAlong_18 rfl (lv_at hl 1 rfl) ?_
      refine lv_iload_n hx hb dX12_goesAlong_19 rfl (lv_at hl 2 rfl) ?_
      refine lv_icmp_ne (tgt := 25) hx hb dX12_goesAlong_20 (by decide) (fun hq => ?_) (fun hq => ?_)
      · replace hf := if_tn hq hf
        clear hq
        refine lv_aload_n hx hb dX12_goesAlong_25 rfl (lv_at hl 0 rfl) ?_
        refine mg_0 C h dX12_goesAlong_26 ?_
        refine lv_iconst (v := (2 : Int32)) hx hb dX12_goesAlong_29 (by decide) ?_
        replace hf := chk_some hf
        obtain ⟨hq, hf⟩ := hf
        refine ml_0 C h hq dX12_goesAlong_30 ?_
        clear hq
        refine lv_if_ne (tgt := 36) hx hb dX12_goesAlong_31 (by decide) (fun hq => ?_) (fun hq => ?_)
        · replace hf := if_tn hq hf
          clear hq
          refine lv_aload_n hx hb dX12_goesAlong_36 rfl (lv_at hl 0 rfl) ?_
          refine lv_iload_n hx hb dX12_goesAlong_37 rfl (lv_at hl 1 rfl) ?_
          refine lv_iload_n hx hb dX12_goesAlong_38 rfl (lv_at hl 2 rfl) ?_
          refine lv_aload_n hx hb dX12_goesAlong_39 rfl (lv_at hl 0 rfl) ?_
          refine lv_iload_n hx hb dX12_goesAlong_40 rfl (lv_at hl 1 rfl) ?_
          refine lv_iload_n hx hb dX12_goesAlong_41 rfl (lv_at hl 2 rfl) ?_
          replace hf := bndc_some hf
          obtain ⟨x5, g6, hc, hf⟩ := hf
          refine m_callVi [.int a0, .int a1] C h cv_X12_290 (qX12_apart hc) rfl ⟨rfl, rfl⟩ ⟨Nat.le_of_ble_eq_true rfl, Nat.le_of_ble_eq_true rfl⟩ (m_recv C h) hl.1 rfl (Nat.le_of_ble_eq_true rfl) ⟨Nat.le_refl _, Nat.le_refl _⟩ dX12_goesAlong_42 (fun H locs h => ?_)
          clear hc
          replace hf := bndv_some hf
          obtain ⟨g7, hc, hf⟩ := hf
          refine m_callVv [.int a0, .int a1, .int x5] C h cv_X12_292 (qX12_asks hc) rfl ⟨rfl, rfl⟩ ⟨Nat.le_of_ble_eq_true rfl, Nat.le_of_ble_eq_true rfl⟩ (m_recv C h) hl.1 rfl (Nat.le_of_ble_eq_true rfl) ⟨Nat.le_refl _, Nat.le_refl _⟩ dX12_goesAlong_45 (fun H locs h => ?_)
          clear hc
          refine lv_aload_n hx hb dX12_goesAlong_48 rfl (lv_at hl 0 rfl) ?_
          refine lv_iconst (v := (2 : Int32)) hx hb dX12_goesAlong_49 (by decide) ?_
          refine lv_sipush (v := (149 : Int32)) hx hb dX12_goesAlong_50 (by decide) ?_
          replace hf := bndc_some hf
          obtain ⟨x8, g9, hc, hf⟩ := hf
          refine m_callVi [.int (2 : Int32), .int (149 : Int32)] C h cv_X12_296 (qX12_lawOf hc) rfl ⟨rfl, rfl⟩ ⟨Nat.le_of_ble_eq_true rfl, Nat.le_of_ble_eq_true rfl⟩ (m_recv C h) hl.1 rfl (Nat.le_of_ble_eq_true rfl) ⟨Nat.le_refl _, Nat.le_refl _⟩ dX12_goesAlong_53 (fun H locs h => ?_)
          clear hc
          refine lv_iconst (v := (1 : Int32)) hx hb dX12_goesAlong_56 (by decide) ?_
          refine lv_icmp_ne (tgt := 64) hx hb dX12_goesAlong_57 (by decide) (fun hq => ?_) (fun hq => ?_)
          · replace hf := if_tn hq hf
            clear hq
            refine lv_iconst (v := (0 : Int32)) hx hb dX12_goesAlong_64 (by decide) ?_
            cases hf
            exact m_zret C h rfl dX12_goesAlong_65
          · replace hf := if_t hq hf
            clear hq
            refine lv_iconst (v := (1 : Int32)) hx hb dX12_goesAlong_60 (by decide) ?_
            refine lv_goto (tgt := 65) hx hb dX12_goesAlong_61 (by decide) ?_
            cases hf
            exact m_zret C h rfl dX12_goesAlong_65
        · replace hf := if_t hq hf
          clear hq
          refine lv_iconst (v := (0 : Int32)) hx hb dX12_goesAlong_34 (by decide) ?_
          cases hf
          exact m_zret C h rfl dX12_goesAlong_35
      · replace hf := if_t hq hf
        clear hq
        refine lv_iconst (v := (1 : Int32)) hx hb dX12_goesAlong_23 (by decide) ?_
        cases hf
        exact m_zret C h rfl dX12_goesAlong_24
    · replace hf := if_f hq hf
      clear hq
      refine lv_iconst (v := (0 : Int32)) hx hb dX12_goesAlong_16 (by decide) ?_
      cases hf
      exact m_zret C h rfl dX12_goesAlong_17

set_option maxHeartbeats 4000000 in
set_option maxRecDepth 100000 in
theorem wX12_draggedBy_29 (C : MCx p s m args meth c A RX12 cX12_draggedBy 4 (some .int) D cs)  {r : Int32} {g' : MS}  {k4 : MS → Int32 → Int32 → Int32 → Option (Int32 × MS)} (hk4 : ∀ (g : MS) (y1 : Int32) (y2 : Int32) (y3 : Int32), k4 g y1 y2 y3 = some (r, g') → ∀ (H : Heap) (locs : List Loc) (ls : Array Slot), MH D (MW cs ad g) A s H locs → lv_has ls 4 [(0, .ref (ad 48)), (1, .int y1), (2, .int y2), (3, .int y3)] → W p l e (rM 5) s m args below meth c H locs 0 0 (MQ below (GPost D (some (.int r)) (MW cs ad g') A) args s 0 0 A) (F0 m 4 ls [])) : ∀ (g : MS) (y1 : Int32) (y3 : Int32) (t0 : Int32) (t1 : Int32), fX12_draggedBy_29 k4 g y1 y3 t0 t1 = some (r, g') → ∀ (H : Heap) (locs : List Loc) (ls : Array Slot), MH D (MW cs ad g) A s H locs → lv_has ls 4 [(0, .ref (ad 48)), (1, .int y1), (3, .int y3)] → W p l e (rM 5) s m args below meth c H locs 0 0 (MQ below (GPost D (some (.int r)) (MW cs ad g') A) args s 0 0 A) (F0 m 29 ls [.int t1, .int t0]) := by
  have hx := C.1
  have hb := C.2.1
  intro g y1 y3 t0 t1 hf H locs ls h hl
  unfold fX12_draggedBy_29 at hf
  refine lv_ior hx hb dX12_draggedBy_29 ?_
  refine lv_topi (fun x1 ex1 => ?_)
  replace hf := bnd_at ex1 hf
  clear ex1
  refine lv_istore_n (lv' := [(2, .int x1), (0, .ref (ad 48)), (1, .int y1), (3, .int y3)]) hx hb dX12_draggedBy_30 rfl hl (by decide) rfl (fun ls hl => ?_)
  obtain ⟨x2, ex2⟩ : ∃ z : Int32, z = y3 + (1 : Int32) := ⟨_, rfl⟩
  replace hf := bnd_at ex2 hf
  refine lv_iinc (v := x2) (lv' := [(3, .int x2), (2, .int x1), (0, .ref (ad 48)), (1, .int y1)]) hx hb dX12_draggedBy_31 hl (k := 3) rfl (by rw [ex2]; rfl) (by decide) rfl (fun ls hl => ?_)
  clear ex2
  refine lv_goto (tgt := 4) hx hb dX12_draggedBy_34 (by decide) ?_
  exact hk4 g y1 x1 x2 hf H locs ls h (lv_sub hl [2, 3, 1, 0] rfl)

set_option maxHeartbeats 4000000 in
set_option maxRecDepth 100000 in
theorem wX12_draggedBy_4 (C : MCx p s m args meth c A RX12 cX12_draggedBy 4 (some .int) D cs)  {r : Int32} {g' : MS}  : ∀ (n : Nat) (g : MS) (y1 : Int32) (y2 : Int32) (y3 : Int32), fX12_draggedBy_4 n g y1 y2 y3 = some (r, g') → ∀ (H : Heap) (locs : List Loc) (ls : Array Slot), MH D (MW cs ad g) A s H locs → lv_has ls 4 [(0, .ref (ad 48)), (1, .int y1), (2, .int y2), (3, .int y3)] → W p l e (rM 5) s m args below meth c H locs 0 0 (MQ below (GPost D (some (.int r)) (MW cs ad g') A) args s 0 0 A) (F0 m 4 ls []) := by
  have hx := C.1
  have hb := C.2.1
  intro n
  induction n with
  | zero =>
    intro g y1 y2 y3 hf
    exact absurd hf (by simp [fX12_draggedBy_4])
  | succ n ih =>
    intro g y1 y2 y3 hf H locs ls h hl
    rw [fX12_draggedBy_4] at hf
    refine lv_iload_n hx hb dX12_draggedBy_4 rfl (lv_at hl 3 rfl) ?_
    refine lv_aload_n hx hb dX12_draggedBy_5 rfl (lv_at hl 0 rfl) ?_
    replace hf := bndc_some hf
    obtain ⟨x3, g4, hc, hf⟩ := hf
    refine m_callVi [] C h cv_X12_254 (qX12_size hc) rfl ⟨rfl, rfl⟩ ⟨Nat.le_of_ble_eq_true rfl, Nat.le_of_ble_eq_true rfl⟩ (m_recv C h) hl.1 rfl (Nat.le_of_ble_eq_true rfl) ⟨Nat.le_refl _, Nat.le_refl _⟩ dX12_draggedBy_6 (fun H locs h => ?_)
    clear hc
    refine lv_icmp_ge (tgt := 37) hx hb dX12_draggedBy_9 (by decide) (fun hq => ?_) (fun hq => ?_)
    · replace hf := if_t hq hf
      clear hq
      refine lv_iload_n hx hb dX12_draggedBy_37 rfl (lv_at hl 2 rfl) ?_
      cases hf
      exact m_iret C h dX12_draggedBy_38
    · replace hf := if_f hq hf
      clear hq
      refine lv_iload_n hx hb dX12_draggedBy_12 rfl (lv_at hl 2 rfl) ?_
      refine lv_aload_n hx hb dX12_draggedBy_13 rfl (lv_at hl 0 rfl) ?_
      refine lv_iload_n hx hb dX12_draggedBy_14 rfl (lv_at hl 1 rfl) ?_
      refine lv_iload_n hx hb dX12_draggedBy_15 rfl (lv_at hl 3 rfl) ?_
      replace hf := bndc_some hf
      obtain ⟨x5, g6, hc, hf⟩ := hf
      refine m_callVi [.int y1, .int y3] C h cv_X12_299 (qX12_goesAlong hc) rfl ⟨rfl, rfl⟩ ⟨Nat.le_of_ble_eq_true rfl, Nat.le_of_ble_eq_true rfl⟩ (m_recv C h) hl.1 rfl (Nat.le_of_ble_eq_true rfl) ⟨Nat.le_refl _, Nat.le_refl _⟩ dX12_draggedBy_16 (fun H locs h => ?_)
      clear hc
      refine lv_if_eq (tgt := 28) hx hb dX12_draggedBy_19 (by decide) (fun hq => ?_) (fun hq => ?_)
      · replace hf := if_t hq hf
        clear hq
        refine lv_iconst (v := (0 : Int32)) hx hb dX12_draggedBy_28 (by decide) ?_
        exact wX12_draggedBy_29 C ih g6 y1 y3 y2 (0 : Int32) hf H locs ls h (lv_sub hl [0, 1, 3] rfl)
      · replace hf := if_f hq hf
        clear hq
        refine lv_iconst (v := (1 : Int32)) hx hb dX12_draggedBy_22 (by decide) ?_
        refine lv_iload_n hx hb dX12_draggedBy_23 rfl (lv_at hl 3 rfl) ?_
        refine x_ishl hx hb dX12_draggedBy_24 ?_
        refine lv_goto (tgt := 29) hx hb dX12_draggedBy_25 (by decide) ?_
        exact wX12_draggedBy_29 C ih g6 y1 y3 y2 (jshl (1 : Int32) y3) hf H locs ls h (lv_sub hl [0, 1, 3] rfl)

set_option maxHeartbeats 4000000 in
set_option maxRecDepth 100000 in
theorem qX12_draggedBy {l : Launch} {D : va_G} {cs : Nat → ClassId} {ad : Nat → Nat} {r : Int32} {g' : MS} {g : MS}  {a0 : Int32} (hf : fX12_draggedBy g a0 = some (r, g')) : GCon l D cs yX12_draggedBy cX12_draggedBy 4 (some .int) (rM 5) 0 0 [.ref (ad 48), .int a0] (MW cs ad g) (some (.int r)) (MW cs ad g') := by
  refine GCon.of (by decide) (Nat.le_of_ble_eq_true rfl) ?_
  intro p e s m args below meth c A ls H locs C h hl
  have hx := C.1
  have hb := C.2.1
  have C : MCx p s m args meth c A RX12 cX12_draggedBy 4 (some .int) D cs := C
  have hl : lv_has ls 4 [(0, .ref (ad 48)), (1, .int a0)] := hl
  unfold fX12_draggedBy at hf
  refine lv_iconst (v := (0 : Int32)) hx hb dX12_draggedBy_0 (by decide) ?_
  refine lv_istore_n (lv' := [(2, .int (0 : Int32)), (0, .ref (ad 48)), (1, .int a0)]) hx hb dX12_draggedBy_1 rfl hl (by decide) rfl (fun ls hl => ?_)
  refine lv_iconst (v := (0 : Int32)) hx hb dX12_draggedBy_2 (by decide) ?_
  refine lv_istore_n (lv' := [(3, .int (0 : Int32)), (2, .int (0 : Int32)), (0, .ref (ad 48)), (1, .int a0)]) hx hb dX12_draggedBy_3 rfl hl (by decide) rfl (fun ls hl => ?_)
  exact wX12_draggedBy_4 C fuel g a0 (0 : Int32) (0 : Int32) hf H locs ls h (lv_sub hl [2, 3, 1, 0] rfl)

set_option maxHeartbeats 4000000 in
set_option maxRecDepth 100000 in
theorem qX12_notchCosts {l : Launch} {D : va_G} {cs : Nat → ClassId} {ad : Nat → Nat} {r : Int32} {g' : MS} {g : MS}  {a0 : Int32} (hf : fX12_notchCosts g a0 = some (r, g')) : GCon l D cs yX12_notchCosts cX12_notchCosts 2 (some .int) (rM 4) 0 0 [.ref (ad 48), .int a0] (MW cs ad g) (some (.int r)) (MW cs ad g') := by
  refine GCon.of (by decide) (Nat.le_of_ble_eq_true rfl) ?_
  intro p e s m args below meth c A ls H locs C h hl
  have hx := C.1
  have hb := C.2.1
  have C : MCx p s m args meth c A RX12 cX12_notchCosts 2 (some .int) D cs := C
  have hl : lv_has ls 2 [(0, .ref (ad 48)), (1, .int a0)] := hl
  unfold fX12_notchCosts at hf
  refine lv_aload_n hx hb dX12_notchCosts_0 rfl (lv_at hl 0 rfl) ?_
  refine mg_0 C h dX12_notchCosts_1 ?_
  refine lv_iconst (v := (3 : Int32)) hx hb dX12_notchCosts_4 (by decide) ?_
  replace hf := chk_some hf
  obtain ⟨hq, hf⟩ := hf
  refine ml_0 C h hq dX12_notchCosts_5 ?_
  clear hq
  refine lv_if_ne (tgt := 11) hx hb dX12_notchCosts_6 (by decide) (fun hq => ?_) (fun hq => ?_)
  · replace hf := if_tn hq hf
    clear hq
    refine lv_aload_n hx hb dX12_notchCosts_11 rfl (lv_at hl 0 rfl) ?_
    refine lv_iload_n hx hb dX12_notchCosts_12 rfl (lv_at hl 1 rfl) ?_
    refine lv_iconst (v := (0 : Int32)) hx hb dX12_notchCosts_13 (by decide) ?_
    refine lv_iconst (v := (0 : Int32)) hx hb dX12_notchCosts_14 (by decide) ?_
    replace hf := bndv_some hf
    obtain ⟨g1, hc, hf⟩ := hf
    refine m_callVv [.int a0, .int (0 : Int32), .int (0 : Int32)] C h cv_X12_292 (qX12_asks hc) rfl ⟨rfl, rfl⟩ ⟨Nat.le_of_ble_eq_true rfl, Nat.le_of_ble_eq_true rfl⟩ (m_recv C h) hl.1 rfl (Nat.le_of_ble_eq_true rfl) ⟨Nat.le_refl _, Nat.le_refl _⟩ dX12_notchCosts_15 (fun H locs h => ?_)
    clear hc
    refine lv_iconst (v := (1 : Int32)) hx hb dX12_notchCosts_18 (by decide) ?_
    refine lv_bipush (v := (99 : Int32)) hx hb dX12_notchCosts_19 (by decide) ?_
    refine lv_aload_n hx hb dX12_notchCosts_21 rfl (lv_at hl 0 rfl) ?_
    refine lv_iconst (v := (3 : Int32)) hx hb dX12_notchCosts_22 (by decide) ?_
    refine lv_sipush (v := (1049 : Int32)) hx hb dX12_notchCosts_23 (by decide) ?_
    replace hf := bndc_some hf
    obtain ⟨x2, g3, hc, hf⟩ := hf
    refine m_callVi [.int (3 : Int32), .int (1049 : Int32)] C h cv_X12_296 (qX12_lawOf hc) rfl ⟨rfl, rfl⟩ ⟨Nat.le_of_ble_eq_true rfl, Nat.le_of_ble_eq_true rfl⟩ (m_recv C h) hl.1 rfl (Nat.le_of_ble_eq_true rfl) ⟨Nat.le_refl _, Nat.le_refl _⟩ dX12_notchCosts_26 (fun H locs h => ?_)
    clear hc
    refine x_min tb_29_20 C hl.1 (Nat.le_of_ble_eq_true rfl) (Nat.le_of_ble_eq_true rfl) (Nat.le_refl _) (Nat.le_refl _) dX12_notchCosts_29 ?_
    refine x_max tb_29_21 C hl.1 (Nat.le_of_ble_eq_true rfl) (Nat.le_of_ble_eq_true rfl) (Nat.le_refl _) (Nat.le_refl _) dX12_notchCosts_32 ?_
    cases hf
    exact m_iret C h dX12_notchCosts_35
  · replace hf := if_t hq hf
    clear hq
    refine lv_iconst (v := (1 : Int32)) hx hb dX12_notchCosts_9 (by decide) ?_
    cases hf
    exact m_iret C h dX12_notchCosts_10

set_option maxHeartbeats 4000000 in
set_option maxRecDepth 100000 in
theorem wX12_aimsNow_2 (C : MCx p s m args meth c A RX12 cX12_aimsNow 2 none D cs)  {g' : MS}  : ∀ (n : Nat) (g : MS) (y1 : Int32), fX12_aimsNow_2 n g y1 = some g' → ∀ (H : Heap) (locs : List Loc) (ls : Array Slot), MH D (MW cs ad g) A s H locs → lv_has ls 2 [(0, .ref (ad 48)), (1, .int y1)] → W p l e (rM 1) s m args below meth c H locs 0 0 (MQ below (GPost D none (MW cs ad g') A) args s 0 0 A) (F0 m 2 ls []) := by
  have hx := C.1
  have hb := C.2.1
  intro n
  induction n with
  | zero =>
    intro g y1 hf
    exact absurd hf (by simp [fX12_aimsNow_2])
  | succ n ih =>
    intro g y1 hf H locs ls h hl
    rw [fX12_aimsNow_2] at hf
    refine lv_iload_n hx hb dX12_aimsNow_2 rfl (lv_at hl 1 rfl) ?_
    refine lv_aload_n hx hb dX12_aimsNow_3 rfl (lv_at hl 0 rfl) ?_
    replace hf := bndc_some hf
    obtain ⟨x1, g2, hc, hf⟩ := hf
    refine m_callVi [] C h cv_X12_254 (qX12_size hc) rfl ⟨rfl, rfl⟩ ⟨Nat.le_of_ble_eq_true rfl, Nat.le_of_ble_eq_true rfl⟩ (m_recv C h) hl.1 rfl (Nat.le_of_ble_eq_true rfl) ⟨Nat.le_refl _, Nat.le_refl _⟩ dX12_aimsNow_4 (fun H locs h => ?_)
    clear hc
    refine lv_icmp_ge (tgt := 31) hx hb dX12_aimsNow_7 (by decide) (fun hq => ?_) (fun hq => ?_)
    · replace hf := if_t hq hf
      clear hq
      cases hf
      exact m_vret C h dX12_aimsNow_31
    · replace hf := if_f hq hf
      clear hq
      refine lv_aload_n hx hb dX12_aimsNow_10 rfl (lv_at hl 0 rfl) ?_
      refine mg_21 C h dX12_aimsNow_11 ?_
      refine lv_iload_n hx hb dX12_aimsNow_14 rfl (lv_at hl 1 rfl) ?_
      refine lv_aload_n hx hb dX12_aimsNow_15 rfl (lv_at hl 0 rfl) ?_
      refine mg_0 C h dX12_aimsNow_16 ?_
      refine lv_bipush (v := (6 : Int32)) hx hb dX12_aimsNow_19 (by decide) ?_
      refine lv_iload_n hx hb dX12_aimsNow_21 rfl (lv_at hl 1 rfl) ?_
      refine lv_iadd hx hb dX12_aimsNow_22 ?_
      replace hf := chk_some hf
      obtain ⟨hq, hf⟩ := hf
      refine ml_0 C h hq dX12_aimsNow_23 ?_
      clear hq
      replace hf := chk_some hf
      obtain ⟨hq, hf⟩ := hf
      replace hf := bnd_ex hf
      obtain ⟨g3, eg3, hf⟩ := hf
      refine ms_21 C h hq dX12_aimsNow_24 (fun H locs h => ?_)
      rw [← eg3] at h
      clear hq eg3
      obtain ⟨x4, ex4⟩ : ∃ z : Int32, z = y1 + (1 : Int32) := ⟨_, rfl⟩
      replace hf := bnd_at ex4 hf
      refine lv_iinc (v := x4) (lv' := [(1, .int x4), (0, .ref (ad 48))]) hx hb dX12_aimsNow_25 hl (k := 1) rfl (by rw [ex4]; rfl) (by decide) rfl (fun ls hl => ?_)
      clear ex4
      refine lv_goto (tgt := 2) hx hb dX12_aimsNow_28 (by decide) ?_
      exact ih g3 x4 hf H locs ls h (lv_sub hl [1, 0] rfl)

set_option maxHeartbeats 4000000 in
set_option maxRecDepth 100000 in
theorem qX12_aimsNow {l : Launch} {D : va_G} {cs : Nat → ClassId} {ad : Nat → Nat} {g' : MS} {g : MS}  (hf : fX12_aimsNow g = some g') : GCon l D cs yX12_aimsNow cX12_aimsNow 2 none (rM 1) 0 0 [.ref (ad 48)] (MW cs ad g) none (MW cs ad g') := by
  refine GCon.of (by decide) (Nat.le_of_ble_eq_true rfl) ?_
  intro p e s m args below meth c A ls H locs C h hl
  have hx := C.1
  have hb := C.2.1
  have C : MCx p s m args meth c A RX12 cX12_aimsNow 2 none D cs := C
  have hl : lv_has ls 2 [(0, .ref (ad 48))] := hl
  unfold fX12_aimsNow at hf
  refine lv_iconst (v := (0 : Int32)) hx hb dX12_aimsNow_0 (by decide) ?_
  refine lv_istore_n (lv' := [(1, .int (0 : Int32)), (0, .ref (ad 48))]) hx hb dX12_aimsNow_1 rfl hl (by decide) rfl (fun ls hl => ?_)
  exact wX12_aimsNow_2 C fuel g (0 : Int32) hf H locs ls h (lv_sub hl [1, 0] rfl)

set_option maxHeartbeats 4000000 in
set_option maxRecDepth 100000 in
theorem qX12_faced {l : Launch} {D : va_G} {cs : Nat → ClassId} {ad : Nat → Nat} {r : Int32} {g' : MS} {g : MS}  {a0 : Int32} (hf : fX12_faced g a0 = some (r, g')) : GCon l D cs yX12_faced cX12_faced 2 (some .int) (rM 1) 0 0 [.ref (ad 48), .int a0] (MW cs ad g) (some (.int r)) (MW cs ad g') := by
  refine GCon.of (by decide) (Nat.le_of_ble_eq_true rfl) ?_
  intro p e s m args below meth c A ls H locs C h hl
  have hx := C.1
  have hb := C.2.1
  have C : MCx p s m args meth c A RX12 cX12_faced 2 (some .int) D cs := C
  have hl : lv_has ls 2 [(0, .ref (ad 48)), (1, .int a0)] := hl
  unfold fX12_faced at hf
  refine lv_aload_n hx hb dX12_faced_0 rfl (lv_at hl 0 rfl) ?_
  refine mg_21 C h dX12_faced_1 ?_
  refine lv_iload_n hx hb dX12_faced_4 rfl (lv_at hl 1 rfl) ?_
  replace hf := chk_some hf
  obtain ⟨hq, hf⟩ := hf
  refine ml_21 C h hq dX12_faced_5 ?_
  clear hq
  refine lv_if_ne (tgt := 13) hx hb dX12_faced_6 (by decide) (fun hq => ?_) (fun hq => ?_)
  · replace hf := if_tn hq hf
    clear hq
    refine lv_iload_n hx hb dX12_faced_13 rfl (lv_at hl 1 rfl) ?_
    refine lv_aload_n hx hb dX12_faced_14 rfl (lv_at hl 0 rfl) ?_
    refine mg_21 C h dX12_faced_15 ?_
    refine lv_iload_n hx hb dX12_faced_18 rfl (lv_at hl 1 rfl) ?_
    replace hf := chk_some hf
    obtain ⟨hq, hf⟩ := hf
    refine ml_21 C h hq dX12_faced_19 ?_
    clear hq
    refine lv_iadd hx hb dX12_faced_20 ?_
    refine lv_aload_n hx hb dX12_faced_21 rfl (lv_at hl 0 rfl) ?_
    replace hf := bndc_some hf
    obtain ⟨x1, g2, hc, hf⟩ := hf
    refine m_callVi [] C h cv_X12_254 (qX12_size hc) rfl ⟨rfl, rfl⟩ ⟨Nat.le_of_ble_eq_true rfl, Nat.le_of_ble_eq_true rfl⟩ (m_recv C h) hl.1 rfl (Nat.le_of_ble_eq_true rfl) ⟨Nat.le_refl _, Nat.le_refl _⟩ dX12_faced_22 (fun H locs h => ?_)
    clear hc
    replace hf := chk_some hf
    obtain ⟨hq, hf⟩ := hf
    refine x_irem hx hb dX12_faced_25 (nz_ne hq) ?_
    clear hq
    cases hf
    exact m_iret C h dX12_faced_26
  · replace hf := if_t hq hf
    clear hq
    refine lv_iconst (v := (-1 : Int32)) hx hb dX12_faced_9 (by decide) ?_
    refine lv_goto (tgt := 26) hx hb dX12_faced_10 (by decide) ?_
    cases hf
    exact m_iret C h dX12_faced_26

set_option maxHeartbeats 4000000 in
set_option maxRecDepth 100000 in
theorem wX12_laysVotes_25 (C : MCx p s m args meth c A RX12 cX12_laysVotes 2 none D cs)  {g' : MS}  : ∀ (n : Nat) (g : MS) (y1 : Int32), fX12_laysVotes_25 n g y1 = some g' → ∀ (H : Heap) (locs : List Loc) (ls : Array Slot), MH D (MW cs ad g) A s H locs → lv_has ls 2 [(0, .ref (ad 48)), (1, .int y1)] → W p l e (rM 2) s m args below meth c H locs 0 0 (MQ below (GPost D none (MW cs ad g') A) args s 0 0 A) (F0 m 25 ls []) := by
  have hx := C.1
  have hb := C.2.1
  intro n
  induction n with
  | zero =>
    intro g y1 hf
    exact absurd hf (by simp [fX12_laysVotes_25])
  | succ n ih =>
    intro g y1 hf H locs ls h hl
    rw [fX12_laysVotes_25] at hf
    refine lv_iload_n hx hb dX12_laysVotes_25 rfl (lv_at hl 1 rfl) ?_
    refine lv_aload_n hx hb dX12_laysVotes_26 rfl (lv_at hl 0 rfl) ?_
    replace hf := bndc_some hf
    obtain ⟨x1, g2, hc, hf⟩ := hf
    refine m_callVi [] C h cv_X12_254 (qX12_size hc) rfl ⟨rfl, rfl⟩ ⟨Nat.le_of_ble_eq_true rfl, Nat.le_of_ble_eq_true rfl⟩ (m_recv C h) hl.1 rfl (Nat.le_of_ble_eq_true rfl) ⟨Nat.le_refl _, Nat.le_refl _⟩ dX12_laysVotes_27 (fun H locs h => ?_)
    clear hc
    refine lv_icmp_ge (tgt := 70) hx hb dX12_laysVotes_30 (by decide) (fun hq => ?_) (fun hq => ?_)
    · replace hf := if_t hq hf
      clear hq
      cases hf
      exact m_vret C h dX12_laysVotes_70
    · replace hf := if_f hq hf
      clear hq
      refine lv_aload_n hx hb dX12_laysVotes_33 rfl (lv_at hl 0 rfl) ?_
      refine mg_21 C h dX12_laysVotes_34 ?_
      refine lv_iload_n hx hb dX12_laysVotes_37 rfl (lv_at hl 1 rfl) ?_
      replace hf := chk_some hf
      obtain ⟨hq, hf⟩ := hf
      refine ml_21 C h hq dX12_laysVotes_38 ?_
      clear hq
      refine lv_if_eq (tgt := 64) hx hb dX12_laysVotes_39 (by decide) (fun hq => ?_) (fun hq => ?_)
      · replace hf := if_t hq hf
        clear hq
        obtain ⟨x3, ex3⟩ : ∃ z : Int32, z = y1 + (1 : Int32) := ⟨_, rfl⟩
        replace hf := bnd_at ex3 hf
        refine lv_iinc (v := x3) (lv' := [(1, .int x3), (0, .ref (ad 48))]) hx hb dX12_laysVotes_64 hl (k := 1) rfl (by rw [ex3]; rfl) (by decide) rfl (fun ls hl => ?_)
        clear ex3
        refine lv_goto (tgt := 25) hx hb dX12_laysVotes_67 (by decide) ?_
        exact ih g2 x3 hf H locs ls h (lv_sub hl [1, 0] rfl)
      · replace hf := if_f hq hf
        clear hq
        refine lv_aload_n hx hb dX12_laysVotes_42 rfl (lv_at hl 0 rfl) ?_
        refine mg_22 C h dX12_laysVotes_43 ?_
        refine lv_aload_n hx hb dX12_laysVotes_46 rfl (lv_at hl 0 rfl) ?_
        refine lv_iload_n hx hb dX12_laysVotes_47 rfl (lv_at hl 1 rfl) ?_
        replace hf := bndc_some hf
        obtain ⟨x4, g5, hc, hf⟩ := hf
        refine m_callVi [.int y1] C h cv_X12_304 (qX12_faced hc) rfl ⟨rfl, rfl⟩ ⟨Nat.le_of_ble_eq_true rfl, Nat.le_of_ble_eq_true rfl⟩ (m_recv C h) hl.1 rfl (Nat.le_of_ble_eq_true rfl) ⟨Nat.le_refl _, Nat.le_refl _⟩ dX12_laysVotes_48 (fun H locs h => ?_)
        clear hc
        refine lv_dup2_11 hx hb dX12_laysVotes_51 rfl rfl ?_
        replace hf := chk_some hf
        obtain ⟨hq, hf⟩ := hf
        refine ml_22 C h hq dX12_laysVotes_52 ?_
        clear hq
        refine lv_aload_n hx hb dX12_laysVotes_53 rfl (lv_at hl 0 rfl) ?_
        refine mg_0 C h dX12_laysVotes_54 ?_
        refine lv_bipush (v := (12 : Int32)) hx hb dX12_laysVotes_57 (by decide) ?_
        refine lv_iload_n hx hb dX12_laysVotes_59 rfl (lv_at hl 1 rfl) ?_
        refine lv_iadd hx hb dX12_laysVotes_60 ?_
        replace hf := chk_some hf
        obtain ⟨hq, hf⟩ := hf
        refine ml_0 C h hq dX12_laysVotes_61 ?_
        clear hq
        refine lv_iadd hx hb dX12_laysVotes_62 ?_
        replace hf := chk_some hf
        obtain ⟨hq, hf⟩ := hf
        replace hf := bnd_ex hf
        obtain ⟨g6, eg6, hf⟩ := hf
        refine ms_22 C h hq dX12_laysVotes_63 (fun H locs h => ?_)
        rw [← eg6] at h
        clear hq eg6
        obtain ⟨x7, ex7⟩ : ∃ z : Int32, z = y1 + (1 : Int32) := ⟨_, rfl⟩
        replace hf := bnd_at ex7 hf
        refine lv_iinc (v := x7) (lv' := [(1, .int x7), (0, .ref (ad 48))]) hx hb dX12_laysVotes_64 hl (k := 1) rfl (by rw [ex7]; rfl) (by decide) rfl (fun ls hl => ?_)
        clear ex7
        refine lv_goto (tgt := 25) hx hb dX12_laysVotes_67 (by decide) ?_
        exact ih g6 x7 hf H locs ls h (lv_sub hl [1, 0] rfl)

set_option maxHeartbeats 4000000 in
set_option maxRecDepth 100000 in
theorem wX12_laysVotes_2 (C : MCx p s m args meth c A RX12 cX12_laysVotes 2 none D cs)  {g' : MS}  : ∀ (n : Nat) (g : MS) (y1 : Int32), fX12_laysVotes_2 n g y1 = some g' → ∀ (H : Heap) (locs : List Loc) (ls : Array Slot), MH D (MW cs ad g) A s H locs → lv_has ls 2 [(0, .ref (ad 48)), (1, .int y1)] → W p l e (rM 2) s m args below meth c H locs 0 0 (MQ below (GPost D none (MW cs ad g') A) args s 0 0 A) (F0 m 2 ls []) := by
  have hx := C.1
  have hb := C.2.1
  intro n
  induction n with
  | zero =>
    intro g y1 hf
    exact absurd hf (by simp [fX12_laysVotes_2])
  | succ n ih =>
    intro g y1 hf H locs ls h hl
    rw [fX12_laysVotes_2] at hf
    refine lv_iload_n hx hb dX12_laysVotes_2 rfl (lv_at hl 1 rfl) ?_
    refine lv_aload_n hx hb dX12_laysVotes_3 rfl (lv_at hl 0 rfl) ?_
    replace hf := bndc_some hf
    obtain ⟨x8, g9, hc, hf⟩ := hf
    refine m_callVi [] C h cv_X12_254 (qX12_size hc) rfl ⟨rfl, rfl⟩ ⟨Nat.le_of_ble_eq_true rfl, Nat.le_of_ble_eq_true rfl⟩ (m_recv C h) hl.1 rfl (Nat.le_of_ble_eq_true rfl) ⟨Nat.le_refl _, Nat.le_refl _⟩ dX12_laysVotes_4 (fun H locs h => ?_)
    clear hc
    refine lv_icmp_ge (tgt := 23) hx hb dX12_laysVotes_7 (by decide) (fun hq => ?_) (fun hq => ?_)
    · replace hf := if_t hq hf
      clear hq
      refine lv_iconst (v := (0 : Int32)) hx hb dX12_laysVotes_23 (by decide) ?_
      refine lv_istore_n (lv' := [(1, .int (0 : Int32)), (0, .ref (ad 48))]) hx hb dX12_laysVotes_24 rfl hl (by decide) rfl (fun ls hl => ?_)
      exact wX12_laysVotes_25 C fuel g9 (0 : Int32) hf H locs ls h (lv_sub hl [1, 0] rfl)
    · replace hf := if_f hq hf
      clear hq
      refine lv_aload_n hx hb dX12_laysVotes_10 rfl (lv_at hl 0 rfl) ?_
      refine mg_22 C h dX12_laysVotes_11 ?_
      refine lv_iload_n hx hb dX12_laysVotes_14 rfl (lv_at hl 1 rfl) ?_
      refine lv_iconst (v := (0 : Int32)) hx hb dX12_laysVotes_15 (by decide) ?_
      replace hf := chk_some hf
      obtain ⟨hq, hf⟩ := hf
      replace hf := bnd_ex hf
      obtain ⟨g10, eg10, hf⟩ := hf
      refine ms_22 C h hq dX12_laysVotes_16 (fun H locs h => ?_)
      rw [← eg10] at h
      clear hq eg10
      obtain ⟨x11, ex11⟩ : ∃ z : Int32, z = y1 + (1 : Int32) := ⟨_, rfl⟩
      replace hf := bnd_at ex11 hf
      refine lv_iinc (v := x11) (lv' := [(1, .int x11), (0, .ref (ad 48))]) hx hb dX12_laysVotes_17 hl (k := 1) rfl (by rw [ex11]; rfl) (by decide) rfl (fun ls hl => ?_)
      clear ex11
      refine lv_goto (tgt := 2) hx hb dX12_laysVotes_20 (by decide) ?_
      exact ih g10 x11 hf H locs ls h (lv_sub hl [1, 0] rfl)

set_option maxHeartbeats 4000000 in
set_option maxRecDepth 100000 in
theorem qX12_laysVotes {l : Launch} {D : va_G} {cs : Nat → ClassId} {ad : Nat → Nat} {g' : MS} {g : MS}  (hf : fX12_laysVotes g = some g') : GCon l D cs yX12_laysVotes cX12_laysVotes 2 none (rM 2) 0 0 [.ref (ad 48)] (MW cs ad g) none (MW cs ad g') := by
  refine GCon.of (by decide) (Nat.le_of_ble_eq_true rfl) ?_
  intro p e s m args below meth c A ls H locs C h hl
  have hx := C.1
  have hb := C.2.1
  have C : MCx p s m args meth c A RX12 cX12_laysVotes 2 none D cs := C
  have hl : lv_has ls 2 [(0, .ref (ad 48))] := hl
  unfold fX12_laysVotes at hf
  refine lv_iconst (v := (0 : Int32)) hx hb dX12_laysVotes_0 (by decide) ?_
  refine lv_istore_n (lv' := [(1, .int (0 : Int32)), (0, .ref (ad 48))]) hx hb dX12_laysVotes_1 rfl hl (by decide) rfl (fun ls hl => ?_)
  exact wX12_laysVotes_2 C fuel g (0 : Int32) hf H locs ls h (lv_sub hl [1, 0] rfl)

set_option maxHeartbeats 4000000 in
set_option maxRecDepth 100000 in
theorem wX12_chairBy_37 (C : MCx p s m args meth c A RX12 cX12_chairBy 3 (some .int) D cs)  {r : Int32} {g' : MS}  {k8 : MS → Int32 → Int32 → Option (Int32 × MS)} (hk8 : ∀ (g : MS) (y1 : Int32) (y2 : Int32), k8 g y1 y2 = some (r, g') → ∀ (H : Heap) (locs : List Loc) (ls : Array Slot), MH D (MW cs ad g) A s H locs → lv_has ls 3 [(0, .ref (ad 48)), (1, .int y1), (2, .int y2)] → W p l e (rM 3) s m args below meth c H locs 0 0 (MQ below (GPost D (some (.int r)) (MW cs ad g') A) args s 0 0 A) (F0 m 8 ls [])) : ∀ (g : MS) (y1 : Int32) (y2 : Int32) (t0 : Int32) (t1 : Int32), fX12_chairBy_37 k8 g y1 y2 t0 t1 = some (r, g') → ∀ (H : Heap) (locs : List Loc) (ls : Array Slot), MH D (MW cs ad g) A s H locs → lv_has ls 3 [(0, .ref (ad 48)), (1, .int y1), (2, .int y2)] → W p l e (rM 3) s m args below meth c H locs 0 0 (MQ below (GPost D (some (.int r)) (MW cs ad g') A) args s 0 0 A) (F0 m 37 ls [.int t1, .int t0]) := by
  have hx := C.1
  have hb := C.2.1
  intro g y1 y2 t0 t1 hf H locs ls h hl
  unfold fX12_chairBy_37 at hf
  refine lv_icmp_le (tgt := 42) hx hb dX12_chairBy_37 (by decide) (fun hq => ?_) (fun hq => ?_)
  · replace hf := if_t hq hf
    clear hq
    obtain ⟨x1, ex1⟩ : ∃ z : Int32, z = y2 + (1 : Int32) := ⟨_, rfl⟩
    replace hf := bnd_at ex1 hf
    refine lv_iinc (v := x1) (lv' := [(2, .int x1), (0, .ref (ad 48)), (1, .int y1)]) hx hb dX12_chairBy_42 hl (k := 2) rfl (by rw [ex1]; rfl) (by decide) rfl (fun ls hl => ?_)
    clear ex1
    refine lv_goto (tgt := 8) hx hb dX12_chairBy_45 (by decide) ?_
    exact hk8 g y1 x1 hf H locs ls h (lv_sub hl [1, 2, 0] rfl)
  · replace hf := if_f hq hf
    clear hq
    refine lv_iload_n hx hb dX12_chairBy_40 rfl (lv_at hl 2 rfl) ?_
    refine lv_istore_n (lv' := [(1, .int y2), (0, .ref (ad 48)), (2, .int y2)]) hx hb dX12_chairBy_41 rfl hl (by decide) rfl (fun ls hl => ?_)
    obtain ⟨x2, ex2⟩ : ∃ z : Int32, z = y2 + (1 : Int32) := ⟨_, rfl⟩
    replace hf := bnd_at ex2 hf
    refine lv_iinc (v := x2) (lv' := [(2, .int x2), (1, .int y2), (0, .ref (ad 48))]) hx hb dX12_chairBy_42 hl (k := 2) rfl (by rw [ex2]; rfl) (by decide) rfl (fun ls hl => ?_)
    clear ex2
    refine lv_goto (tgt := 8) hx hb dX12_chairBy_45 (by decide) ?_
    exact hk8 g y2 x2 hf H locs ls h (lv_sub hl [2, 1, 0] rfl)

set_option maxHeartbeats 4000000 in
set_option maxRecDepth 100000 in
theorem wX12_chairBy_8 (C : MCx p s m args meth c A RX12 cX12_chairBy 3 (some .int) D cs)  {r : Int32} {g' : MS}  : ∀ (n : Nat) (g : MS) (y1 : Int32) (y2 : Int32), fX12_chairBy_8 n g y1 y2 = some (r, g') → ∀ (H : Heap) (locs : List Loc) (ls : Array Slot), MH D (MW cs ad g) A s H locs → lv_has ls 3 [(0, .ref (ad 48)), (1, .int y1), (2, .int y2)] → W p l e (rM 3) s m args below meth c H locs 0 0 (MQ below (GPost D (some (.int r)) (MW cs ad g') A) args s 0 0 A) (F0 m 8 ls []) := by
  have hx := C.1
  have hb := C.2.1
  intro n
  induction n with
  | zero =>
    intro g y1 y2 hf
    exact absurd hf (by simp [fX12_chairBy_8])
  | succ n ih =>
    intro g y1 y2 hf H locs ls h hl
    rw [fX12_chairBy_8] at hf
    refine lv_iload_n hx hb dX12_chairBy_8 rfl (lv_at hl 2 rfl) ?_
    refine lv_aload_n hx hb dX12_chairBy_9 rfl (lv_at hl 0 rfl) ?_
    replace hf := bndc_some hf
    obtain ⟨x3, g4, hc, hf⟩ := hf
    refine m_callVi [] C h cv_X12_254 (qX12_size hc) rfl ⟨rfl, rfl⟩ ⟨Nat.le_of_ble_eq_true rfl, Nat.le_of_ble_eq_true rfl⟩ (m_recv C h) hl.1 rfl (Nat.le_of_ble_eq_true rfl) ⟨Nat.le_refl _, Nat.le_refl _⟩ dX12_chairBy_10 (fun H locs h => ?_)
    clear hc
    refine lv_icmp_ge (tgt := 48) hx hb dX12_chairBy_13 (by decide) (fun hq => ?_) (fun hq => ?_)
    · replace hf := if_t hq hf
      clear hq
      refine lv_iload_n hx hb dX12_chairBy_48 rfl (lv_at hl 1 rfl) ?_
      cases hf
      exact m_iret C h dX12_chairBy_49
    · replace hf := if_f hq hf
      clear hq
      refine lv_aload_n hx hb dX12_chairBy_16 rfl (lv_at hl 0 rfl) ?_
      refine mg_22 C h dX12_chairBy_17 ?_
      refine lv_iload_n hx hb dX12_chairBy_20 rfl (lv_at hl 2 rfl) ?_
      replace hf := chk_some hf
      obtain ⟨hq, hf⟩ := hf
      refine ml_22 C h hq dX12_chairBy_21 ?_
      clear hq
      refine lv_iload_n hx hb dX12_chairBy_22 rfl (lv_at hl 1 rfl) ?_
      refine lv_iconst (v := (-1 : Int32)) hx hb dX12_chairBy_23 (by decide) ?_
      refine lv_icmp_ne (tgt := 31) hx hb dX12_chairBy_24 (by decide) (fun hq => ?_) (fun hq => ?_)
      · replace hf := if_tn hq hf
        clear hq
        refine lv_aload_n hx hb dX12_chairBy_31 rfl (lv_at hl 0 rfl) ?_
        refine mg_22 C h dX12_chairBy_32 ?_
        refine lv_iload_n hx hb dX12_chairBy_35 rfl (lv_at hl 1 rfl) ?_
        replace hf := chk_some hf
        obtain ⟨hq, hf⟩ := hf
        refine ml_22 C h hq dX12_chairBy_36 ?_
        clear hq
        exact wX12_chairBy_37 C ih g4 y1 y2 (g4.2.1 22 (ix y2)) (g4.2.1 22 (ix y1)) hf H locs ls h (lv_sub hl [0, 1, 2] rfl)
      · replace hf := if_t hq hf
        clear hq
        refine lv_iconst (v := (0 : Int32)) hx hb dX12_chairBy_27 (by decide) ?_
        refine lv_goto (tgt := 37) hx hb dX12_chairBy_28 (by decide) ?_
        exact wX12_chairBy_37 C ih g4 y1 y2 (g4.2.1 22 (ix y2)) (0 : Int32) hf H locs ls h (lv_sub hl [0, 1, 2] rfl)

set_option maxHeartbeats 4000000 in
set_option maxRecDepth 100000 in
theorem qX12_chairBy {l : Launch} {D : va_G} {cs : Nat → ClassId} {ad : Nat → Nat} {r : Int32} {g' : MS} {g : MS}  (hf : fX12_chairBy g = some (r, g')) : GCon l D cs yX12_chairBy cX12_chairBy 3 (some .int) (rM 3) 0 0 [.ref (ad 48)] (MW cs ad g) (some (.int r)) (MW cs ad g') := by
  refine GCon.of (by decide) (Nat.le_of_ble_eq_true rfl) ?_
  intro p e s m args below meth c A ls H locs C h hl
  have hx := C.1
  have hb := C.2.1
  have C : MCx p s m args meth c A RX12 cX12_chairBy 3 (some .int) D cs := C
  have hl : lv_has ls 3 [(0, .ref (ad 48))] := hl
  unfold fX12_chairBy at hf
  refine lv_aload_n hx hb dX12_chairBy_0 rfl (lv_at hl 0 rfl) ?_
  replace hf := bndv_some hf
  obtain ⟨g5, hc, hf⟩ := hf
  refine m_callVv [] C h cv_X12_307 (qX12_laysVotes hc) rfl ⟨rfl, rfl⟩ ⟨Nat.le_of_ble_eq_true rfl, Nat.le_of_ble_eq_true rfl⟩ (m_recv C h) hl.1 rfl (Nat.le_of_ble_eq_true rfl) ⟨Nat.le_refl _, Nat.le_refl _⟩ dX12_chairBy_1 (fun H locs h => ?_)
  clear hc
  refine lv_iconst (v := (-1 : Int32)) hx hb dX12_chairBy_4 (by decide) ?_
  refine lv_istore_n (lv' := [(1, .int (-1 : Int32)), (0, .ref (ad 48))]) hx hb dX12_chairBy_5 rfl hl (by decide) rfl (fun ls hl => ?_)
  refine lv_iconst (v := (0 : Int32)) hx hb dX12_chairBy_6 (by decide) ?_
  refine lv_istore_n (lv' := [(2, .int (0 : Int32)), (1, .int (-1 : Int32)), (0, .ref (ad 48))]) hx hb dX12_chairBy_7 rfl hl (by decide) rfl (fun ls hl => ?_)
  exact wX12_chairBy_8 C fuel g5 (-1 : Int32) (0 : Int32) hf H locs ls h (lv_sub hl [2, 1, 0] rfl)

set_option maxHeartbeats 4000000 in
set_option maxRecDepth 100000 in
theorem qX12_chairNow {l : Launch} {D : va_G} {cs : Nat → ClassId} {ad : Nat → Nat} {r : Int32} {g' : MS} {g : MS}  (hf : fX12_chairNow g = some (r, g')) : GCon l D cs yX12_chairNow cX12_chairNow 1 (some .int) (rM 4) 0 0 [.ref (ad 48)] (MW cs ad g) (some (.int r)) (MW cs ad g') := by
  refine GCon.of (by decide) (Nat.le_of_ble_eq_true rfl) ?_
  intro p e s m args below meth c A ls H locs C h hl
  have hx := C.1
  have hb := C.2.1
  have C : MCx p s m args meth c A RX12 cX12_chairNow 1 (some .int) D cs := C
  have hl : lv_has ls 1 [(0, .ref (ad 48))] := hl
  unfold fX12_chairNow at hf
  refine lv_aload_n hx hb dX12_chairNow_0 rfl (lv_at hl 0 rfl) ?_
  replace hf := bndv_some hf
  obtain ⟨g1, hc, hf⟩ := hf
  refine m_callVv [] C h cv_X12_310 (qX12_aimsNow hc) rfl ⟨rfl, rfl⟩ ⟨Nat.le_of_ble_eq_true rfl, Nat.le_of_ble_eq_true rfl⟩ (m_recv C h) hl.1 rfl (Nat.le_of_ble_eq_true rfl) ⟨Nat.le_refl _, Nat.le_refl _⟩ dX12_chairNow_1 (fun H locs h => ?_)
  clear hc
  refine lv_aload_n hx hb dX12_chairNow_4 rfl (lv_at hl 0 rfl) ?_
  replace hf := bndc_some hf
  obtain ⟨x2, g3, hc, hf⟩ := hf
  refine m_callVi [] C h cv_X12_313 (qX12_chairBy hc) rfl ⟨rfl, rfl⟩ ⟨Nat.le_of_ble_eq_true rfl, Nat.le_of_ble_eq_true rfl⟩ (m_recv C h) hl.1 rfl (Nat.le_of_ble_eq_true rfl) ⟨Nat.le_refl _, Nat.le_refl _⟩ dX12_chairNow_5 (fun H locs h => ?_)
  clear hc
  cases hf
  exact m_iret C h dX12_chairNow_8
end
