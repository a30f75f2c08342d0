section
variable {p : Program} {l : Launch} {e : Env} {s : State} {m : MethodId} {args : Array Value} {below : List Frame} {meth : Method} {c : Code} {D : va_G} {cs : Nat → ClassId} {ad adK adV : Nat → Nat} {A : Nat → Prop}
set_option maxHeartbeats 4000000 in
set_option maxRecDepth 100000 in
theorem qX12_thrown {l : Launch} {D : va_G} {cs : Nat → ClassId} {ad : Nat → Nat} {r : Int32} {g' : MS} {g : MS}  (hf : fX12_thrown g = some (r, g')) : GCon l D cs yX12_thrown cX12_thrown 1 (some .int) (rM 0) 0 0 [.ref (ad 48)] (MW cs ad g) (some (.int r)) (MW cs ad g') := by
  refine GCon.of (by decide) (Nat.le_of_ble_eq_true rfl) ?_
  intro p e s m args below meth c A ls H locs C h hl
  have hx := C.1
  have hb := C.2.1
  have C : MCx p s m args meth c A RX12 cX12_thrown 1 (some .int) D cs := C
  have hl : lv_has ls 1 [(0, .ref (ad 48))] := hl
  unfold fX12_thrown at hf
  refine lv_aload_n hx hb dX12_thrown_0 rfl (lv_at hl 0 rfl) ?_
  refine mg_4 C h dX12_thrown_1 ?_
  obtain ⟨e1, e2⟩ := pr_inj hf
  subst e1 e2
  exact m_iret C h dX12_thrown_4

set_option maxHeartbeats 4000000 in
set_option maxRecDepth 100000 in
theorem qX12_fails {l : Launch} {D : va_G} {cs : Nat → ClassId} {ad : Nat → Nat} {r : Int32} {g' : MS} {g : MS}  {a0 : Int32} (hf : fX12_fails g a0 = some (r, g')) : GCon l D cs yX12_fails cX12_fails 2 (some .int) (rM 0) 0 0 [.ref (ad 48), .int a0] (MW cs ad g) (some (.int r)) (MW cs ad g') := by
  refine GCon.of (by decide) (Nat.le_of_ble_eq_true rfl) ?_
  intro p e s m args below meth c A ls H locs C h hl
  have hx := C.1
  have hb := C.2.1
  have C : MCx p s m args meth c A RX12 cX12_fails 2 (some .int) D cs := C
  have hl : lv_has ls 2 [(0, .ref (ad 48)), (1, .int a0)] := hl
  unfold fX12_fails at hf
  refine lv_aload_n hx hb dX12_fails_0 rfl (lv_at hl 0 rfl) ?_
  refine lv_iload_n hx hb dX12_fails_1 rfl (lv_at hl 1 rfl) ?_
  replace hf := bnd_ex hf
  obtain ⟨g1, eg1, hf⟩ := hf
  refine mp_4 C h dX12_fails_2 (fun H locs h => ?_)
  rw [← eg1] at h
  clear eg1
  refine lv_iconst (v := (0 : Int32)) hx hb dX12_fails_5 (by decide) ?_
  obtain ⟨e1, e2⟩ := pr_inj hf
  subst e1 e2
  exact m_iret C h dX12_fails_6

set_option maxHeartbeats 4000000 in
set_option maxRecDepth 100000 in
theorem qX12_within {l : Launch} {D : va_G} {cs : Nat → ClassId} {r : Int32}  {a0 : Int64} {a1 : Int64} {a2 : Int64} (hf : fX12_within a0 a1 a2 = some r) : GCon l D cs yX12_within cX12_within 6 (some .boolean) (rM 0) 0 0 [.long a0, .long a1, .long a2] [] (some (.int r)) [] := by
  refine GCon.of (by decide) (Nat.le_of_ble_eq_true rfl) ?_
  intro p e s m args below meth c A ls H locs C h hl
  have hx := C.1
  have hb := C.2.1
  have C : MCx p s m args meth c A RX12 cX12_within 6 (some .boolean) D cs := C
  have hl : lv_has ls 6 [(0, .long a0), (2, .long a1), (4, .long a2)] := hl
  unfold fX12_within at hf
  refine lv_lload_n hx hb dX12_within_0 rfl (lv_at hl 0 rfl) ?_
  refine lv_lload_n hx hb dX12_within_1 rfl (lv_at hl 1 rfl) ?_
  refine W.lcmp hx hb dX12_within_2 ?_
  refine lv_if_lt (tgt := 17) hx hb dX12_within_3 (by decide) (fun hq => ?_) (fun hq => ?_)
  · replace hf := if_t hq hf
    clear hq
    refine lv_iconst (v := (0 : Int32)) hx hb dX12_within_17 (by decide) ?_
    have e1 := Option.some.inj hf
    subst e1
    exact m_zret C h rfl dX12_within_18
  · replace hf := if_f hq hf
    clear hq
    refine lv_lload_n hx hb dX12_within_6 rfl (lv_at hl 0 rfl) ?_
    refine lv_lload hx hb dX12_within_7 (lv_at hl 2 rfl) ?_
    refine W.lcmp hx hb dX12_within_9 ?_
    refine lv_if_gt (tgt := 17) hx hb dX12_within_10 (by decide) (fun hq => ?_) (fun hq => ?_)
    · replace hf := if_t hq hf
      clear hq
      refine lv_iconst (v := (0 : Int32)) hx hb dX12_within_17 (by decide) ?_
      have e1 := Option.some.inj hf
      subst e1
      exact m_zret C h rfl dX12_within_18
    · replace hf := if_f hq hf
      clear hq
      refine lv_iconst (v := (1 : Int32)) hx hb dX12_within_13 (by decide) ?_
      refine lv_goto (tgt := 18) hx hb dX12_within_14 (by decide) ?_
      have e1 := Option.some.inj hf
      subst e1
      exact m_zret C h rfl dX12_within_18

set_option maxHeartbeats 4000000 in
set_option maxRecDepth 100000 in
theorem qX12_has {l : Launch} {D : va_G} {cs : Nat → ClassId} {r : Int32}  {a0 : Int32} {a1 : Int32} (hf : fX12_has a0 a1 = some r) : GCon l D cs yX12_has cX12_has 2 (some .boolean) (rM 0) 0 0 [.int a0, .int a1] [] (some (.int r)) [] := by
  refine GCon.of (by decide) (Nat.le_of_ble_eq_true rfl) ?_
  intro p e s m args below meth c A ls H locs C h hl
  have hx := C.1
  have hb := C.2.1
  have C : MCx p s m args meth c A RX12 cX12_has 2 (some .boolean) D cs := C
  have hl : lv_has ls 2 [(0, .int a0), (1, .int a1)] := hl
  unfold fX12_has at hf
  refine lv_iload_n hx hb dX12_has_0 rfl (lv_at hl 0 rfl) ?_
  refine lv_iload_n hx hb dX12_has_1 rfl (lv_at hl 1 rfl) ?_
  refine x_ishr hx hb dX12_has_2 ?_
  refine lv_iconst (v := (1 : Int32)) hx hb dX12_has_3 (by decide) ?_
  refine lv_iand hx hb dX12_has_4 ?_
  refine lv_iconst (v := (1 : Int32)) hx hb dX12_has_5 (by decide) ?_
  refine lv_icmp_ne (tgt := 13) hx hb dX12_has_6 (by decide) (fun hq => ?_) (fun hq => ?_)
  · replace hf := if_tn hq hf
    clear hq
    refine lv_iconst (v := (0 : Int32)) hx hb dX12_has_13 (by decide) ?_
    have e1 := Option.some.inj hf
    subst e1
    exact m_zret C h rfl dX12_has_14
  · replace hf := if_t hq hf
    clear hq
    refine lv_iconst (v := (1 : Int32)) hx hb dX12_has_9 (by decide) ?_
    refine lv_goto (tgt := 14) hx hb dX12_has_10 (by decide) ?_
    have e1 := Option.some.inj hf
    subst e1
    exact m_zret C h rfl dX12_has_14

set_option maxHeartbeats 4000000 in
set_option maxRecDepth 100000 in
theorem wX12_bits_4 (C : MCx p s m args meth c A RX12 cX12_bits 3 (some .int) D cs)  {r : Int32}  : ∀ (n : Nat) (y1 : Int32) (y2 : Int32), fX12_bits_4 n y1 y2 = some r → ∀ (H : Heap) (locs : List Loc) (ls : Array Slot), MH D [] A s H locs → lv_has ls 3 [(1, .int y1), (2, .int y2)] → W p l e (rM 0) s m args below meth c H locs 0 0 (MQ below (GPost D (some (.int r)) [] A) args s 0 0 A) (F0 m 4 ls []) := by
  have hx := C.1
  have hb := C.2.1
  intro n
  induction n with
  | zero =>
    intro y1 y2 hf
    exact absurd hf (by simp [fX12_bits_4])
  | succ n ih =>
    intro y1 y2 hf H locs ls h hl
    rw [fX12_bits_4] at hf
    refine lv_iload_n hx hb dX12_bits_4 rfl (lv_at hl 1 rfl) ?_
    refine lv_if_eq (tgt := 20) hx hb dX12_bits_5 (by decide) (fun hq => ?_) (fun hq => ?_)
    · replace hf := if_t hq hf
      clear hq
      refine lv_iload_n hx hb dX12_bits_20 rfl (lv_at hl 0 rfl) ?_
      have e1 := Option.some.inj hf
      subst e1
      exact m_iret C h dX12_bits_21
    · replace hf := if_f hq hf
      clear hq
      obtain ⟨x1, ex1⟩ : ∃ z : Int32, z = y1 + (1 : Int32) := ⟨_, rfl⟩
      replace hf := bnd_at ex1 hf
      refine lv_iinc (v := x1) (lv' := [(1, .int x1), (2, .int y2)]) hx hb dX12_bits_8 hl (k := 0) rfl (by rw [ex1]; rfl) (by decide) rfl (fun ls hl => ?_)
      clear ex1
      refine lv_iload_n hx hb dX12_bits_11 rfl (lv_at hl 1 rfl) ?_
      refine lv_iload_n hx hb dX12_bits_12 rfl (lv_at hl 1 rfl) ?_
      refine lv_iconst (v := (1 : Int32)) hx hb dX12_bits_13 (by decide) ?_
      refine lv_isub hx hb dX12_bits_14 ?_
      refine lv_iand hx hb dX12_bits_15 ?_
      refine lv_topi (fun x2 ex2 => ?_)
      replace hf := bnd_at ex2 hf
      clear ex2
      refine lv_istore_n (lv' := [(2, .int x2), (1, .int x1)]) hx hb dX12_bits_16 rfl hl (by decide) rfl (fun ls hl => ?_)
      refine lv_goto (tgt := 4) hx hb dX12_bits_17 (by decide) ?_
      exact ih x1 x2 hf H locs ls h (lv_sub hl [1, 0] rfl)

set_option maxHeartbeats 4000000 in
set_option maxRecDepth 100000 in
theorem qX12_bits {l : Launch} {D : va_G} {cs : Nat → ClassId} {r : Int32}  {a0 : Int32} (hf : fX12_bits a0 = some r) : GCon l D cs yX12_bits cX12_bits 3 (some .int) (rM 0) 0 0 [.int a0] [] (some (.int r)) [] := by
  refine GCon.of (by decide) (Nat.le_of_ble_eq_true rfl) ?_
  intro p e s m args below meth c A ls H locs C h hl
  have hx := C.1
  have hb := C.2.1
  have C : MCx p s m args meth c A RX12 cX12_bits 3 (some .int) D cs := C
  have hl : lv_has ls 3 [(0, .int a0)] := hl
  unfold fX12_bits at hf
  refine lv_iconst (v := (0 : Int32)) hx hb dX12_bits_0 (by decide) ?_
  refine lv_istore_n (lv' := [(1, .int (0 : Int32)), (0, .int a0)]) hx hb dX12_bits_1 rfl hl (by decide) rfl (fun ls hl => ?_)
  refine lv_iload_n hx hb dX12_bits_2 rfl (lv_at hl 1 rfl) ?_
  refine lv_istore_n (lv' := [(2, .int a0), (1, .int (0 : Int32)), (0, .int a0)]) hx hb dX12_bits_3 rfl hl (by decide) rfl (fun ls hl => ?_)
  exact wX12_bits_4 C fuel (0 : Int32) a0 hf H locs ls h (lv_sub hl [1, 0] rfl)

set_option maxHeartbeats 4000000 in
set_option maxRecDepth 100000 in
theorem wX12_feed_76 (C : MCx p s m args meth c A RX12 cX12_feed 8 (some .int) D cs)  {r : Int32} {g' : MS}  {k23 : MS → Int32 → Int32 → Int32 → Int32 → Int32 → Int32 → Option (Int32 × MS)} (hk23 : ∀ (g : MS) (y1 : Int32) (y2 : Int32) (y3 : Int32) (y4 : Int32) (y5 : Int32) (y6 : Int32), k23 g y1 y2 y3 y4 y5 y6 = some (r, g') → ∀ (H : Heap) (locs : List Loc) (ls : Array Slot), MH D (MW cs ad g) A s H locs → lv_has ls 8 [(0, .ref (ad 48)), (1, .int y1), (2, .int y2), (3, .int y3), (4, .int y4), (5, .int y5), (6, .int y6)] → W p l e (rM 0) s m args below meth c H locs 0 0 (MQ below (GPost D (some (.int r)) (MW cs ad g') A) args s 0 0 A) (F0 m 23 ls [])) : ∀ (g : MS) (y1 : Int32) (y2 : Int32) (y3 : Int32) (y4 : Int32) (y5 : Int32) (y6 : Int32) (t0 : Int32), fX12_feed_76 k23 g y1 y2 y3 y4 y5 y6 t0 = some (r, g') → ∀ (H : Heap) (locs : List Loc) (ls : Array Slot), MH D (MW cs ad g) A s H locs → lv_has ls 8 [(0, .ref (ad 48)), (1, .int y1), (2, .int y2), (3, .int y3), (4, .int y4), (5, .int y5), (6, .int y6)] → W p l e (rM 0) s m args below meth c H locs 0 0 (MQ below (GPost D (some (.int r)) (MW cs ad g') A) args s 0 0 A) (F0 m 76 ls [.int t0]) := by
  have hx := C.1
  have hb := C.2.1
  intro g y1 y2 y3 y4 y5 y6 t0 hf H locs ls h hl
  unfold fX12_feed_76 at hf
  refine lv_istore (lv' := [(7, .int t0), (0, .ref (ad 48)), (1, .int y1), (2, .int y2), (3, .int y3), (4, .int y4), (5, .int y5), (6, .int y6)]) hx hb dX12_feed_76 hl (by decide) rfl (fun ls hl => ?_)
  refine lv_aload_n hx hb dX12_feed_78 rfl (lv_at hl 1 rfl) ?_
  refine mg_5 C h dX12_feed_79 ?_
  refine lv_aload_n hx hb dX12_feed_82 rfl (lv_at hl 1 rfl) ?_
  refine mg_6 C h dX12_feed_83 ?_
  refine lv_iload hx hb dX12_feed_86 (lv_at hl 0 rfl) ?_
  refine lv_bipush (v := (24 : Int32)) hx hb dX12_feed_88 (by decide) ?_
  refine lv_bipush (v := (8 : Int32)) hx hb dX12_feed_90 (by decide) ?_
  refine lv_iload hx hb dX12_feed_92 (lv_at hl 7 rfl) ?_
  refine lv_iconst (v := (3 : Int32)) hx hb dX12_feed_94 (by decide) ?_
  refine lv_iand hx hb dX12_feed_95 ?_
  refine lv_imul hx hb dX12_feed_96 ?_
  refine lv_isub hx hb dX12_feed_97 ?_
  refine x_iushr hx hb dX12_feed_98 ?_
  refine lv_sipush (v := (255 : Int32)) hx hb dX12_feed_99 (by decide) ?_
  refine lv_iand hx hb dX12_feed_102 ?_
  replace hf := chk_some hf
  obtain ⟨hq, hf⟩ := hf
  replace hf := bnd_ex hf
  obtain ⟨g1, eg1, hf⟩ := hf
  refine ms_5 C h hq dX12_feed_103 (fun H locs h => ?_)
  rw [← eg1] at h
  clear hq eg1
  refine lv_aload_n hx hb dX12_feed_104 rfl (lv_at hl 1 rfl) ?_
  refine lv_dup hx hb dX12_feed_105 rfl ?_
  refine mg_6 C h dX12_feed_106 ?_
  refine lv_iconst (v := (1 : Int32)) hx hb dX12_feed_109 (by decide) ?_
  refine lv_iadd hx hb dX12_feed_110 ?_
  replace hf := bnd_ex hf
  obtain ⟨g2, eg2, hf⟩ := hf
  refine mp_6 C h dX12_feed_111 (fun H locs h => ?_)
  rw [← eg2] at h
  clear eg2
  obtain ⟨x3, ex3⟩ : ∃ z : Int32, z = y6 + (1 : Int32) := ⟨_, rfl⟩
  replace hf := bnd_at ex3 hf
  refine lv_iinc (v := x3) (lv' := [(6, .int x3), (7, .int t0), (0, .ref (ad 48)), (1, .int y1), (2, .int y2), (3, .int y3), (4, .int y4), (5, .int y5)]) hx hb dX12_feed_114 hl (k := 7) rfl (by rw [ex3]; rfl) (by decide) rfl (fun ls hl => ?_)
  clear ex3
  refine lv_goto (tgt := 23) hx hb dX12_feed_117 (by decide) ?_
  exact hk23 g2 y1 y2 y3 y4 y5 x3 hf H locs ls h (lv_sub hl [2, 3, 4, 5, 6, 7, 0] rfl)

set_option maxHeartbeats 4000000 in
set_option maxRecDepth 100000 in
theorem wX12_feed_23 (C : MCx p s m args meth c A RX12 cX12_feed 8 (some .int) D cs)  {r : Int32} {g' : MS}  : ∀ (n : Nat) (g : MS) (y1 : Int32) (y2 : Int32) (y3 : Int32) (y4 : Int32) (y5 : Int32) (y6 : Int32), fX12_feed_23 n g y1 y2 y3 y4 y5 y6 = some (r, g') → ∀ (H : Heap) (locs : List Loc) (ls : Array Slot), MH D (MW cs ad g) A s H locs → lv_has ls 8 [(0, .ref (ad 48)), (1, .int y1), (2, .int y2), (3, .int y3), (4, .int y4), (5, .int y5), (6, .int y6)] → W p l e (rM 0) s m args below meth c H locs 0 0 (MQ below (GPost D (some (.int r)) (MW cs ad g') A) args s 0 0 A) (F0 m 23 ls []) := by
  have hx := C.1
  have hb := C.2.1
  intro n
  induction n with
  | zero =>
    intro g y1 y2 y3 y4 y5 y6 hf
    exact absurd hf (by simp [fX12_feed_23])
  | succ n ih =>
    intro g y1 y2 y3 y4 y5 y6 hf H locs ls h hl
    rw [fX12_feed_23] at hf
    refine lv_iload hx hb dX12_feed_23 (lv_at hl 6 rfl) ?_
    refine lv_bipush (v := (20 : Int32)) hx hb dX12_feed_25 (by decide) ?_
    refine lv_icmp_ge (tgt := 120) hx hb dX12_feed_27 (by decide) (fun hq => ?_) (fun hq => ?_)
    · replace hf := if_t hq hf
      clear hq
      refine lv_aload_n hx hb dX12_feed_120 rfl (lv_at hl 0 rfl) ?_
      refine mg_6 C h dX12_feed_121 ?_
      obtain ⟨e1, e2⟩ := pr_inj hf
      subst e1 e2
      exact m_iret C h dX12_feed_124
    · replace hf := if_f hq hf
      clear hq
      refine lv_iload hx hb dX12_feed_30 (lv_at hl 6 rfl) ?_
      refine lv_iconst (v := (4 : Int32)) hx hb dX12_feed_32 (by decide) ?_
      refine lv_icmp_ge (tgt := 40) hx hb dX12_feed_33 (by decide) (fun hq => ?_) (fun hq => ?_)
      · replace hf := if_t hq hf
        clear hq
        refine lv_iload hx hb dX12_feed_40 (lv_at hl 6 rfl) ?_
        refine lv_bipush (v := (8 : Int32)) hx hb dX12_feed_42 (by decide) ?_
        refine lv_icmp_ge (tgt := 51) hx hb dX12_feed_44 (by decide) (fun hq => ?_) (fun hq => ?_)
        · replace hf := if_t hq hf
          clear hq
          refine lv_iload hx hb dX12_feed_51 (lv_at hl 6 rfl) ?_
          refine lv_bipush (v := (12 : Int32)) hx hb dX12_feed_53 (by decide) ?_
          refine lv_icmp_ge (tgt := 62) hx hb dX12_feed_55 (by decide) (fun hq => ?_) (fun hq => ?_)
          · replace hf := if_t hq hf
            clear hq
            refine lv_iload hx hb dX12_feed_62 (lv_at hl 6 rfl) ?_
            refine lv_bipush (v := (16 : Int32)) hx hb dX12_feed_64 (by decide) ?_
            refine lv_icmp_ge (tgt := 74) hx hb dX12_feed_66 (by decide) (fun hq => ?_) (fun hq => ?_)
            · replace hf := if_t hq hf
              clear hq
              refine lv_iload hx hb dX12_feed_74 (lv_at hl 5 rfl) ?_
              exact wX12_feed_76 C ih g y1 y2 y3 y4 y5 y6 y5 hf H locs ls h (lv_sub hl [0, 1, 2, 3, 4, 5, 6] rfl)
            · replace hf := if_f hq hf
              clear hq
              refine lv_iload hx hb dX12_feed_69 (lv_at hl 4 rfl) ?_
              refine lv_goto (tgt := 76) hx hb dX12_feed_71 (by decide) ?_
              exact wX12_feed_76 C ih g y1 y2 y3 y4 y5 y6 y4 hf H locs ls h (lv_sub hl [0, 1, 2, 3, 4, 5, 6] rfl)
          · replace hf := if_f hq hf
            clear hq
            refine lv_iload_n hx hb dX12_feed_58 rfl (lv_at hl 3 rfl) ?_
            refine lv_goto (tgt := 76) hx hb dX12_feed_59 (by decide) ?_
            exact wX12_feed_76 C ih g y1 y2 y3 y4 y5 y6 y3 hf H locs ls h (lv_sub hl [0, 1, 2, 3, 4, 5, 6] rfl)
        · replace hf := if_f hq hf
          clear hq
          refine lv_iload_n hx hb dX12_feed_47 rfl (lv_at hl 2 rfl) ?_
          refine lv_goto (tgt := 76) hx hb dX12_feed_48 (by decide) ?_
          exact wX12_feed_76 C ih g y1 y2 y3 y4 y5 y6 y2 hf H locs ls h (lv_sub hl [0, 1, 2, 3, 4, 5, 6] rfl)
      · replace hf := if_f hq hf
        clear hq
        refine lv_iload_n hx hb dX12_feed_36 rfl (lv_at hl 1 rfl) ?_
        refine lv_goto (tgt := 76) hx hb dX12_feed_37 (by decide) ?_
        exact wX12_feed_76 C ih g y1 y2 y3 y4 y5 y6 y1 hf H locs ls h (lv_sub hl [0, 1, 2, 3, 4, 5, 6] rfl)

set_option maxHeartbeats 4000000 in
set_option maxRecDepth 100000 in
theorem qX12_feed {l : Launch} {D : va_G} {cs : Nat → ClassId} {ad : Nat → Nat} {r : Int32} {g' : MS} {g : MS}  {a0 : Int32} {a1 : Int32} {a2 : Int32} {a3 : Int32} {a4 : Int32} (hf : fX12_feed g a0 a1 a2 a3 a4 = some (r, g')) : GCon l D cs yX12_feed cX12_feed 8 (some .int) (rM 0) 0 0 [.ref (ad 48), .int a0, .int a1, .int a2, .int a3, .int a4] (MW cs ad g) (some (.int r)) (MW cs ad g') := by
  refine GCon.of (by decide) (Nat.le_of_ble_eq_true rfl) ?_
  intro p e s m args below meth c A ls H locs C h hl
  have hx := C.1
  have hb := C.2.1
  have C : MCx p s m args meth c A RX12 cX12_feed 8 (some .int) D cs := C
  have hl : lv_has ls 8 [(0, .ref (ad 48)), (1, .int a0), (2, .int a1), (3, .int a2), (4, .int a3), (5, .int a4)] := hl
  unfold fX12_feed at hf
  refine lv_aload_n hx hb dX12_feed_0 rfl (lv_at hl 0 rfl) ?_
  refine lv_iconst (v := (0 : Int32)) hx hb dX12_feed_1 (by decide) ?_
  replace hf := bnd_ex hf
  obtain ⟨g4, eg4, hf⟩ := hf
  refine mp_4 C h dX12_feed_2 (fun H locs h => ?_)
  rw [← eg4] at h
  clear eg4
  refine lv_aload_n hx hb dX12_feed_5 rfl (lv_at hl 0 rfl) ?_
  refine mg_6 C h dX12_feed_6 ?_
  refine lv_bipush (v := (20 : Int32)) hx hb dX12_feed_9 (by decide) ?_
  refine lv_iadd hx hb dX12_feed_11 ?_
  refine lv_sipush (v := (900 : Int32)) hx hb dX12_feed_12 (by decide) ?_
  refine lv_icmp_le (tgt := 20) hx hb dX12_feed_15 (by decide) (fun hq => ?_) (fun hq => ?_)
  · replace hf := if_t hq hf
    clear hq
    refine lv_iconst (v := (0 : Int32)) hx hb dX12_feed_20 (by decide) ?_
    refine lv_istore (lv' := [(6, .int (0 : Int32)), (0, .ref (ad 48)), (1, .int a0), (2, .int a1), (3, .int a2), (4, .int a3), (5, .int a4)]) hx hb dX12_feed_21 hl (by decide) rfl (fun ls hl => ?_)
    exact wX12_feed_23 C fuel g4 a0 a1 a2 a3 a4 (0 : Int32) hf H locs ls h (lv_sub hl [1, 2, 3, 4, 5, 6, 0] rfl)
  · replace hf := if_f hq hf
    clear hq
    refine lv_iconst (v := (-1 : Int32)) hx hb dX12_feed_18 (by decide) ?_
    obtain ⟨e1, e2⟩ := pr_inj hf
    subst e1 e2
    exact m_iret C h dX12_feed_19

set_option maxHeartbeats 4000000 in
set_option maxRecDepth 100000 in
theorem qX12_see {l : Launch} {D : va_G} {cs : Nat → ClassId} {ad : Nat → Nat} {r : Int32} {g' : MS} {g : MS}  {a0 : Int32} (hf : fX12_see g a0 = some (r, g')) : GCon l D cs yX12_see cX12_see 2 (some .int) (rM 0) 0 0 [.ref (ad 48), .int a0] (MW cs ad g) (some (.int r)) (MW cs ad g') := by
  refine GCon.of (by decide) (Nat.le_of_ble_eq_true rfl) ?_
  intro p e s m args below meth c A ls H locs C h hl
  have hx := C.1
  have hb := C.2.1
  have C : MCx p s m args meth c A RX12 cX12_see 2 (some .int) D cs := C
  have hl : lv_has ls 2 [(0, .ref (ad 48)), (1, .int a0)] := hl
  unfold fX12_see at hf
  refine lv_iload_n hx hb dX12_see_0 rfl (lv_at hl 1 rfl) ?_
  refine lv_aload_n hx hb dX12_see_1 rfl (lv_at hl 0 rfl) ?_
  refine mg_7 C h dX12_see_2 ?_
  refine lv_icmp_ge (tgt := 17) hx hb dX12_see_5 (by decide) (fun hq => ?_) (fun hq => ?_)
  · replace hf := if_t hq hf
    clear hq
    refine lv_iconst (v := (0 : Int32)) hx hb dX12_see_17 (by decide) ?_
    obtain ⟨e1, e2⟩ := pr_inj hf
    subst e1 e2
    exact m_iret C h dX12_see_18
  · replace hf := if_f hq hf
    clear hq
    refine lv_aload_n hx hb dX12_see_8 rfl (lv_at hl 0 rfl) ?_
    refine mg_5 C h dX12_see_9 ?_
    refine lv_iload_n hx hb dX12_see_12 rfl (lv_at hl 1 rfl) ?_
    replace hf := chk_some hf
    obtain ⟨hq, hf⟩ := hf
    refine ml_5 C h hq dX12_see_13 ?_
    clear hq
    refine lv_goto (tgt := 18) hx hb dX12_see_14 (by decide) ?_
    obtain ⟨e1, e2⟩ := pr_inj hf
    subst e1 e2
    exact m_iret C h dX12_see_18

set_option maxHeartbeats 4000000 in
set_option maxRecDepth 100000 in
theorem qX12_isLetter {l : Launch} {D : va_G} {cs : Nat → ClassId} {r : Int32}  {a0 : Int32} (hf : fX12_isLetter a0 = some r) : GCon l D cs yX12_isLetter cX12_isLetter 1 (some .boolean) (rM 0) 0 0 [.int a0] [] (some (.int r)) [] := by
  refine GCon.of (by decide) (Nat.le_of_ble_eq_true rfl) ?_
  intro p e s m args below meth c A ls H locs C h hl
  have hx := C.1
  have hb := C.2.1
  have C : MCx p s m args meth c A RX12 cX12_isLetter 1 (some .boolean) D cs := C
  have hl : lv_has ls 1 [(0, .int a0)] := hl
  unfold fX12_isLetter at hf
  refine lv_iload_n hx hb dX12_isLetter_0 rfl (lv_at hl 0 rfl) ?_
  refine lv_bipush (v := (97 : Int32)) hx hb dX12_isLetter_1 (by decide) ?_
  refine lv_icmp_lt (tgt := 16) hx hb dX12_isLetter_3 (by decide) (fun hq => ?_) (fun hq => ?_)
  · replace hf := if_t hq hf
    clear hq
    refine lv_iconst (v := (0 : Int32)) hx hb dX12_isLetter_16 (by decide) ?_
    have e1 := Option.some.inj hf
    subst e1
    exact m_zret C h rfl dX12_isLetter_17
  · replace hf := if_f hq hf
    clear hq
    refine lv_iload_n hx hb dX12_isLetter_6 rfl (lv_at hl 0 rfl) ?_
    refine lv_bipush (v := (122 : Int32)) hx hb dX12_isLetter_7 (by decide) ?_
    refine lv_icmp_gt (tgt := 16) hx hb dX12_isLetter_9 (by decide) (fun hq => ?_) (fun hq => ?_)
    · replace hf := if_t hq hf
      clear hq
      refine lv_iconst (v := (0 : Int32)) hx hb dX12_isLetter_16 (by decide) ?_
      have e1 := Option.some.inj hf
      subst e1
      exact m_zret C h rfl dX12_isLetter_17
    · replace hf := if_f hq hf
      clear hq
      refine lv_iconst (v := (1 : Int32)) hx hb dX12_isLetter_12 (by decide) ?_
      refine lv_goto (tgt := 17) hx hb dX12_isLetter_13 (by decide) ?_
      have e1 := Option.some.inj hf
      subst e1
      exact m_zret C h rfl dX12_isLetter_17

set_option maxHeartbeats 4000000 in
set_option maxRecDepth 100000 in
theorem qX12_isDigit {l : Launch} {D : va_G} {cs : Nat → ClassId} {r : Int32}  {a0 : Int32} (hf : fX12_isDigit a0 = some r) : GCon l D cs yX12_isDigit cX12_isDigit 1 (some .boolean) (rM 0) 0 0 [.int a0] [] (some (.int r)) [] := by
  refine GCon.of (by decide) (Nat.le_of_ble_eq_true rfl) ?_
  intro p e s m args below meth c A ls H locs C h hl
  have hx := C.1
  have hb := C.2.1
  have C : MCx p s m args meth c A RX12 cX12_isDigit 1 (some .boolean) D cs := C
  have hl : lv_has ls 1 [(0, .int a0)] := hl
  unfold fX12_isDigit at hf
  refine lv_iload_n hx hb dX12_isDigit_0 rfl (lv_at hl 0 rfl) ?_
  refine lv_bipush (v := (48 : Int32)) hx hb dX12_isDigit_1 (by decide) ?_
  refine lv_icmp_lt (tgt := 16) hx hb dX12_isDigit_3 (by decide) (fun hq => ?_) (fun hq => ?_)
  · replace hf := if_t hq hf
    clear hq
    refine lv_iconst (v := (0 : Int32)) hx hb dX12_isDigit_16 (by decide) ?_
    have e1 := Option.some.inj hf
    subst e1
    exact m_zret C h rfl dX12_isDigit_17
  · replace hf := if_f hq hf
    clear hq
    refine lv_iload_n hx hb dX12_isDigit_6 rfl (lv_at hl 0 rfl) ?_
    refine lv_bipush (v := (57 : Int32)) hx hb dX12_isDigit_7 (by decide) ?_
    refine lv_icmp_gt (tgt := 16) hx hb dX12_isDigit_9 (by decide) (fun hq => ?_) (fun hq => ?_)
    · replace hf := if_t hq hf
      clear hq
      refine lv_iconst (v := (0 : Int32)) hx hb dX12_isDigit_16 (by decide) ?_
      have e1 := Option.some.inj hf
      subst e1
      exact m_zret C h rfl dX12_isDigit_17
    · replace hf := if_f hq hf
      clear hq
      refine lv_iconst (v := (1 : Int32)) hx hb dX12_isDigit_12 (by decide) ?_
      refine lv_goto (tgt := 17) hx hb dX12_isDigit_13 (by decide) ?_
      have e1 := Option.some.inj hf
      subst e1
      exact m_zret C h rfl dX12_isDigit_17

set_option maxHeartbeats 4000000 in
set_option maxRecDepth 100000 in
theorem wX12_isSignByte_82 (C : MCx p s m args meth c A RX12 cX12_isSignByte 2 (some .boolean) D cs)  {r : Int32}  : fX12_isSignByte_82  = some r → ∀ (H : Heap) (locs : List Loc) (ls : Array Slot), MH D [] A s H locs → lv_has ls 2 [] → W p l e (rM 0) s m args below meth c H locs 0 0 (MQ below (GPost D (some (.int r)) [] A) args s 0 0 A) (F0 m 82 ls []) := by
  have hx := C.1
  have hb := C.2.1
  intro  hf H locs ls h hl
  unfold fX12_isSignByte_82 at hf
  refine lv_iconst (v := (1 : Int32)) hx hb dX12_isSignByte_82 (by decide) ?_
  refine lv_goto (tgt := 87) hx hb dX12_isSignByte_83 (by decide) ?_
  have e1 := Option.some.inj hf
  subst e1
  exact m_zret C h rfl dX12_isSignByte_87

set_option maxHeartbeats 4000000 in
set_option maxRecDepth 100000 in
theorem wX12_isSignByte_41 (C : MCx p s m args meth c A RX12 cX12_isSignByte 2 (some .boolean) D cs)  {r : Int32}  : ∀ (y0 : Int32) (t0 : Int32), fX12_isSignByte_41 y0 t0 = some r → ∀ (H : Heap) (locs : List Loc) (ls : Array Slot), MH D [] A s H locs → lv_has ls 2 [(0, .int y0)] → W p l e (rM 0) s m args below meth c H locs 0 0 (MQ below (GPost D (some (.int r)) [] A) args s 0 0 A) (F0 m 41 ls [.int t0]) := by
  have hx := C.1
  have hb := C.2.1
  intro y0 t0 hf H locs ls h hl
  unfold fX12_isSignByte_41 at hf
  refine lv_istore_n (lv' := [(1, .int t0), (0, .int y0)]) hx hb dX12_isSignByte_41 rfl hl (by decide) rfl (fun ls hl => ?_)
  refine lv_iload_n hx hb dX12_isSignByte_42 rfl (lv_at hl 0 rfl) ?_
  refine lv_if_ne (tgt := 82) hx hb dX12_isSignByte_43 (by decide) (fun hq => ?_) (fun hq => ?_)
  · replace hf := if_tn hq hf
    clear hq
    exact wX12_isSignByte_82 C  hf H locs ls h (lv_sub hl [] rfl)
  · replace hf := if_t hq hf
    clear hq
    refine lv_iload_n hx hb dX12_isSignByte_46 rfl (lv_at hl 1 rfl) ?_
    refine lv_bipush (v := (59 : Int32)) hx hb dX12_isSignByte_47 (by decide) ?_
    refine lv_icmp_eq (tgt := 82) hx hb dX12_isSignByte_49 (by decide) (fun hq => ?_) (fun hq => ?_)
    · replace hf := if_t hq hf
      clear hq
      exact wX12_isSignByte_82 C  hf H locs ls h (lv_sub hl [] rfl)
    · replace hf := if_f hq hf
      clear hq
      refine lv_iload_n hx hb dX12_isSignByte_52 rfl (lv_at hl 1 rfl) ?_
      refine lv_bipush (v := (43 : Int32)) hx hb dX12_isSignByte_53 (by decide) ?_
      refine lv_icmp_eq (tgt := 82) hx hb dX12_isSignByte_55 (by decide) (fun hq => ?_) (fun hq => ?_)
      · replace hf := if_t hq hf
        clear hq
        exact wX12_isSignByte_82 C  hf H locs ls h (lv_sub hl [] rfl)
      · replace hf := if_f hq hf
        clear hq
        refine lv_iload_n hx hb dX12_isSignByte_58 rfl (lv_at hl 1 rfl) ?_
        refine lv_bipush (v := (45 : Int32)) hx hb dX12_isSignByte_59 (by decide) ?_
        refine lv_icmp_eq (tgt := 82) hx hb dX12_isSignByte_61 (by decide) (fun hq => ?_) (fun hq => ?_)
        · replace hf := if_t hq hf
          clear hq
          exact wX12_isSignByte_82 C  hf H locs ls h (lv_sub hl [] rfl)
        · replace hf := if_f hq hf
          clear hq
          refine lv_iload_n hx hb dX12_isSignByte_64 rfl (lv_at hl 1 rfl) ?_
          refine lv_bipush (v := (42 : Int32)) hx hb dX12_isSignByte_65 (by decide) ?_
          refine lv_icmp_eq (tgt := 82) hx hb dX12_isSignByte_67 (by decide) (fun hq => ?_) (fun hq => ?_)
          · replace hf := if_t hq hf
            clear hq
            exact wX12_isSignByte_82 C  hf H locs ls h (lv_sub hl [] rfl)
          · replace hf := if_f hq hf
            clear hq
            refine lv_iload_n hx hb dX12_isSignByte_70 rfl (lv_at hl 1 rfl) ?_
            refine lv_bipush (v := (40 : Int32)) hx hb dX12_isSignByte_71 (by decide) ?_
            refine lv_icmp_eq (tgt := 82) hx hb dX12_isSignByte_73 (by decide) (fun hq => ?_) (fun hq => ?_)
            · replace hf := if_t hq hf
              clear hq
              exact wX12_isSignByte_82 C  hf H locs ls h (lv_sub hl [] rfl)
            · replace hf := if_f hq hf
              clear hq
              refine lv_iload_n hx hb dX12_isSignByte_76 rfl (lv_at hl 1 rfl) ?_
              refine lv_bipush (v := (41 : Int32)) hx hb dX12_isSignByte_77 (by decide) ?_
              refine lv_icmp_ne (tgt := 86) hx hb dX12_isSignByte_79 (by decide) (fun hq => ?_) (fun hq => ?_)
              · replace hf := if_tn hq hf
                clear hq
                refine lv_iconst (v := (0 : Int32)) hx hb dX12_isSignByte_86 (by decide) ?_
                have e1 := Option.some.inj hf
                subst e1
                exact m_zret C h rfl dX12_isSignByte_87
              · replace hf := if_t hq hf
                clear hq
                exact wX12_isSignByte_82 C  hf H locs ls h (lv_sub hl [] rfl)

set_option maxHeartbeats 4000000 in
set_option maxRecDepth 100000 in
theorem wX12_isSignByte_36 (C : MCx p s m args meth c A RX12 cX12_isSignByte 2 (some .boolean) D cs)  {r : Int32}  : ∀ (y0 : Int32), fX12_isSignByte_36 y0 = some r → ∀ (H : Heap) (locs : List Loc) (ls : Array Slot), MH D [] A s H locs → lv_has ls 2 [(0, .int y0)] → W p l e (rM 0) s m args below meth c H locs 0 0 (MQ below (GPost D (some (.int r)) [] A) args s 0 0 A) (F0 m 36 ls []) := by
  have hx := C.1
  have hb := C.2.1
  intro y0 hf H locs ls h hl
  unfold fX12_isSignByte_36 at hf
  refine lv_iconst (v := (1 : Int32)) hx hb dX12_isSignByte_36 (by decide) ?_
  refine lv_goto (tgt := 41) hx hb dX12_isSignByte_37 (by decide) ?_
  exact wX12_isSignByte_41 C y0 (1 : Int32) hf H locs ls h (lv_sub hl [0] rfl)

set_option maxHeartbeats 4000000 in
set_option maxRecDepth 100000 in
theorem qX12_isSignByte {l : Launch} {D : va_G} {cs : Nat → ClassId} {r : Int32}  {a0 : Int32} (hf : fX12_isSignByte a0 = some r) : GCon l D cs yX12_isSignByte cX12_isSignByte 2 (some .boolean) (rM 0) 0 0 [.int a0] [] (some (.int r)) [] := by
  refine GCon.of (by decide) (Nat.le_of_ble_eq_true rfl) ?_
  intro p e s m args below meth c A ls H locs C h hl
  have hx := C.1
  have hb := C.2.1
  have C : MCx p s m args meth c A RX12 cX12_isSignByte 2 (some .boolean) D cs := C
  have hl : lv_has ls 2 [(0, .int a0)] := hl
  unfold fX12_isSignByte at hf
  refine lv_iload_n hx hb dX12_isSignByte_0 rfl (lv_at hl 0 rfl) ?_
  refine lv_bipush (v := (91 : Int32)) hx hb dX12_isSignByte_1 (by decide) ?_
  refine lv_icmp_eq (tgt := 36) hx hb dX12_isSignByte_3 (by decide) (fun hq => ?_) (fun hq => ?_)
  · replace hf := if_t hq hf
    clear hq
    exact wX12_isSignByte_36 C a0 hf H locs ls h (lv_sub hl [0] rfl)
  · replace hf := if_f hq hf
    clear hq
    refine lv_iload_n hx hb dX12_isSignByte_6 rfl (lv_at hl 0 rfl) ?_
    refine lv_bipush (v := (93 : Int32)) hx hb dX12_isSignByte_7 (by decide) ?_
    refine lv_icmp_eq (tgt := 36) hx hb dX12_isSignByte_9 (by decide) (fun hq => ?_) (fun hq => ?_)
    · replace hf := if_t hq hf
      clear hq
      exact wX12_isSignByte_36 C a0 hf H locs ls h (lv_sub hl [0] rfl)
    · replace hf := if_f hq hf
      clear hq
      refine lv_iload_n hx hb dX12_isSignByte_12 rfl (lv_at hl 0 rfl) ?_
      refine lv_bipush (v := (61 : Int32)) hx hb dX12_isSignByte_13 (by decide) ?_
      refine lv_icmp_eq (tgt := 36) hx hb dX12_isSignByte_15 (by decide) (fun hq => ?_) (fun hq => ?_)
      · replace hf := if_t hq hf
        clear hq
        exact wX12_isSignByte_36 C a0 hf H locs ls h (lv_sub hl [0] rfl)
      · replace hf := if_f hq hf
        clear hq
        refine lv_iload_n hx hb dX12_isSignByte_18 rfl (lv_at hl 0 rfl) ?_
        refine lv_bipush (v := (60 : Int32)) hx hb dX12_isSignByte_19 (by decide) ?_
        refine lv_icmp_eq (tgt := 36) hx hb dX12_isSignByte_21 (by decide) (fun hq => ?_) (fun hq => ?_)
        · replace hf := if_t hq hf
          clear hq
          exact wX12_isSignByte_36 C a0 hf H locs ls h (lv_sub hl [0] rfl)
        · replace hf := if_f hq hf
          clear hq
          refine lv_iload_n hx hb dX12_isSignByte_24 rfl (lv_at hl 0 rfl) ?_
          refine lv_bipush (v := (62 : Int32)) hx hb dX12_isSignByte_25 (by decide) ?_
          refine lv_icmp_eq (tgt := 36) hx hb dX12_isSignByte_27 (by decide) (fun hq => ?_) (fun hq => ?_)
          · replace hf := if_t hq hf
            clear hq
            exact wX12_isSignByte_36 C a0 hf H locs ls h (lv_sub hl [0] rfl)
          · replace hf := if_f hq hf
            clear hq
            refine lv_iload_n hx hb dX12_isSignByte_30 rfl (lv_at hl 0 rfl) ?_
            refine lv_bipush (v := (58 : Int32)) hx hb dX12_isSignByte_31 (by decide) ?_
            refine lv_icmp_ne (tgt := 40) hx hb dX12_isSignByte_33 (by decide) (fun hq => ?_) (fun hq => ?_)
            · replace hf := if_tn hq hf
              clear hq
              refine lv_iconst (v := (0 : Int32)) hx hb dX12_isSignByte_40 (by decide) ?_
              exact wX12_isSignByte_41 C a0 (0 : Int32) hf H locs ls h (lv_sub hl [0] rfl)
            · replace hf := if_t hq hf
              clear hq
              exact wX12_isSignByte_36 C a0 hf H locs ls h (lv_sub hl [0] rfl)

set_option maxHeartbeats 4000000 in
set_option maxRecDepth 100000 in
theorem wX12_readsOn_250 (C : MCx p s m args meth c A RX12 cX12_readsOn 2 none D cs)  {g' : MS}  : ∀ (g : MS) (t1 : Int32), fX12_readsOn_250 g t1 = some g' → ∀ (H : Heap) (locs : List Loc) (ls : Array Slot), MH D (MW cs ad g) A s H locs → lv_has ls 2 [(0, .ref (ad 48))] → W p l e (rM 1) s m args below meth c H locs 0 0 (MQ below (GPost D none (MW cs ad g') A) args s 0 0 A) (F0 m 250 ls [.int t1, .ref (ad 48)]) := by
  have hx := C.1
  have hb := C.2.1
  intro g t1 hf H locs ls h hl
  unfold fX12_readsOn_250 at hf
  replace hf := bnd_ex hf
  obtain ⟨g1, eg1, hf⟩ := hf
  refine mp_10 C h dX12_readsOn_250 (fun H locs h => ?_)
  rw [← eg1] at h
  clear eg1
  refine lv_aload_n hx hb dX12_readsOn_253 rfl (lv_at hl 0 rfl) ?_
  refine lv_dup hx hb dX12_readsOn_254 rfl ?_
  refine mg_8 C h dX12_readsOn_255 ?_
  refine lv_iconst (v := (1 : Int32)) hx hb dX12_readsOn_258 (by decide) ?_
  refine lv_iadd hx hb dX12_readsOn_259 ?_
  replace hf := bnd_ex hf
  obtain ⟨g2, eg2, hf⟩ := hf
  refine mp_8 C h dX12_readsOn_260 (fun H locs h => ?_)
  rw [← eg2] at h
  clear eg2
  have e1 := Option.some.inj hf
  subst e1
  exact m_vret C h dX12_readsOn_263

set_option maxHeartbeats 4000000 in
set_option maxRecDepth 100000 in
theorem wX12_readsOn_231 (C : MCx p s m args meth c A RX12 cX12_readsOn 2 none D cs)  {g' : MS}  : ∀ (g : MS) (t1 : Int32), fX12_readsOn_231 g t1 = some g' → ∀ (H : Heap) (locs : List Loc) (ls : Array Slot), MH D (MW cs ad g) A s H locs → lv_has ls 2 [] → W p l e (rM 1) s m args below meth c H locs 0 0 (MQ below (GPost D none (MW cs ad g') A) args s 0 0 A) (F0 m 231 ls [.int t1, .ref (ad 48)]) := by
  have hx := C.1
  have hb := C.2.1
  intro g t1 hf H locs ls h hl
  unfold fX12_readsOn_231 at hf
  replace hf := bnd_ex hf
  obtain ⟨g3, eg3, hf⟩ := hf
  refine mp_10 C h dX12_readsOn_231 (fun H locs h => ?_)
  rw [← eg3] at h
  clear eg3
  refine lv_goto (tgt := 263) hx hb dX12_readsOn_234 (by decide) ?_
  have e1 := Option.some.inj hf
  subst e1
  exact m_vret C h dX12_readsOn_263

set_option maxHeartbeats 4000000 in
set_option maxRecDepth 100000 in
theorem wX12_readsOn_196 (C : MCx p s m args meth c A RX12 cX12_readsOn 2 none D cs)  {g' : MS}  {k141 : MS → Option (MS)} (hk141 : ∀ (g : MS), k141 g = some g' → ∀ (H : Heap) (locs : List Loc) (ls : Array Slot), MH D (MW cs ad g) A s H locs → lv_has ls 2 [(0, .ref (ad 48))] → W p l e (rM 1) s m args below meth c H locs 0 0 (MQ below (GPost D none (MW cs ad g') A) args s 0 0 A) (F0 m 141 ls [])) : ∀ (g : MS) (t1 : Int32), fX12_readsOn_196 k141 g t1 = some g' → ∀ (H : Heap) (locs : List Loc) (ls : Array Slot), MH D (MW cs ad g) A s H locs → lv_has ls 2 [(0, .ref (ad 48))] → W p l e (rM 1) s m args below meth c H locs 0 0 (MQ below (GPost D none (MW cs ad g') A) args s 0 0 A) (F0 m 196 ls [.int t1, .ref (ad 48)]) := by
  have hx := C.1
  have hb := C.2.1
  intro g t1 hf H locs ls h hl
  unfold fX12_readsOn_196 at hf
  replace hf := bnd_ex hf
  obtain ⟨g4, eg4, hf⟩ := hf
  refine mp_11 C h dX12_readsOn_196 (fun H locs h => ?_)
  rw [← eg4] at h
  clear eg4
  refine lv_aload_n hx hb dX12_readsOn_199 rfl (lv_at hl 0 rfl) ?_
  refine lv_dup hx hb dX12_readsOn_200 rfl ?_
  refine mg_8 C h dX12_readsOn_201 ?_
  refine lv_iconst (v := (1 : Int32)) hx hb dX12_readsOn_204 (by decide) ?_
  refine lv_iadd hx hb dX12_readsOn_205 ?_
  replace hf := bnd_ex hf
  obtain ⟨g5, eg5, hf⟩ := hf
  refine mp_8 C h dX12_readsOn_206 (fun H locs h => ?_)
  rw [← eg5] at h
  clear eg5
  refine lv_goto (tgt := 141) hx hb dX12_readsOn_209 (by decide) ?_
  exact hk141 g5 hf H locs ls h (lv_sub hl [0] rfl)

set_option maxHeartbeats 4000000 in
set_option maxRecDepth 100000 in
theorem wX12_readsOn_141 (C : MCx p s m args meth c A RX12 cX12_readsOn 2 none D cs)  {g' : MS}  : ∀ (n : Nat) (g : MS), fX12_readsOn_141 n g = some g' → ∀ (H : Heap) (locs : List Loc) (ls : Array Slot), MH D (MW cs ad g) A s H locs → lv_has ls 2 [(0, .ref (ad 48))] → W p l e (rM 1) s m args below meth c H locs 0 0 (MQ below (GPost D none (MW cs ad g') A) args s 0 0 A) (F0 m 141 ls []) := by
  have hx := C.1
  have hb := C.2.1
  intro n
  induction n with
  | zero =>
    intro g hf
    exact absurd hf (by simp [fX12_readsOn_141])
  | succ n ih =>
    intro g hf H locs ls h hl
    rw [fX12_readsOn_141] at hf
    refine lv_aload_n hx hb dX12_readsOn_141 rfl (lv_at hl 0 rfl) ?_
    refine lv_aload_n hx hb dX12_readsOn_142 rfl (lv_at hl 0 rfl) ?_
    refine mg_8 C h dX12_readsOn_143 ?_
    replace hf := bndc_some hf
    obtain ⟨x6, g7, hc, hf⟩ := hf
    refine m_callVi [.int (g.1 8)] C h cv_X12_108 (qX12_see hc) rfl ⟨rfl, rfl⟩ ⟨Nat.le_of_ble_eq_true rfl, Nat.le_of_ble_eq_true rfl⟩ (m_recv C h) hl.1 rfl (Nat.le_of_ble_eq_true rfl) ⟨Nat.le_refl _, Nat.le_refl _⟩ dX12_readsOn_146 (fun H locs h => ?_)
    clear hc
    replace hf := bndv_some hf
    obtain ⟨x8, hc, hf⟩ := hf
    refine m_callSi [.int x6] C h cs_X12_112 (qX12_isDigit hc) rfl ⟨rfl, rfl⟩ ⟨Nat.le_of_ble_eq_true rfl, Nat.le_of_ble_eq_true rfl⟩ hl.1 rfl (Nat.le_of_ble_eq_true rfl) ⟨Nat.le_refl _, Nat.le_refl _⟩ dX12_readsOn_149 (fun H locs h => ?_)
    clear hc
    refine lv_if_eq (tgt := 212) hx hb dX12_readsOn_152 (by decide) (fun hq => ?_) (fun hq => ?_)
    · replace hf := if_t hq hf
      clear hq
      refine lv_aload_n hx hb dX12_readsOn_212 rfl (lv_at hl 0 rfl) ?_
      refine lv_aload_n hx hb dX12_readsOn_213 rfl (lv_at hl 0 rfl) ?_
      refine mg_8 C h dX12_readsOn_214 ?_
      refine lv_aload_n hx hb dX12_readsOn_217 rfl (lv_at hl 0 rfl) ?_
      refine mg_9 C h dX12_readsOn_218 ?_
      refine lv_isub hx hb dX12_readsOn_221 ?_
      refine lv_iconst (v := (3 : Int32)) hx hb dX12_readsOn_222 (by decide) ?_
      refine lv_icmp_le (tgt := 230) hx hb dX12_readsOn_223 (by decide) (fun hq => ?_) (fun hq => ?_)
      · replace hf := if_t hq hf
        clear hq
        refine lv_iconst (v := (2 : Int32)) hx hb dX12_readsOn_230 (by decide) ?_
        exact wX12_readsOn_231 C g7 (2 : Int32) hf H locs ls h (lv_sub hl [] rfl)
      · replace hf := if_f hq hf
        clear hq
        refine lv_iconst (v := (3 : Int32)) hx hb dX12_readsOn_226 (by decide) ?_
        refine lv_goto (tgt := 231) hx hb dX12_readsOn_227 (by decide) ?_
        exact wX12_readsOn_231 C g7 (3 : Int32) hf H locs ls h (lv_sub hl [] rfl)
    · replace hf := if_f hq hf
      clear hq
      refine lv_aload_n hx hb dX12_readsOn_155 rfl (lv_at hl 0 rfl) ?_
      refine lv_aload_n hx hb dX12_readsOn_156 rfl (lv_at hl 0 rfl) ?_
      refine mg_8 C h dX12_readsOn_157 ?_
      refine lv_aload_n hx hb dX12_readsOn_160 rfl (lv_at hl 0 rfl) ?_
      refine mg_9 C h dX12_readsOn_161 ?_
      refine lv_isub hx hb dX12_readsOn_164 ?_
      refine lv_iconst (v := (3 : Int32)) hx hb dX12_readsOn_165 (by decide) ?_
      refine lv_icmp_ge (tgt := 192) hx hb dX12_readsOn_166 (by decide) (fun hq => ?_) (fun hq => ?_)
      · replace hf := if_t hq hf
        clear hq
        refine lv_aload_n hx hb dX12_readsOn_192 rfl (lv_at hl 0 rfl) ?_
        refine mg_11 C h dX12_readsOn_193 ?_
        exact wX12_readsOn_196 C ih g7 (g7.1 11) hf H locs ls h (lv_sub hl [0] rfl)
      · replace hf := if_f hq hf
        clear hq
        refine lv_bipush (v := (10 : Int32)) hx hb dX12_readsOn_169 (by decide) ?_
        refine lv_aload_n hx hb dX12_readsOn_171 rfl (lv_at hl 0 rfl) ?_
        refine mg_11 C h dX12_readsOn_172 ?_
        refine lv_imul hx hb dX12_readsOn_175 ?_
        refine lv_aload_n hx hb dX12_readsOn_176 rfl (lv_at hl 0 rfl) ?_
        refine mg_5 C h dX12_readsOn_177 ?_
        refine lv_aload_n hx hb dX12_readsOn_180 rfl (lv_at hl 0 rfl) ?_
        refine mg_8 C h dX12_readsOn_181 ?_
        replace hf := chk_some hf
        obtain ⟨hq, hf⟩ := hf
        refine ml_5 C h hq dX12_readsOn_184 ?_
        clear hq
        refine lv_iadd hx hb dX12_readsOn_185 ?_
        refine lv_bipush (v := (48 : Int32)) hx hb dX12_readsOn_186 (by decide) ?_
        refine lv_isub hx hb dX12_readsOn_188 ?_
        refine lv_goto (tgt := 196) hx hb dX12_readsOn_189 (by decide) ?_
        exact wX12_readsOn_196 C ih g7 ((((10 : Int32) * (g7.1 11)) + (g7.2.1 5 (ix (g7.1 8)))) - (48 : Int32)) hf H locs ls h (lv_sub hl [0] rfl)

set_option maxHeartbeats 4000000 in
set_option maxRecDepth 100000 in
theorem wX12_readsOn_94 (C : MCx p s m args meth c A RX12 cX12_readsOn 2 none D cs)  {g' : MS}  : ∀ (n : Nat) (g : MS), fX12_readsOn_94 n g = some g' → ∀ (H : Heap) (locs : List Loc) (ls : Array Slot), MH D (MW cs ad g) A s H locs → lv_has ls 2 [(0, .ref (ad 48))] → W p l e (rM 1) s m args below meth c H locs 0 0 (MQ below (GPost D none (MW cs ad g') A) args s 0 0 A) (F0 m 94 ls []) := by
  have hx := C.1
  have hb := C.2.1
  intro n
  induction n with
  | zero =>
    intro g hf
    exact absurd hf (by simp [fX12_readsOn_94])
  | succ n ih =>
    intro g hf H locs ls h hl
    rw [fX12_readsOn_94] at hf
    refine lv_aload_n hx hb dX12_readsOn_94 rfl (lv_at hl 0 rfl) ?_
    refine lv_aload_n hx hb dX12_readsOn_95 rfl (lv_at hl 0 rfl) ?_
    refine mg_8 C h dX12_readsOn_96 ?_
    replace hf := bndc_some hf
    obtain ⟨x9, g10, hc, hf⟩ := hf
    refine m_callVi [.int (g.1 8)] C h cv_X12_108 (qX12_see hc) rfl ⟨rfl, rfl⟩ ⟨Nat.le_of_ble_eq_true rfl, Nat.le_of_ble_eq_true rfl⟩ (m_recv C h) hl.1 rfl (Nat.le_of_ble_eq_true rfl) ⟨Nat.le_refl _, Nat.le_refl _⟩ dX12_readsOn_99 (fun H locs h => ?_)
    clear hc
    replace hf := bndv_some hf
    obtain ⟨x11, hc, hf⟩ := hf
    refine m_callSi [.int x9] C h cs_X12_104 (qX12_isLetter hc) rfl ⟨rfl, rfl⟩ ⟨Nat.le_of_ble_eq_true rfl, Nat.le_of_ble_eq_true rfl⟩ hl.1 rfl (Nat.le_of_ble_eq_true rfl) ⟨Nat.le_refl _, Nat.le_refl _⟩ dX12_readsOn_102 (fun H locs h => ?_)
    clear hc
    refine lv_if_eq (tgt := 121) hx hb dX12_readsOn_105 (by decide) (fun hq => ?_) (fun hq => ?_)
    · replace hf := if_t hq hf
      clear hq
      refine lv_aload_n hx hb dX12_readsOn_121 rfl (lv_at hl 0 rfl) ?_
      refine lv_iconst (v := (1 : Int32)) hx hb dX12_readsOn_122 (by decide) ?_
      replace hf := bnd_ex hf
      obtain ⟨g12, eg12, hf⟩ := hf
      refine mp_10 C h dX12_readsOn_123 (fun H locs h => ?_)
      rw [← eg12] at h
      clear eg12
      refine lv_goto (tgt := 263) hx hb dX12_readsOn_126 (by decide) ?_
      have e1 := Option.some.inj hf
      subst e1
      exact m_vret C h dX12_readsOn_263
    · replace hf := if_f hq hf
      clear hq
      refine lv_aload_n hx hb dX12_readsOn_108 rfl (lv_at hl 0 rfl) ?_
      refine lv_dup hx hb dX12_readsOn_109 rfl ?_
      refine mg_8 C h dX12_readsOn_110 ?_
      refine lv_iconst (v := (1 : Int32)) hx hb dX12_readsOn_113 (by decide) ?_
      refine lv_iadd hx hb dX12_readsOn_114 ?_
      replace hf := bnd_ex hf
      obtain ⟨g13, eg13, hf⟩ := hf
      refine mp_8 C h dX12_readsOn_115 (fun H locs h => ?_)
      rw [← eg13] at h
      clear eg13
      refine lv_goto (tgt := 94) hx hb dX12_readsOn_118 (by decide) ?_
      exact ih g13 hf H locs ls h (lv_sub hl [0] rfl)

set_option maxHeartbeats 4000000 in
set_option maxRecDepth 100000 in
theorem wX12_readsOn_52 (C : MCx p s m args meth c A RX12 cX12_readsOn 2 none D cs)  {g' : MS}  : ∀ (g : MS), fX12_readsOn_52 g = some g' → ∀ (H : Heap) (locs : List Loc) (ls : Array Slot), MH D (MW cs ad g) A s H locs → lv_has ls 2 [(0, .ref (ad 48))] → W p l e (rM 1) s m args below meth c H locs 0 0 (MQ below (GPost D none (MW cs ad g') A) args s 0 0 A) (F0 m 52 ls []) := by
  have hx := C.1
  have hb := C.2.1
  intro g hf H locs ls h hl
  unfold fX12_readsOn_52 at hf
  refine lv_aload_n hx hb dX12_readsOn_52 rfl (lv_at hl 0 rfl) ?_
  refine lv_aload_n hx hb dX12_readsOn_53 rfl (lv_at hl 0 rfl) ?_
  refine mg_8 C h dX12_readsOn_54 ?_
  replace hf := bnd_ex hf
  obtain ⟨g14, eg14, hf⟩ := hf
  refine mp_9 C h dX12_readsOn_57 (fun H locs h => ?_)
  rw [← eg14] at h
  clear eg14
  refine lv_aload_n hx hb dX12_readsOn_60 rfl (lv_at hl 0 rfl) ?_
  refine mg_8 C h dX12_readsOn_61 ?_
  refine lv_aload_n hx hb dX12_readsOn_64 rfl (lv_at hl 0 rfl) ?_
  refine mg_7 C h dX12_readsOn_65 ?_
  refine lv_icmp_lt (tgt := 77) hx hb dX12_readsOn_68 (by decide) (fun hq => ?_) (fun hq => ?_)
  · replace hf := if_t hq hf
    clear hq
    refine lv_aload_n hx hb dX12_readsOn_77 rfl (lv_at hl 0 rfl) ?_
    refine mg_5 C h dX12_readsOn_78 ?_
    refine lv_aload_n hx hb dX12_readsOn_81 rfl (lv_at hl 0 rfl) ?_
    refine mg_8 C h dX12_readsOn_82 ?_
    replace hf := chk_some hf
    obtain ⟨hq, hf⟩ := hf
    refine ml_5 C h hq dX12_readsOn_85 ?_
    clear hq
    refine lv_topi (fun x15 ex15 => ?_)
    replace hf := bnd_at ex15 hf
    clear ex15
    refine lv_istore_n (lv' := [(1, .int x15), (0, .ref (ad 48))]) hx hb dX12_readsOn_86 rfl hl (by decide) rfl (fun ls hl => ?_)
    refine lv_iload_n hx hb dX12_readsOn_87 rfl (lv_at hl 0 rfl) ?_
    replace hf := bndv_some hf
    obtain ⟨x16, hc, hf⟩ := hf
    refine m_callSi [.int x15] C h cs_X12_104 (qX12_isLetter hc) rfl ⟨rfl, rfl⟩ ⟨Nat.le_of_ble_eq_true rfl, Nat.le_of_ble_eq_true rfl⟩ hl.1 rfl (Nat.le_of_ble_eq_true rfl) ⟨Nat.le_refl _, Nat.le_refl _⟩ dX12_readsOn_88 (fun H locs h => ?_)
    clear hc
    refine lv_if_eq (tgt := 129) hx hb dX12_readsOn_91 (by decide) (fun hq => ?_) (fun hq => ?_)
    · replace hf := if_t hq hf
      clear hq
      refine lv_iload_n hx hb dX12_readsOn_129 rfl (lv_at hl 0 rfl) ?_
      replace hf := bndv_some hf
      obtain ⟨x17, hc, hf⟩ := hf
      refine m_callSi [.int x15] C h cs_X12_112 (qX12_isDigit hc) rfl ⟨rfl, rfl⟩ ⟨Nat.le_of_ble_eq_true rfl, Nat.le_of_ble_eq_true rfl⟩ hl.1 rfl (Nat.le_of_ble_eq_true rfl) ⟨Nat.le_refl _, Nat.le_refl _⟩ dX12_readsOn_130 (fun H locs h => ?_)
      clear hc
      refine lv_if_eq (tgt := 237) hx hb dX12_readsOn_133 (by decide) (fun hq => ?_) (fun hq => ?_)
      · replace hf := if_t hq hf
        clear hq
        refine lv_aload_n hx hb dX12_readsOn_237 rfl (lv_at hl 1 rfl) ?_
        refine lv_iload_n hx hb dX12_readsOn_238 rfl (lv_at hl 0 rfl) ?_
        replace hf := bndv_some hf
        obtain ⟨x18, hc, hf⟩ := hf
        refine m_callSi [.int x15] C h cs_X12_118 (qX12_isSignByte hc) rfl ⟨rfl, rfl⟩ ⟨Nat.le_of_ble_eq_true rfl, Nat.le_of_ble_eq_true rfl⟩ hl.1 rfl (Nat.le_of_ble_eq_true rfl) ⟨Nat.le_refl _, Nat.le_refl _⟩ dX12_readsOn_239 (fun H locs h => ?_)
        clear hc
        refine lv_if_eq (tgt := 249) hx hb dX12_readsOn_242 (by decide) (fun hq => ?_) (fun hq => ?_)
        · replace hf := if_t hq hf
          clear hq
          refine lv_iconst (v := (3 : Int32)) hx hb dX12_readsOn_249 (by decide) ?_
          exact wX12_readsOn_250 C g14 (3 : Int32) hf H locs ls h (lv_sub hl [1] rfl)
        · replace hf := if_f hq hf
          clear hq
          refine lv_iload_n hx hb dX12_readsOn_245 rfl (lv_at hl 0 rfl) ?_
          refine lv_goto (tgt := 250) hx hb dX12_readsOn_246 (by decide) ?_
          exact wX12_readsOn_250 C g14 x15 hf H locs ls h (lv_sub hl [1] rfl)
      · replace hf := if_f hq hf
        clear hq
        refine lv_aload_n hx hb dX12_readsOn_136 rfl (lv_at hl 1 rfl) ?_
        refine lv_iconst (v := (0 : Int32)) hx hb dX12_readsOn_137 (by decide) ?_
        replace hf := bnd_ex hf
        obtain ⟨g19, eg19, hf⟩ := hf
        refine mp_11 C h dX12_readsOn_138 (fun H locs h => ?_)
        rw [← eg19] at h
        clear eg19
        exact wX12_readsOn_141 C fuel g19 hf H locs ls h (lv_sub hl [1] rfl)
    · replace hf := if_f hq hf
      clear hq
      exact wX12_readsOn_94 C fuel g14 hf H locs ls h (lv_sub hl [1] rfl)
  · replace hf := if_f hq hf
    clear hq
    refine lv_aload_n hx hb dX12_readsOn_71 rfl (lv_at hl 0 rfl) ?_
    refine lv_iconst (v := (0 : Int32)) hx hb dX12_readsOn_72 (by decide) ?_
    replace hf := bnd_ex hf
    obtain ⟨g20, eg20, hf⟩ := hf
    refine mp_10 C h dX12_readsOn_73 (fun H locs h => ?_)
    rw [← eg20] at h
    clear eg20
    have e1 := Option.some.inj hf
    subst e1
    exact m_vret C h dX12_readsOn_76

set_option maxHeartbeats 4000000 in
set_option maxRecDepth 100000 in
theorem wX12_readsOn_39 (C : MCx p s m args meth c A RX12 cX12_readsOn 2 none D cs)  {g' : MS}  {k0 : MS → Option (MS)} (hk0 : ∀ (g : MS), k0 g = some g' → ∀ (H : Heap) (locs : List Loc) (ls : Array Slot), MH D (MW cs ad g) A s H locs → lv_has ls 2 [(0, .ref (ad 48))] → W p l e (rM 1) s m args below meth c H locs 0 0 (MQ below (GPost D none (MW cs ad g') A) args s 0 0 A) (F0 m 0 ls [])) : ∀ (g : MS), fX12_readsOn_39 k0 g = some g' → ∀ (H : Heap) (locs : List Loc) (ls : Array Slot), MH D (MW cs ad g) A s H locs → lv_has ls 2 [(0, .ref (ad 48))] → W p l e (rM 1) s m args below meth c H locs 0 0 (MQ below (GPost D none (MW cs ad g') A) args s 0 0 A) (F0 m 39 ls []) := by
  have hx := C.1
  have hb := C.2.1
  intro g hf H locs ls h hl
  unfold fX12_readsOn_39 at hf
  refine lv_aload_n hx hb dX12_readsOn_39 rfl (lv_at hl 0 rfl) ?_
  refine lv_dup hx hb dX12_readsOn_40 rfl ?_
  refine mg_8 C h dX12_readsOn_41 ?_
  refine lv_iconst (v := (1 : Int32)) hx hb dX12_readsOn_44 (by decide) ?_
  refine lv_iadd hx hb dX12_readsOn_45 ?_
  replace hf := bnd_ex hf
  obtain ⟨g21, eg21, hf⟩ := hf
  refine mp_8 C h dX12_readsOn_46 (fun H locs h => ?_)
  rw [← eg21] at h
  clear eg21
  refine lv_goto (tgt := 0) hx hb dX12_readsOn_49 (by decide) ?_
  exact hk0 g21 hf H locs ls h (lv_sub hl [0] rfl)

set_option maxHeartbeats 4000000 in
set_option maxRecDepth 100000 in
theorem wX12_readsOn_0 (C : MCx p s m args meth c A RX12 cX12_readsOn 2 none D cs)  {g' : MS}  : ∀ (n : Nat) (g : MS), fX12_readsOn_0 n g = some g' → ∀ (H : Heap) (locs : List Loc) (ls : Array Slot), MH D (MW cs ad g) A s H locs → lv_has ls 2 [(0, .ref (ad 48))] → W p l e (rM 1) s m args below meth c H locs 0 0 (MQ below (GPost D none (MW cs ad g') A) args s 0 0 A) (F0 m 0 ls []) := by
  have hx := C.1
  have hb := C.2.1
  intro n
  induction n with
  | zero =>
    intro g hf
    exact absurd hf (by simp [fX12_readsOn_0])
  | succ n ih =>
    intro g hf H locs ls h hl
    rw [fX12_readsOn_0] at hf
    refine lv_aload_n hx hb dX12_readsOn_0 rfl (lv_at hl 0 rfl) ?_
    refine mg_8 C h dX12_readsOn_1 ?_
    refine lv_aload_n hx hb dX12_readsOn_4 rfl (lv_at hl 0 rfl) ?_
    refine mg_7 C h dX12_readsOn_5 ?_
    refine lv_icmp_ge (tgt := 52) hx hb dX12_readsOn_8 (by decide) (fun hq => ?_) (fun hq => ?_)
    · replace hf := if_t hq hf
      clear hq
      exact wX12_readsOn_52 C g hf H locs ls h (lv_sub hl [0] rfl)
    · replace hf := if_f hq hf
      clear hq
      refine lv_aload_n hx hb dX12_readsOn_11 rfl (lv_at hl 0 rfl) ?_
      refine mg_5 C h dX12_readsOn_12 ?_
      refine lv_aload_n hx hb dX12_readsOn_15 rfl (lv_at hl 0 rfl) ?_
      refine mg_8 C h dX12_readsOn_16 ?_
      replace hf := chk_some hf
      obtain ⟨hq, hf⟩ := hf
      refine ml_5 C h hq dX12_readsOn_19 ?_
      clear hq
      refine lv_bipush (v := (32 : Int32)) hx hb dX12_readsOn_20 (by decide) ?_
      refine lv_icmp_eq (tgt := 39) hx hb dX12_readsOn_22 (by decide) (fun hq => ?_) (fun hq => ?_)
      · replace hf := if_t hq hf
        clear hq
        exact wX12_readsOn_39 C ih g hf H locs ls h (lv_sub hl [0] rfl)
      · replace hf := if_f hq hf
        clear hq
        refine lv_aload_n hx hb dX12_readsOn_25 rfl (lv_at hl 0 rfl) ?_
        refine mg_5 C h dX12_readsOn_26 ?_
        refine lv_aload_n hx hb dX12_readsOn_29 rfl (lv_at hl 0 rfl) ?_
        refine mg_8 C h dX12_readsOn_30 ?_
        replace hf := chk_some hf
        obtain ⟨hq, hf⟩ := hf
        refine ml_5 C h hq dX12_readsOn_33 ?_
        clear hq
        refine lv_bipush (v := (10 : Int32)) hx hb dX12_readsOn_34 (by decide) ?_
        refine lv_icmp_ne (tgt := 52) hx hb dX12_readsOn_36 (by decide) (fun hq => ?_) (fun hq => ?_)
        · replace hf := if_tn hq hf
          clear hq
          exact wX12_readsOn_52 C g hf H locs ls h (lv_sub hl [0] rfl)
        · replace hf := if_t hq hf
          clear hq
          exact wX12_readsOn_39 C ih g hf H locs ls h (lv_sub hl [0] rfl)

set_option maxHeartbeats 4000000 in
set_option maxRecDepth 100000 in
theorem qX12_readsOn {l : Launch} {D : va_G} {cs : Nat → ClassId} {ad : Nat → Nat} {g' : MS} {g : MS}  (hf : fX12_readsOn g = some g') : GCon l D cs yX12_readsOn cX12_readsOn 2 none (rM 1) 0 0 [.ref (ad 48)] (MW cs ad g) none (MW cs ad g') := by
  refine GCon.of (by decide) (Nat.le_of_ble_eq_true rfl) ?_
  intro p e s m args below meth c A ls H locs C h hl
  have hx := C.1
  have hb := C.2.1
  have C : MCx p s m args meth c A RX12 cX12_readsOn 2 none D cs := C
  have hl : lv_has ls 2 [(0, .ref (ad 48))] := hl
  unfold fX12_readsOn at hf
  exact wX12_readsOn_0 C fuel g hf H locs ls h (lv_sub hl [0] rfl)

set_option maxHeartbeats 4000000 in
set_option maxRecDepth 100000 in
theorem wX12_blames_22 (C : MCx p s m args meth c A RX12 cX12_blames 2 none D cs)  {g' : MS}  : ∀ (g : MS) (t1 : Int32), fX12_blames_22 g t1 = some g' → ∀ (H : Heap) (locs : List Loc) (ls : Array Slot), MH D (MW cs ad g) A s H locs → lv_has ls 2 [(0, .ref (ad 48))] → W p l e (rM 0) s m args below meth c H locs 0 0 (MQ below (GPost D none (MW cs ad g') A) args s 0 0 A) (F0 m 22 ls [.int t1, .ref (ad 48)]) := by
  have hx := C.1
  have hb := C.2.1
  intro g t1 hf H locs ls h hl
  unfold fX12_blames_22 at hf
  replace hf := bnd_ex hf
  obtain ⟨g1, eg1, hf⟩ := hf
  refine mp_12 C h dX12_blames_22 (fun H locs h => ?_)
  rw [← eg1] at h
  clear eg1
  refine lv_aload_n hx hb dX12_blames_25 rfl (lv_at hl 0 rfl) ?_
  refine lv_aload_n hx hb dX12_blames_26 rfl (lv_at hl 0 rfl) ?_
  refine mg_9 C h dX12_blames_27 ?_
  replace hf := bnd_ex hf
  obtain ⟨g2, eg2, hf⟩ := hf
  refine mp_13 C h dX12_blames_30 (fun H locs h => ?_)
  rw [← eg2] at h
  clear eg2
  have e1 := Option.some.inj hf
  subst e1
  exact m_vret C h dX12_blames_33

set_option maxHeartbeats 4000000 in
set_option maxRecDepth 100000 in
theorem qX12_blames {l : Launch} {D : va_G} {cs : Nat → ClassId} {ad : Nat → Nat} {g' : MS} {g : MS}  {a0 : Int32} (hf : fX12_blames g a0 = some g') : GCon l D cs yX12_blames cX12_blames 2 none (rM 0) 0 0 [.ref (ad 48), .int a0] (MW cs ad g) none (MW cs ad g') := by
  refine GCon.of (by decide) (Nat.le_of_ble_eq_true rfl) ?_
  intro p e s m args below meth c A ls H locs C h hl
  have hx := C.1
  have hb := C.2.1
  have C : MCx p s m args meth c A RX12 cX12_blames 2 none D cs := C
  have hl : lv_has ls 2 [(0, .ref (ad 48)), (1, .int a0)] := hl
  unfold fX12_blames at hf
  refine lv_aload_n hx hb dX12_blames_0 rfl (lv_at hl 0 rfl) ?_
  refine mg_12 C h dX12_blames_1 ?_
  refine lv_if_eq (tgt := 8) hx hb dX12_blames_4 (by decide) (fun hq => ?_) (fun hq => ?_)
  · replace hf := if_t hq hf
    clear hq
    refine lv_aload_n hx hb dX12_blames_8 rfl (lv_at hl 0 rfl) ?_
    refine lv_aload_n hx hb dX12_blames_9 rfl (lv_at hl 0 rfl) ?_
    refine mg_10 C h dX12_blames_10 ?_
    refine lv_iconst (v := (3 : Int32)) hx hb dX12_blames_13 (by decide) ?_
    refine lv_icmp_ne (tgt := 21) hx hb dX12_blames_14 (by decide) (fun hq => ?_) (fun hq => ?_)
    · replace hf := if_tn hq hf
      clear hq
      refine lv_iload_n hx hb dX12_blames_21 rfl (lv_at hl 1 rfl) ?_
      exact wX12_blames_22 C g a0 hf H locs ls h (lv_sub hl [0] rfl)
    · replace hf := if_t hq hf
      clear hq
      refine lv_iconst (v := (1 : Int32)) hx hb dX12_blames_17 (by decide) ?_
      refine lv_goto (tgt := 22) hx hb dX12_blames_18 (by decide) ?_
      exact wX12_blames_22 C g (1 : Int32) hf H locs ls h (lv_sub hl [0] rfl)
  · replace hf := if_f hq hf
    clear hq
    have e1 := Option.some.inj hf
    subst e1
    exact m_vret C h dX12_blames_7

set_option maxHeartbeats 4000000 in
set_option maxRecDepth 100000 in
theorem wX12_isWord_39 (C : MCx p s m args meth c A RX12 cX12_isWord 4 (some .boolean) D cs) (hks : KS adK adV A s s.heap)  {r : Int32} {g' : MS}  : ∀ (n : Nat) (g : MS) (y1 : Nat) (y2 : Int32) (y3 : Int32), y1 < nS → fX12_isWord_39 n g y1 y2 y3 = some (r, g') → ∀ (H : Heap) (locs : List Loc) (ls : Array Slot), MH D (MW cs ad g) A s H locs → lv_has ls 4 [(0, .ref (ad 48)), (1, .ref (adK y1)), (2, .int y2), (3, .int y3)] → W p l e (rM 4) s m args below meth c H locs 0 0 (MQ below (GPost D (some (.int r)) (MW cs ad g') A) args s 0 0 A) (F0 m 39 ls []) := by
  have hx := C.1
  have hb := C.2.1
  intro n
  induction n with
  | zero =>
    intro g y1 y2 y3 hn_y1 hf
    exact absurd hf (by simp [fX12_isWord_39])
  | succ n ih =>
    intro g y1 y2 y3 hn_y1 hf H locs ls h hl
    rw [fX12_isWord_39] at hf
    refine lv_iload_n hx hb dX12_isWord_39 rfl (lv_at hl 2 rfl) ?_
    refine lv_if_eq (tgt := 82) hx hb dX12_isWord_40 (by decide) (fun hq => ?_) (fun hq => ?_)
    · replace hf := if_t hq hf
      clear hq
      refine lv_iload_n hx hb dX12_isWord_82 rfl (lv_at hl 2 rfl) ?_
      replace hf := chk_some hf
      obtain ⟨hq, hf⟩ := hf
      obtain ⟨e1, e2⟩ := pr_inj hf
      subst e1 e2
      exact m_zret C h hq dX12_isWord_83
    · replace hf := if_f hq hf
      clear hq
      refine lv_iload_n hx hb dX12_isWord_43 rfl (lv_at hl 3 rfl) ?_
      refine lv_aload_n hx hb dX12_isWord_44 rfl (lv_at hl 1 rfl) ?_
      refine m_callVK0 (r := some (.int (nI (tx y1).length))) [] C hks h cv_X12_127 (qJ_length hn_y1) rfl ⟨rfl, rfl⟩ ⟨Nat.le_of_ble_eq_true rfl, Nat.le_of_ble_eq_true rfl⟩ (hks.recv hn_y1 h) hl.1 rfl (Nat.le_of_ble_eq_true rfl) ⟨Nat.le_refl _, Nat.le_refl _⟩ dX12_isWord_45 (fun H locs h => ?_)
      refine lv_icmp_ge (tgt := 82) hx hb dX12_isWord_48 (by decide) (fun hq => ?_) (fun hq => ?_)
      · replace hf := if_t hq hf
        clear hq
        refine lv_iload_n hx hb dX12_isWord_82 rfl (lv_at hl 2 rfl) ?_
        replace hf := chk_some hf
        obtain ⟨hq, hf⟩ := hf
        obtain ⟨e1, e2⟩ := pr_inj hf
        subst e1 e2
        exact m_zret C h hq dX12_isWord_83
      · replace hf := if_f hq hf
        clear hq
        refine lv_aload_n hx hb dX12_isWord_51 rfl (lv_at hl 0 rfl) ?_
        refine mg_5 C h dX12_isWord_52 ?_
        refine lv_aload_n hx hb dX12_isWord_55 rfl (lv_at hl 0 rfl) ?_
        refine mg_9 C h dX12_isWord_56 ?_
        refine lv_iload_n hx hb dX12_isWord_59 rfl (lv_at hl 3 rfl) ?_
        refine lv_iadd hx hb dX12_isWord_60 ?_
        replace hf := chk_some hf
        obtain ⟨hq, hf⟩ := hf
        refine ml_5 C h hq dX12_isWord_61 ?_
        clear hq
        refine lv_aload_n hx hb dX12_isWord_62 rfl (lv_at hl 1 rfl) ?_
        refine lv_iload_n hx hb dX12_isWord_63 rfl (lv_at hl 3 rfl) ?_
        replace hf := chk_some hf
        obtain ⟨hq, hf⟩ := hf
        refine m_callVK0 (r := some (.int ((tx y1).getD (ix y3) 0))) [.int y3] C hks h cv_X12_132 (qJ_charAt hn_y1 hq) rfl ⟨rfl, rfl⟩ ⟨Nat.le_of_ble_eq_true rfl, Nat.le_of_ble_eq_true rfl⟩ (hks.recv hn_y1 h) hl.1 rfl (Nat.le_of_ble_eq_true rfl) ⟨Nat.le_refl _, Nat.le_refl _⟩ dX12_isWord_64 (fun H locs h => ?_)
        clear hq
        refine lv_icmp_ne (tgt := 74) hx hb dX12_isWord_67 (by decide) (fun hq => ?_) (fun hq => ?_)
        · replace hf := if_tn hq hf
          clear hq
          refine lv_iconst (v := (0 : Int32)) hx hb dX12_isWord_74 (by decide) ?_
          refine lv_istore_n (lv' := [(2, .int (0 : Int32)), (0, .ref (ad 48)), (1, .ref (adK y1)), (3, .int y3)]) hx hb dX12_isWord_75 rfl hl (by decide) rfl (fun ls hl => ?_)
          obtain ⟨x1, ex1⟩ : ∃ z : Int32, z = y3 + (1 : Int32) := ⟨_, rfl⟩
          replace hf := bnd_at ex1 hf
          refine lv_iinc (v := x1) (lv' := [(3, .int x1), (2, .int (0 : Int32)), (0, .ref (ad 48)), (1, .ref (adK y1))]) hx hb dX12_isWord_76 hl (k := 3) rfl (by rw [ex1]; rfl) (by decide) rfl (fun ls hl => ?_)
          clear ex1
          refine lv_goto (tgt := 39) hx hb dX12_isWord_79 (by decide) ?_
          exact ih g y1 (0 : Int32) x1 hn_y1 hf H locs ls h (lv_sub hl [2, 3, 1, 0] rfl)
        · replace hf := if_t hq hf
          clear hq
          refine lv_iconst (v := (1 : Int32)) hx hb dX12_isWord_70 (by decide) ?_
          refine lv_goto (tgt := 75) hx hb dX12_isWord_71 (by decide) ?_
          refine lv_istore_n (lv' := [(2, .int (1 : Int32)), (0, .ref (ad 48)), (1, .ref (adK y1)), (3, .int y3)]) hx hb dX12_isWord_75 rfl hl (by decide) rfl (fun ls hl => ?_)
          obtain ⟨x2, ex2⟩ : ∃ z : Int32, z = y3 + (1 : Int32) := ⟨_, rfl⟩
          replace hf := bnd_at ex2 hf
          refine lv_iinc (v := x2) (lv' := [(3, .int x2), (2, .int (1 : Int32)), (0, .ref (ad 48)), (1, .ref (adK y1))]) hx hb dX12_isWord_76 hl (k := 3) rfl (by rw [ex2]; rfl) (by decide) rfl (fun ls hl => ?_)
          clear ex2
          refine lv_goto (tgt := 39) hx hb dX12_isWord_79 (by decide) ?_
          exact ih g y1 (1 : Int32) x2 hn_y1 hf H locs ls h (lv_sub hl [2, 3, 1, 0] rfl)

set_option maxHeartbeats 4000000 in
set_option maxRecDepth 100000 in
theorem wX12_isWord_36 (C : MCx p s m args meth c A RX12 cX12_isWord 4 (some .boolean) D cs) (hks : KS adK adV A s s.heap)  {r : Int32} {g' : MS}  : ∀ (g : MS) (y1 : Nat) (t0 : Int32), y1 < nS → fX12_isWord_36 g y1 t0 = some (r, g') → ∀ (H : Heap) (locs : List Loc) (ls : Array Slot), MH D (MW cs ad g) A s H locs → lv_has ls 4 [(0, .ref (ad 48)), (1, .ref (adK y1))] → W p l e (rM 4) s m args below meth c H locs 0 0 (MQ below (GPost D (some (.int r)) (MW cs ad g') A) args s 0 0 A) (F0 m 36 ls [.int t0]) := by
  have hx := C.1
  have hb := C.2.1
  intro g y1 t0 hn_y1 hf H locs ls h hl
  unfold fX12_isWord_36 at hf
  refine lv_istore_n (lv' := [(2, .int t0), (0, .ref (ad 48)), (1, .ref (adK y1))]) hx hb dX12_isWord_36 rfl hl (by decide) rfl (fun ls hl => ?_)
  refine lv_iconst (v := (0 : Int32)) hx hb dX12_isWord_37 (by decide) ?_
  refine lv_istore_n (lv' := [(3, .int (0 : Int32)), (2, .int t0), (0, .ref (ad 48)), (1, .ref (adK y1))]) hx hb dX12_isWord_38 rfl hl (by decide) rfl (fun ls hl => ?_)
  exact wX12_isWord_39 C hks fuel g y1 t0 (0 : Int32) hn_y1 hf H locs ls h (lv_sub hl [2, 3, 1, 0] rfl)

set_option maxHeartbeats 4000000 in
set_option maxRecDepth 100000 in
theorem wX12_isWord_35 (C : MCx p s m args meth c A RX12 cX12_isWord 4 (some .boolean) D cs) (hks : KS adK adV A s s.heap)  {r : Int32} {g' : MS}  : ∀ (g : MS) (y1 : Nat), y1 < nS → fX12_isWord_35 g y1 = some (r, g') → ∀ (H : Heap) (locs : List Loc) (ls : Array Slot), MH D (MW cs ad g) A s H locs → lv_has ls 4 [(0, .ref (ad 48)), (1, .ref (adK y1))] → W p l e (rM 4) s m args below meth c H locs 0 0 (MQ below (GPost D (some (.int r)) (MW cs ad g') A) args s 0 0 A) (F0 m 35 ls []) := by
  have hx := C.1
  have hb := C.2.1
  intro g y1 hn_y1 hf H locs ls h hl
  unfold fX12_isWord_35 at hf
  refine lv_iconst (v := (0 : Int32)) hx hb dX12_isWord_35 (by decide) ?_
  exact wX12_isWord_36 C hks g y1 (0 : Int32) hn_y1 hf H locs ls h (lv_sub hl [0, 1] rfl)

set_option maxHeartbeats 4000000 in
set_option maxRecDepth 100000 in
theorem qX12_isWord {l : Launch} {D : va_G} {cs : Nat → ClassId} {ad : Nat → Nat} {adK adV : Nat → Nat} {r : Int32} {g' : MS} {g : MS}  {a0 : Nat} (hn_a0 : a0 < nS) (hf : fX12_isWord g a0 = some (r, g')) : GConK l D cs adK adV yX12_isWord cX12_isWord 4 (some .boolean) (rM 4) 0 0 [.ref (ad 48), .ref (adK a0)] (MW cs ad g) (some (.int r)) (MW cs ad g') := by
  refine GConK.of (by decide) (Nat.le_of_ble_eq_true rfl) ?_
  intro p e s m args below meth c A ls H locs C hks h hl
  have hx := C.1
  have hb := C.2.1
  have C : MCx p s m args meth c A RX12 cX12_isWord 4 (some .boolean) D cs := C
  have hl : lv_has ls 4 [(0, .ref (ad 48)), (1, .ref (adK a0))] := hl
  unfold fX12_isWord at hf
  refine lv_aload_n hx hb dX12_isWord_0 rfl (lv_at hl 0 rfl) ?_
  refine mg_12 C h dX12_isWord_1 ?_
  refine lv_if_ne (tgt := 35) hx hb dX12_isWord_4 (by decide) (fun hq => ?_) (fun hq => ?_)
  · replace hf := if_tn hq hf
    clear hq
    exact wX12_isWord_35 C hks g a0 hn_a0 hf H locs ls h (lv_sub hl [0, 1] rfl)
  · replace hf := if_t hq hf
    clear hq
    refine lv_aload_n hx hb dX12_isWord_7 rfl (lv_at hl 0 rfl) ?_
    refine mg_10 C h dX12_isWord_8 ?_
    refine lv_iconst (v := (1 : Int32)) hx hb dX12_isWord_11 (by decide) ?_
    refine lv_icmp_ne (tgt := 35) hx hb dX12_isWord_12 (by decide) (fun hq => ?_) (fun hq => ?_)
    · replace hf := if_tn hq hf
      clear hq
      exact wX12_isWord_35 C hks g a0 hn_a0 hf H locs ls h (lv_sub hl [0, 1] rfl)
    · replace hf := if_t hq hf
      clear hq
      refine lv_aload_n hx hb dX12_isWord_15 rfl (lv_at hl 0 rfl) ?_
      refine mg_8 C h dX12_isWord_16 ?_
      refine lv_aload_n hx hb dX12_isWord_19 rfl (lv_at hl 0 rfl) ?_
      refine mg_9 C h dX12_isWord_20 ?_
      refine lv_isub hx hb dX12_isWord_23 ?_
      refine lv_aload_n hx hb dX12_isWord_24 rfl (lv_at hl 1 rfl) ?_
      refine m_callVK0 (r := some (.int (nI (tx a0).length))) [] C hks h cv_X12_127 (qJ_length hn_a0) rfl ⟨rfl, rfl⟩ ⟨Nat.le_of_ble_eq_true rfl, Nat.le_of_ble_eq_true rfl⟩ (hks.recv hn_a0 h) hl.1 rfl (Nat.le_of_ble_eq_true rfl) ⟨Nat.le_refl _, Nat.le_refl _⟩ dX12_isWord_25 (fun H locs h => ?_)
      refine lv_icmp_ne (tgt := 35) hx hb dX12_isWord_28 (by decide) (fun hq => ?_) (fun hq => ?_)
      · replace hf := if_tn hq hf
        clear hq
        exact wX12_isWord_35 C hks g a0 hn_a0 hf H locs ls h (lv_sub hl [0, 1] rfl)
      · replace hf := if_t hq hf
        clear hq
        refine lv_iconst (v := (1 : Int32)) hx hb dX12_isWord_31 (by decide) ?_
        refine lv_goto (tgt := 36) hx hb dX12_isWord_32 (by decide) ?_
        exact wX12_isWord_36 C hks g a0 (1 : Int32) hn_a0 hf H locs ls h (lv_sub hl [0, 1] rfl)

set_option maxHeartbeats 4000000 in
set_option maxRecDepth 100000 in
theorem qX12_took {l : Launch} {D : va_G} {cs : Nat → ClassId} {ad : Nat → Nat} {adK adV : Nat → Nat} {r : Int32} {g' : MS} {g : MS}  {a0 : Nat} (hn_a0 : a0 < nS) (hf : fX12_took g a0 = some (r, g')) : GConK l D cs adK adV yX12_took cX12_took 3 (some .boolean) (rM 5) 0 0 [.ref (ad 48), .ref (adK a0)] (MW cs ad g) (some (.int r)) (MW cs ad g') := by
  refine GConK.of (by decide) (Nat.le_of_ble_eq_true rfl) ?_
  intro p e s m args below meth c A ls H locs C hks h hl
  have hx := C.1
  have hb := C.2.1
  have C : MCx p s m args meth c A RX12 cX12_took 3 (some .boolean) D cs := C
  have hl : lv_has ls 3 [(0, .ref (ad 48)), (1, .ref (adK a0))] := hl
  unfold fX12_took at hf
  refine lv_aload_n hx hb dX12_took_0 rfl (lv_at hl 0 rfl) ?_
  refine lv_aload_n hx hb dX12_took_1 rfl (lv_at hl 1 rfl) ?_
  replace hf := bndc_some hf
  obtain ⟨x1, g2, hc, hf⟩ := hf
  refine m_callVKi [.ref (adK a0)] C hks h cv_X12_136 (qX12_isWord hn_a0 hc) rfl ⟨rfl, rfl⟩ ⟨Nat.le_of_ble_eq_true rfl, Nat.le_of_ble_eq_true rfl⟩ (m_recv C h) hl.1 rfl (Nat.le_of_ble_eq_true rfl) ⟨Nat.le_refl _, Nat.le_refl _⟩ dX12_took_2 (fun H locs h => ?_)
  clear hc
  refine lv_istore_n (lv' := [(2, .int x1), (0, .ref (ad 48)), (1, .ref (adK a0))]) hx hb dX12_took_5 rfl hl (by decide) rfl (fun ls hl => ?_)
  refine lv_iload_n hx hb dX12_took_6 rfl (lv_at hl 0 rfl) ?_
  refine lv_if_eq (tgt := 14) hx hb dX12_took_7 (by decide) (fun hq => ?_) (fun hq => ?_)
  · replace hf := if_t hq hf
    clear hq
    refine lv_iload_n hx hb dX12_took_14 rfl (lv_at hl 0 rfl) ?_
    replace hf := chk_some hf
    obtain ⟨hq, hf⟩ := hf
    obtain ⟨e1, e2⟩ := pr_inj hf
    subst e1 e2
    exact m_zret C h hq dX12_took_15
  · replace hf := if_f hq hf
    clear hq
    refine lv_aload_n hx hb dX12_took_10 rfl (lv_at hl 1 rfl) ?_
    replace hf := bndv_some hf
    obtain ⟨g3, hc, hf⟩ := hf
    refine m_callVv [] C h cv_X12_140 (qX12_readsOn hc) rfl ⟨rfl, rfl⟩ ⟨Nat.le_of_ble_eq_true rfl, Nat.le_of_ble_eq_true rfl⟩ (m_recv C h) hl.1 rfl (Nat.le_of_ble_eq_true rfl) ⟨Nat.le_refl _, Nat.le_refl _⟩ dX12_took_11 (fun H locs h => ?_)
    clear hc
    refine lv_iload_n hx hb dX12_took_14 rfl (lv_at hl 0 rfl) ?_
    replace hf := chk_some hf
    obtain ⟨hq, hf⟩ := hf
    obtain ⟨e1, e2⟩ := pr_inj hf
    subst e1 e2
    exact m_zret C h hq dX12_took_15

set_option maxHeartbeats 4000000 in
set_option maxRecDepth 100000 in
theorem qX12_isSign {l : Launch} {D : va_G} {cs : Nat → ClassId} {ad : Nat → Nat} {r : Int32} {g' : MS} {g : MS}  {a0 : Int32} (hf : fX12_isSign g a0 = some (r, g')) : GCon l D cs yX12_isSign cX12_isSign 2 (some .boolean) (rM 0) 0 0 [.ref (ad 48), .int a0] (MW cs ad g) (some (.int r)) (MW cs ad g') := by
  refine GCon.of (by decide) (Nat.le_of_ble_eq_true rfl) ?_
  intro p e s m args below meth c A ls H locs C h hl
  have hx := C.1
  have hb := C.2.1
  have C : MCx p s m args meth c A RX12 cX12_isSign 2 (some .boolean) D cs := C
  have hl : lv_has ls 2 [(0, .ref (ad 48)), (1, .int a0)] := hl
  unfold fX12_isSign at hf
  refine lv_aload_n hx hb dX12_isSign_0 rfl (lv_at hl 0 rfl) ?_
  refine mg_12 C h dX12_isSign_1 ?_
  refine lv_if_ne (tgt := 19) hx hb dX12_isSign_4 (by decide) (fun hq => ?_) (fun hq => ?_)
  · replace hf := if_tn hq hf
    clear hq
    refine lv_iconst (v := (0 : Int32)) hx hb dX12_isSign_19 (by decide) ?_
    obtain ⟨e1, e2⟩ := pr_inj hf
    subst e1 e2
    exact m_zret C h rfl dX12_isSign_20
  · replace hf := if_t hq hf
    clear hq
    refine lv_aload_n hx hb dX12_isSign_7 rfl (lv_at hl 0 rfl) ?_
    refine mg_10 C h dX12_isSign_8 ?_
    refine lv_iload_n hx hb dX12_isSign_11 rfl (lv_at hl 1 rfl) ?_
    refine lv_icmp_ne (tgt := 19) hx hb dX12_isSign_12 (by decide) (fun hq => ?_) (fun hq => ?_)
    · replace hf := if_tn hq hf
      clear hq
      refine lv_iconst (v := (0 : Int32)) hx hb dX12_isSign_19 (by decide) ?_
      obtain ⟨e1, e2⟩ := pr_inj hf
      subst e1 e2
      exact m_zret C h rfl dX12_isSign_20
    · replace hf := if_t hq hf
      clear hq
      refine lv_iconst (v := (1 : Int32)) hx hb dX12_isSign_15 (by decide) ?_
      refine lv_goto (tgt := 20) hx hb dX12_isSign_16 (by decide) ?_
      obtain ⟨e1, e2⟩ := pr_inj hf
      subst e1 e2
      exact m_zret C h rfl dX12_isSign_20

set_option maxHeartbeats 4000000 in
set_option maxRecDepth 100000 in
theorem wX12_mustSign_13 (C : MCx p s m args meth c A RX12 cX12_mustSign 2 none D cs)  {g' : MS}  : ∀ (g : MS), fX12_mustSign_13 g = some g' → ∀ (H : Heap) (locs : List Loc) (ls : Array Slot), MH D (MW cs ad g) A s H locs → lv_has ls 2 [(0, .ref (ad 48))] → W p l e (rM 2) s m args below meth c H locs 0 0 (MQ below (GPost D none (MW cs ad g') A) args s 0 0 A) (F0 m 13 ls []) := by
  have hx := C.1
  have hb := C.2.1
  intro g hf H locs ls h hl
  unfold fX12_mustSign_13 at hf
  refine lv_aload_n hx hb dX12_mustSign_13 rfl (lv_at hl 0 rfl) ?_
  refine mg_12 C h dX12_mustSign_14 ?_
  refine lv_if_ne (tgt := 24) hx hb dX12_mustSign_17 (by decide) (fun hq => ?_) (fun hq => ?_)
  · replace hf := if_tn hq hf
    clear hq
    have e1 := Option.some.inj hf
    subst e1
    exact m_vret C h dX12_mustSign_24
  · replace hf := if_t hq hf
    clear hq
    refine lv_aload_n hx hb dX12_mustSign_20 rfl (lv_at hl 0 rfl) ?_
    replace hf := bndv_some hf
    obtain ⟨g1, hc, hf⟩ := hf
    refine m_callVv [] C h cv_X12_140 (qX12_readsOn hc) rfl ⟨rfl, rfl⟩ ⟨Nat.le_of_ble_eq_true rfl, Nat.le_of_ble_eq_true rfl⟩ (m_recv C h) hl.1 rfl (Nat.le_of_ble_eq_true rfl) ⟨Nat.le_refl _, Nat.le_refl _⟩ dX12_mustSign_21 (fun H locs h => ?_)
    clear hc
    have e1 := Option.some.inj hf
    subst e1
    exact m_vret C h dX12_mustSign_24

set_option maxHeartbeats 4000000 in
set_option maxRecDepth 100000 in
theorem qX12_mustSign {l : Launch} {D : va_G} {cs : Nat → ClassId} {ad : Nat → Nat} {g' : MS} {g : MS}  {a0 : Int32} (hf : fX12_mustSign g a0 = some g') : GCon l D cs yX12_mustSign cX12_mustSign 2 none (rM 2) 0 0 [.ref (ad 48), .int a0] (MW cs ad g) none (MW cs ad g') := by
  refine GCon.of (by decide) (Nat.le_of_ble_eq_true rfl) ?_
  intro p e s m args below meth c A ls H locs C h hl
  have hx := C.1
  have hb := C.2.1
  have C : MCx p s m args meth c A RX12 cX12_mustSign 2 none D cs := C
  have hl : lv_has ls 2 [(0, .ref (ad 48)), (1, .int a0)] := hl
  unfold fX12_mustSign at hf
  refine lv_aload_n hx hb dX12_mustSign_0 rfl (lv_at hl 0 rfl) ?_
  refine mg_10 C h dX12_mustSign_1 ?_
  refine lv_iload_n hx hb dX12_mustSign_4 rfl (lv_at hl 1 rfl) ?_
  refine lv_icmp_eq (tgt := 13) hx hb dX12_mustSign_5 (by decide) (fun hq => ?_) (fun hq => ?_)
  · replace hf := if_t hq hf
    clear hq
    exact wX12_mustSign_13 C g hf H locs ls h (lv_sub hl [0] rfl)
  · replace hf := if_f hq hf
    clear hq
    refine lv_aload_n hx hb dX12_mustSign_8 rfl (lv_at hl 0 rfl) ?_
    refine lv_iconst (v := (2 : Int32)) hx hb dX12_mustSign_9 (by decide) ?_
    replace hf := bndv_some hf
    obtain ⟨g2, hc, hf⟩ := hf
    refine m_callVv [.int (2 : Int32)] C h cv_X12_143 (qX12_blames hc) rfl ⟨rfl, rfl⟩ ⟨Nat.le_of_ble_eq_true rfl, Nat.le_of_ble_eq_true rfl⟩ (m_recv C h) hl.1 rfl (Nat.le_of_ble_eq_true rfl) ⟨Nat.le_refl _, Nat.le_refl _⟩ dX12_mustSign_10 (fun H locs h => ?_)
    clear hc
    exact wX12_mustSign_13 C g2 hf H locs ls h (lv_sub hl [0] rfl)

set_option maxHeartbeats 4000000 in
set_option maxRecDepth 100000 in
theorem wX12_number_52 (C : MCx p s m args meth c A RX12 cX12_number 4 (some .int) D cs)  {r : Int32} {g' : MS}  : ∀ (g : MS) (y1 : Int32) (y3 : Int32), fX12_number_52 g y1 y3 = some (r, g') → ∀ (H : Heap) (locs : List Loc) (ls : Array Slot), MH D (MW cs ad g) A s H locs → lv_has ls 4 [(0, .ref (ad 48)), (1, .int y1), (3, .int y3)] → W p l e (rM 2) s m args below meth c H locs 0 0 (MQ below (GPost D (some (.int r)) (MW cs ad g') A) args s 0 0 A) (F0 m 52 ls []) := by
  have hx := C.1
  have hb := C.2.1
  intro g y1 y3 hf H locs ls h hl
  unfold fX12_number_52 at hf
  refine lv_aload_n hx hb dX12_number_52 rfl (lv_at hl 0 rfl) ?_
  refine mg_12 C h dX12_number_53 ?_
  refine lv_if_ne (tgt := 63) hx hb dX12_number_56 (by decide) (fun hq => ?_) (fun hq => ?_)
  · replace hf := if_tn hq hf
    clear hq
    refine lv_iload_n hx hb dX12_number_63 rfl (lv_at hl 1 rfl) ?_
    obtain ⟨e1, e2⟩ := pr_inj hf
    subst e1 e2
    exact m_iret C h dX12_number_64
  · replace hf := if_t hq hf
    clear hq
    refine lv_iload_n hx hb dX12_number_59 rfl (lv_at hl 2 rfl) ?_
    refine lv_goto (tgt := 64) hx hb dX12_number_60 (by decide) ?_
    obtain ⟨e1, e2⟩ := pr_inj hf
    subst e1 e2
    exact m_iret C h dX12_number_64

set_option maxHeartbeats 4000000 in
set_option maxRecDepth 100000 in
theorem wX12_number_36 (C : MCx p s m args meth c A RX12 cX12_number 4 (some .int) D cs)  {r : Int32} {g' : MS}  : ∀ (g : MS) (y1 : Int32), fX12_number_36 g y1 = some (r, g') → ∀ (H : Heap) (locs : List Loc) (ls : Array Slot), MH D (MW cs ad g) A s H locs → lv_has ls 4 [(0, .ref (ad 48)), (1, .int y1)] → W p l e (rM 2) s m args below meth c H locs 0 0 (MQ below (GPost D (some (.int r)) (MW cs ad g') A) args s 0 0 A) (F0 m 36 ls []) := by
  have hx := C.1
  have hb := C.2.1
  intro g y1 hf H locs ls h hl
  unfold fX12_number_36 at hf
  refine lv_aload_n hx hb dX12_number_36 rfl (lv_at hl 0 rfl) ?_
  refine mg_11 C h dX12_number_37 ?_
  refine lv_topi (fun x1 ex1 => ?_)
  replace hf := bnd_at ex1 hf
  clear ex1
  refine lv_istore_n (lv' := [(3, .int x1), (0, .ref (ad 48)), (1, .int y1)]) hx hb dX12_number_40 rfl hl (by decide) rfl (fun ls hl => ?_)
  refine lv_aload_n hx hb dX12_number_41 rfl (lv_at hl 1 rfl) ?_
  refine mg_12 C h dX12_number_42 ?_
  refine lv_if_ne (tgt := 52) hx hb dX12_number_45 (by decide) (fun hq => ?_) (fun hq => ?_)
  · replace hf := if_tn hq hf
    clear hq
    exact wX12_number_52 C g y1 x1 hf H locs ls h (lv_sub hl [1, 2, 0] rfl)
  · replace hf := if_t hq hf
    clear hq
    refine lv_aload_n hx hb dX12_number_48 rfl (lv_at hl 1 rfl) ?_
    replace hf := bndv_some hf
    obtain ⟨g2, hc, hf⟩ := hf
    refine m_callVv [] C h cv_X12_140 (qX12_readsOn hc) rfl ⟨rfl, rfl⟩ ⟨Nat.le_of_ble_eq_true rfl, Nat.le_of_ble_eq_true rfl⟩ (m_recv C h) hl.1 rfl (Nat.le_of_ble_eq_true rfl) ⟨Nat.le_refl _, Nat.le_refl _⟩ dX12_number_49 (fun H locs h => ?_)
    clear hc
    exact wX12_number_52 C g2 y1 x1 hf H locs ls h (lv_sub hl [1, 2, 0] rfl)

set_option maxHeartbeats 4000000 in
set_option maxRecDepth 100000 in
theorem qX12_number {l : Launch} {D : va_G} {cs : Nat → ClassId} {ad : Nat → Nat} {r : Int32} {g' : MS} {g : MS}  {a0 : Int32} {a1 : Int32} (hf : fX12_number g a0 a1 = some (r, g')) : GCon l D cs yX12_number cX12_number 4 (some .int) (rM 2) 0 0 [.ref (ad 48), .int a0, .int a1] (MW cs ad g) (some (.int r)) (MW cs ad g') := by
  refine GCon.of (by decide) (Nat.le_of_ble_eq_true rfl) ?_
  intro p e s m args below meth c A ls H locs C h hl
  have hx := C.1
  have hb := C.2.1
  have C : MCx p s m args meth c A RX12 cX12_number 4 (some .int) D cs := C
  have hl : lv_has ls 4 [(0, .ref (ad 48)), (1, .int a0), (2, .int a1)] := hl
  unfold fX12_number at hf
  refine lv_aload_n hx hb dX12_number_0 rfl (lv_at hl 0 rfl) ?_
  refine mg_10 C h dX12_number_1 ?_
  refine lv_iconst (v := (2 : Int32)) hx hb dX12_number_4 (by decide) ?_
  refine lv_icmp_eq (tgt := 16) hx hb dX12_number_5 (by decide) (fun hq => ?_) (fun hq => ?_)
  · replace hf := if_t hq hf
    clear hq
    refine lv_aload_n hx hb dX12_number_16 rfl (lv_at hl 0 rfl) ?_
    refine mg_11 C h dX12_number_17 ?_
    refine lv_i2l hx hb dX12_number_20 rfl ?_
    refine lv_iload_n hx hb dX12_number_21 rfl (lv_at hl 1 rfl) ?_
    refine lv_i2l hx hb dX12_number_22 rfl ?_
    refine lv_iload_n hx hb dX12_number_23 rfl (lv_at hl 2 rfl) ?_
    refine lv_i2l hx hb dX12_number_24 rfl ?_
    replace hf := bndv_some hf
    obtain ⟨x3, hc, hf⟩ := hf
    refine m_callSi [.long ((g.1 11).toInt64), .long a0.toInt64, .long a1.toInt64] C h cs_X12_147 (qX12_within hc) rfl ⟨rfl, rfl⟩ ⟨Nat.le_of_ble_eq_true rfl, Nat.le_of_ble_eq_true rfl⟩ hl.1 rfl (Nat.le_of_ble_eq_true rfl) ⟨Nat.le_refl _, Nat.le_refl _⟩ dX12_number_25 (fun H locs h => ?_)
    clear hc
    refine lv_if_ne (tgt := 36) hx hb dX12_number_28 (by decide) (fun hq => ?_) (fun hq => ?_)
    · replace hf := if_tn hq hf
      clear hq
      exact wX12_number_36 C g a0 hf H locs ls h (lv_sub hl [0, 1] rfl)
    · replace hf := if_t hq hf
      clear hq
      refine lv_aload_n hx hb dX12_number_31 rfl (lv_at hl 0 rfl) ?_
      refine lv_iconst (v := (3 : Int32)) hx hb dX12_number_32 (by decide) ?_
      replace hf := bndv_some hf
      obtain ⟨g4, hc, hf⟩ := hf
      refine m_callVv [.int (3 : Int32)] C h cv_X12_143 (qX12_blames hc) rfl ⟨rfl, rfl⟩ ⟨Nat.le_of_ble_eq_true rfl, Nat.le_of_ble_eq_true rfl⟩ (m_recv C h) hl.1 rfl (Nat.le_of_ble_eq_true rfl) ⟨Nat.le_refl _, Nat.le_refl _⟩ dX12_number_33 (fun H locs h => ?_)
      clear hc
      exact wX12_number_36 C g4 a0 hf H locs ls h (lv_sub hl [0, 1] rfl)
  · replace hf := if_f hq hf
    clear hq
    refine lv_aload_n hx hb dX12_number_8 rfl (lv_at hl 0 rfl) ?_
    refine lv_iconst (v := (2 : Int32)) hx hb dX12_number_9 (by decide) ?_
    replace hf := bndv_some hf
    obtain ⟨g5, hc, hf⟩ := hf
    refine m_callVv [.int (2 : Int32)] C h cv_X12_143 (qX12_blames hc) rfl ⟨rfl, rfl⟩ ⟨Nat.le_of_ble_eq_true rfl, Nat.le_of_ble_eq_true rfl⟩ (m_recv C h) hl.1 rfl (Nat.le_of_ble_eq_true rfl) ⟨Nat.le_refl _, Nat.le_refl _⟩ dX12_number_10 (fun H locs h => ?_)
    clear hc
    refine lv_goto (tgt := 36) hx hb dX12_number_13 (by decide) ?_
    exact wX12_number_36 C g5 a0 hf H locs ls h (lv_sub hl [0, 1] rfl)

set_option maxHeartbeats 4000000 in
set_option maxRecDepth 100000 in
theorem qX12_mustWord {l : Launch} {D : va_G} {cs : Nat → ClassId} {ad : Nat → Nat} {adK adV : Nat → Nat} {g' : MS} {g : MS}  {a0 : Nat} (hn_a0 : a0 < nS) (hf : fX12_mustWord g a0 = some g') : GConK l D cs adK adV yX12_mustWord cX12_mustWord 2 none (rM 6) 0 0 [.ref (ad 48), .ref (adK a0)] (MW cs ad g) none (MW cs ad g') := by
  refine GConK.of (by decide) (Nat.le_of_ble_eq_true rfl) ?_
  intro p e s m args below meth c A ls H locs C hks h hl
  have hx := C.1
  have hb := C.2.1
  have C : MCx p s m args meth c A RX12 cX12_mustWord 2 none D cs := C
  have hl : lv_has ls 2 [(0, .ref (ad 48)), (1, .ref (adK a0))] := hl
  unfold fX12_mustWord at hf
  refine lv_aload_n hx hb dX12_mustWord_0 rfl (lv_at hl 0 rfl) ?_
  refine lv_aload_n hx hb dX12_mustWord_1 rfl (lv_at hl 1 rfl) ?_
  replace hf := bndc_some hf
  obtain ⟨x1, g2, hc, hf⟩ := hf
  refine m_callVKi [.ref (adK a0)] C hks h cv_X12_151 (qX12_took hn_a0 hc) rfl ⟨rfl, rfl⟩ ⟨Nat.le_of_ble_eq_true rfl, Nat.le_of_ble_eq_true rfl⟩ (m_recv C h) hl.1 rfl (Nat.le_of_ble_eq_true rfl) ⟨Nat.le_refl _, Nat.le_refl _⟩ dX12_mustWord_2 (fun H locs h => ?_)
  clear hc
  refine lv_if_ne (tgt := 13) hx hb dX12_mustWord_5 (by decide) (fun hq => ?_) (fun hq => ?_)
  · replace hf := if_tn hq hf
    clear hq
    have e1 := Option.some.inj hf
    subst e1
    exact m_vret C h dX12_mustWord_13
  · replace hf := if_t hq hf
    clear hq
    refine lv_aload_n hx hb dX12_mustWord_8 rfl (lv_at hl 0 rfl) ?_
    refine lv_iconst (v := (2 : Int32)) hx hb dX12_mustWord_9 (by decide) ?_
    replace hf := bndv_some hf
    obtain ⟨g3, hc, hf⟩ := hf
    refine m_callVv [.int (2 : Int32)] C h cv_X12_143 (qX12_blames hc) rfl ⟨rfl, rfl⟩ ⟨Nat.le_of_ble_eq_true rfl, Nat.le_of_ble_eq_true rfl⟩ (m_recv C h) hl.1 rfl (Nat.le_of_ble_eq_true rfl) ⟨Nat.le_refl _, Nat.le_refl _⟩ dX12_mustWord_10 (fun H locs h => ?_)
    clear hc
    have e1 := Option.some.inj hf
    subst e1
    exact m_vret C h dX12_mustWord_13

set_option maxHeartbeats 4000000 in
set_option maxRecDepth 100000 in
theorem qX12_laysStep {l : Launch} {D : va_G} {cs : Nat → ClassId} {ad : Nat → Nat} {g' : MS} {g : MS}  {a0 : Int32} (hf : fX12_laysStep g a0 = some g') : GCon l D cs yX12_laysStep cX12_laysStep 2 none (rM 0) 0 0 [.ref (ad 48), .int a0] (MW cs ad g) none (MW cs ad g') := by
  refine GCon.of (by decide) (Nat.le_of_ble_eq_true rfl) ?_
  intro p e s m args below meth c A ls H locs C h hl
  have hx := C.1
  have hb := C.2.1
  have C : MCx p s m args meth c A RX12 cX12_laysStep 2 none D cs := C
  have hl : lv_has ls 2 [(0, .ref (ad 48)), (1, .int a0)] := hl
  unfold fX12_laysStep at hf
  refine lv_aload_n hx hb dX12_laysStep_0 rfl (lv_at hl 0 rfl) ?_
  refine mg_12 C h dX12_laysStep_1 ?_
  refine lv_if_eq (tgt := 8) hx hb dX12_laysStep_4 (by decide) (fun hq => ?_) (fun hq => ?_)
  · replace hf := if_t hq hf
    clear hq
    refine lv_aload_n hx hb dX12_laysStep_8 rfl (lv_at hl 0 rfl) ?_
    refine mg_1 C h dX12_laysStep_9 ?_
    refine lv_aload_n hx hb dX12_laysStep_12 rfl (lv_at hl 0 rfl) ?_
    refine mg_18 C h dX12_laysStep_13 ?_
    refine lv_aload_n hx hb dX12_laysStep_16 rfl (lv_at hl 0 rfl) ?_
    refine mg_1 C h dX12_laysStep_17 ?_
    refine lv_aload_n hx hb dX12_laysStep_20 rfl (lv_at hl 0 rfl) ?_
    refine mg_17 C h dX12_laysStep_21 ?_
    replace hf := chk_some hf
    obtain ⟨hq, hf⟩ := hf
    refine ml_1 C h hq dX12_laysStep_24 ?_
    clear hq
    refine lv_iadd hx hb dX12_laysStep_25 ?_
    refine lv_iload_n hx hb dX12_laysStep_26 rfl (lv_at hl 1 rfl) ?_
    replace hf := chk_some hf
    obtain ⟨hq, hf⟩ := hf
    replace hf := bnd_ex hf
    obtain ⟨g1, eg1, hf⟩ := hf
    refine ms_1 C h hq dX12_laysStep_27 (fun H locs h => ?_)
    rw [← eg1] at h
    clear hq eg1
    refine lv_aload_n hx hb dX12_laysStep_28 rfl (lv_at hl 0 rfl) ?_
    refine mg_1 C h dX12_laysStep_29 ?_
    refine lv_aload_n hx hb dX12_laysStep_32 rfl (lv_at hl 0 rfl) ?_
    refine mg_17 C h dX12_laysStep_33 ?_
    refine lv_dup2_11 hx hb dX12_laysStep_36 rfl rfl ?_
    replace hf := chk_some hf
    obtain ⟨hq, hf⟩ := hf
    refine ml_1 C h hq dX12_laysStep_37 ?_
    clear hq
    refine lv_iconst (v := (1 : Int32)) hx hb dX12_laysStep_38 (by decide) ?_
    refine lv_iadd hx hb dX12_laysStep_39 ?_
    replace hf := chk_some hf
    obtain ⟨hq, hf⟩ := hf
    replace hf := bnd_ex hf
    obtain ⟨g2, eg2, hf⟩ := hf
    refine ms_1 C h hq dX12_laysStep_40 (fun H locs h => ?_)
    rw [← eg2] at h
    clear hq eg2
    have e1 := Option.some.inj hf
    subst e1
    exact m_vret C h dX12_laysStep_41
  · replace hf := if_f hq hf
    clear hq
    have e1 := Option.some.inj hf
    subst e1
    exact m_vret C h dX12_laysStep_7

set_option maxHeartbeats 4000000 in
set_option maxRecDepth 100000 in
theorem qX12_beginsLaw {l : Launch} {D : va_G} {cs : Nat → ClassId} {ad : Nat → Nat} {g' : MS} {g : MS}  {a0 : Int32} {a1 : Int32} (hf : fX12_beginsLaw g a0 a1 = some g') : GCon l D cs yX12_beginsLaw cX12_beginsLaw 3 none (rM 3) 0 0 [.ref (ad 48), .int a0, .int a1] (MW cs ad g) none (MW cs ad g') := by
  refine GCon.of (by decide) (Nat.le_of_ble_eq_true rfl) ?_
  intro p e s m args below meth c A ls H locs C h hl
  have hx := C.1
  have hb := C.2.1
  have C : MCx p s m args meth c A RX12 cX12_beginsLaw 3 none D cs := C
  have hl : lv_has ls 3 [(0, .ref (ad 48)), (1, .int a0), (2, .int a1)] := hl
  unfold fX12_beginsLaw at hf
  refine lv_aload_n hx hb dX12_beginsLaw_0 rfl (lv_at hl 0 rfl) ?_
  refine lv_iload_n hx hb dX12_beginsLaw_1 rfl (lv_at hl 1 rfl) ?_
  replace hf := bnd_ex hf
  obtain ⟨g1, eg1, hf⟩ := hf
  refine mp_17 C h dX12_beginsLaw_2 (fun H locs h => ?_)
  rw [← eg1] at h
  clear eg1
  refine lv_aload_n hx hb dX12_beginsLaw_5 rfl (lv_at hl 0 rfl) ?_
  refine lv_iload_n hx hb dX12_beginsLaw_6 rfl (lv_at hl 2 rfl) ?_
  replace hf := bnd_ex hf
  obtain ⟨g2, eg2, hf⟩ := hf
  refine mp_18 C h dX12_beginsLaw_7 (fun H locs h => ?_)
  rw [← eg2] at h
  clear eg2
  refine lv_aload_n hx hb dX12_beginsLaw_10 rfl (lv_at hl 0 rfl) ?_
  refine mg_1 C h dX12_beginsLaw_11 ?_
  refine lv_iload_n hx hb dX12_beginsLaw_14 rfl (lv_at hl 1 rfl) ?_
  refine lv_iconst (v := (0 : Int32)) hx hb dX12_beginsLaw_15 (by decide) ?_
  replace hf := chk_some hf
  obtain ⟨hq, hf⟩ := hf
  replace hf := bnd_ex hf
  obtain ⟨g3, eg3, hf⟩ := hf
  refine ms_1 C h hq dX12_beginsLaw_16 (fun H locs h => ?_)
  rw [← eg3] at h
  clear hq eg3
  refine lv_aload_n hx hb dX12_beginsLaw_17 rfl (lv_at hl 0 rfl) ?_
  refine lv_bipush (v := (58 : Int32)) hx hb dX12_beginsLaw_18 (by decide) ?_
  replace hf := bndv_some hf
  obtain ⟨g4, hc, hf⟩ := hf
  refine m_callVv [.int (58 : Int32)] C h cv_X12_160 (qX12_mustSign hc) rfl ⟨rfl, rfl⟩ ⟨Nat.le_of_ble_eq_true rfl, Nat.le_of_ble_eq_true rfl⟩ (m_recv C h) hl.1 rfl (Nat.le_of_ble_eq_true rfl) ⟨Nat.le_refl _, Nat.le_refl _⟩ dX12_beginsLaw_20 (fun H locs h => ?_)
  clear hc
  have e1 := Option.some.inj hf
  subst e1
  exact m_vret C h dX12_beginsLaw_23

set_option maxHeartbeats 4000000 in
set_option maxRecDepth 100000 in
theorem wX12_goesIn_14 (C : MCx p s m args meth c A RX12 cX12_goesIn 1 none D cs)  {g' : MS}  : ∀ (g : MS), fX12_goesIn_14 g = some g' → ∀ (H : Heap) (locs : List Loc) (ls : Array Slot), MH D (MW cs ad g) A s H locs → lv_has ls 1 [(0, .ref (ad 48))] → W p l e (rM 2) s m args below meth c H locs 0 0 (MQ below (GPost D none (MW cs ad g') A) args s 0 0 A) (F0 m 14 ls []) := by
  have hx := C.1
  have hb := C.2.1
  intro g hf H locs ls h hl
  unfold fX12_goesIn_14 at hf
  refine lv_aload_n hx hb dX12_goesIn_14 rfl (lv_at hl 0 rfl) ?_
  refine lv_dup hx hb dX12_goesIn_15 rfl ?_
  refine mg_16 C h dX12_goesIn_16 ?_
  refine lv_iconst (v := (1 : Int32)) hx hb dX12_goesIn_19 (by decide) ?_
  refine lv_iadd hx hb dX12_goesIn_20 ?_
  replace hf := bnd_ex hf
  obtain ⟨g1, eg1, hf⟩ := hf
  refine mp_16 C h dX12_goesIn_21 (fun H locs h => ?_)
  rw [← eg1] at h
  clear eg1
  refine lv_aload_n hx hb dX12_goesIn_24 rfl (lv_at hl 0 rfl) ?_
  refine mg_12 C h dX12_goesIn_25 ?_
  refine lv_if_ne (tgt := 35) hx hb dX12_goesIn_28 (by decide) (fun hq => ?_) (fun hq => ?_)
  · replace hf := if_tn hq hf
    clear hq
    have e1 := Option.some.inj hf
    subst e1
    exact m_vret C h dX12_goesIn_35
  · replace hf := if_t hq hf
    clear hq
    refine lv_aload_n hx hb dX12_goesIn_31 rfl (lv_at hl 0 rfl) ?_
    replace hf := bndv_some hf
    obtain ⟨g2, hc, hf⟩ := hf
    refine m_callVv [] C h cv_X12_140 (qX12_readsOn hc) rfl ⟨rfl, rfl⟩ ⟨Nat.le_of_ble_eq_true rfl, Nat.le_of_ble_eq_true rfl⟩ (m_recv C h) hl.1 rfl (Nat.le_of_ble_eq_true rfl) ⟨Nat.le_refl _, Nat.le_refl _⟩ dX12_goesIn_32 (fun H locs h => ?_)
    clear hc
    have e1 := Option.some.inj hf
    subst e1
    exact m_vret C h dX12_goesIn_35

set_option maxHeartbeats 4000000 in
set_option maxRecDepth 100000 in
theorem qX12_goesIn {l : Launch} {D : va_G} {cs : Nat → ClassId} {ad : Nat → Nat} {g' : MS} {g : MS}  (hf : fX12_goesIn g = some g') : GCon l D cs yX12_goesIn cX12_goesIn 1 none (rM 2) 0 0 [.ref (ad 48)] (MW cs ad g) none (MW cs ad g') := by
  refine GCon.of (by decide) (Nat.le_of_ble_eq_true rfl) ?_
  intro p e s m args below meth c A ls H locs C h hl
  have hx := C.1
  have hb := C.2.1
  have C : MCx p s m args meth c A RX12 cX12_goesIn 1 none D cs := C
  have hl : lv_has ls 1 [(0, .ref (ad 48))] := hl
  unfold fX12_goesIn at hf
  refine lv_aload_n hx hb dX12_goesIn_0 rfl (lv_at hl 0 rfl) ?_
  refine mg_16 C h dX12_goesIn_1 ?_
  refine lv_bipush (v := (6 : Int32)) hx hb dX12_goesIn_4 (by decide) ?_
  refine lv_icmp_ne (tgt := 14) hx hb dX12_goesIn_6 (by decide) (fun hq => ?_) (fun hq => ?_)
  · replace hf := if_tn hq hf
    clear hq
    exact wX12_goesIn_14 C g hf H locs ls h (lv_sub hl [0] rfl)
  · replace hf := if_t hq hf
    clear hq
    refine lv_aload_n hx hb dX12_goesIn_9 rfl (lv_at hl 0 rfl) ?_
    refine lv_iconst (v := (4 : Int32)) hx hb dX12_goesIn_10 (by decide) ?_
    replace hf := bndv_some hf
    obtain ⟨g3, hc, hf⟩ := hf
    refine m_callVv [.int (4 : Int32)] C h cv_X12_143 (qX12_blames hc) rfl ⟨rfl, rfl⟩ ⟨Nat.le_of_ble_eq_true rfl, Nat.le_of_ble_eq_true rfl⟩ (m_recv C h) hl.1 rfl (Nat.le_of_ble_eq_true rfl) ⟨Nat.le_refl _, Nat.le_refl _⟩ dX12_goesIn_11 (fun H locs h => ?_)
    clear hc
    exact wX12_goesIn_14 C g3 hf H locs ls h (lv_sub hl [0] rfl)

set_option maxHeartbeats 4000000 in
set_option maxRecDepth 100000 in
theorem wX12_lawWord_72 (C : MCx p s m args meth c A RX12 cX12_lawWord 1 (some .int) D cs) (hks : KS adK adV A s s.heap)  {r : Int32} {g' : MS}  : ∀ (g : MS) (t1 : Nat), t1 < nS → fX12_lawWord_72 g t1 = some (r, g') → ∀ (H : Heap) (locs : List Loc) (ls : Array Slot), MH D (MW cs ad g) A s H locs → lv_has ls 1 [] → W p l e (rM 6) s m args below meth c H locs 0 0 (MQ below (GPost D (some (.int r)) (MW cs ad g') A) args s 0 0 A) (F0 m 72 ls [.ref (adK t1), .ref (ad 48)]) := by
  have hx := C.1
  have hb := C.2.1
  intro g t1 hn_t1 hf H locs ls h hl
  unfold fX12_lawWord_72 at hf
  replace hf := bndc_some hf
  obtain ⟨x1, g2, hc, hf⟩ := hf
  refine m_callVKi [.ref (adK t1)] C hks h cv_X12_151 (qX12_took hn_t1 hc) rfl ⟨rfl, rfl⟩ ⟨Nat.le_of_ble_eq_true rfl, Nat.le_of_ble_eq_true rfl⟩ (m_recv C h) hl.1 rfl (Nat.le_of_ble_eq_true rfl) ⟨Nat.le_refl _, Nat.le_refl _⟩ dX12_lawWord_72 (fun H locs h => ?_)
  clear hc
  refine lv_if_eq (tgt := 82) hx hb dX12_lawWord_75 (by decide) (fun hq => ?_) (fun hq => ?_)
  · replace hf := if_t hq hf
    clear hq
    refine lv_iconst (v := (-1 : Int32)) hx hb dX12_lawWord_82 (by decide) ?_
    obtain ⟨e1, e2⟩ := pr_inj hf
    subst e1 e2
    exact m_iret C h dX12_lawWord_83
  · replace hf := if_f hq hf
    clear hq
    refine lv_iconst (v := (3 : Int32)) hx hb dX12_lawWord_78 (by decide) ?_
    refine lv_goto (tgt := 83) hx hb dX12_lawWord_79 (by decide) ?_
    obtain ⟨e1, e2⟩ := pr_inj hf
    subst e1 e2
    exact m_iret C h dX12_lawWord_83

set_option maxHeartbeats 4000000 in
set_option maxRecDepth 100000 in
theorem wX12_lawWord_48 (C : MCx p s m args meth c A RX12 cX12_lawWord 1 (some .int) D cs) (hks : KS adK adV A s s.heap)  {r : Int32} {g' : MS}  : ∀ (g : MS) (t1 : Nat), t1 < nS → fX12_lawWord_48 g t1 = some (r, g') → ∀ (H : Heap) (locs : List Loc) (ls : Array Slot), MH D (MW cs ad g) A s H locs → lv_has ls 1 [(0, .ref (ad 48))] → W p l e (rM 6) s m args below meth c H locs 0 0 (MQ below (GPost D (some (.int r)) (MW cs ad g') A) args s 0 0 A) (F0 m 48 ls [.ref (adK t1), .ref (ad 48)]) := by
  have hx := C.1
  have hb := C.2.1
  intro g t1 hn_t1 hf H locs ls h hl
  unfold fX12_lawWord_48 at hf
  replace hf := bndc_some hf
  obtain ⟨x3, g4, hc, hf⟩ := hf
  refine m_callVKi [.ref (adK t1)] C hks h cv_X12_151 (qX12_took hn_t1 hc) rfl ⟨rfl, rfl⟩ ⟨Nat.le_of_ble_eq_true rfl, Nat.le_of_ble_eq_true rfl⟩ (m_recv C h) hl.1 rfl (Nat.le_of_ble_eq_true rfl) ⟨Nat.le_refl _, Nat.le_refl _⟩ dX12_lawWord_48 (fun H locs h => ?_)
  clear hc
  refine lv_if_eq (tgt := 56) hx hb dX12_lawWord_51 (by decide) (fun hq => ?_) (fun hq => ?_)
  · replace hf := if_t hq hf
    clear hq
    refine lv_aload_n hx hb dX12_lawWord_56 rfl (lv_at hl 0 rfl) ?_
    refine lv_aload_n hx hb dX12_lawWord_57 rfl (lv_at hl 0 rfl) ?_
    refine mg_17 C h dX12_lawWord_58 ?_
    refine lv_iconst (v := (2 : Int32)) hx hb dX12_lawWord_61 (by decide) ?_
    refine lv_icmp_ne (tgt := 70) hx hb dX12_lawWord_62 (by decide) (fun hq => ?_) (fun hq => ?_)
    · replace hf := if_tn hq hf
      clear hq
      refine va_ldcS (own := RX12) (index := 209) (tx := "votes") (q := adK 48) hx hb C.2.2.2.1 (hks.2.1 48 (by decide)) dX12_lawWord_70 ?_
      exact wX12_lawWord_72 C hks g4 48 (by decide) hf H locs ls h (lv_sub hl [] rfl)
    · replace hf := if_t hq hf
      clear hq
      refine va_ldcS (own := RX12) (index := 207) (tx := "apart") (q := adK 47) hx hb C.2.2.2.1 (hks.2.1 47 (by decide)) dX12_lawWord_65 ?_
      refine lv_goto (tgt := 72) hx hb dX12_lawWord_67 (by decide) ?_
      exact wX12_lawWord_72 C hks g4 47 (by decide) hf H locs ls h (lv_sub hl [] rfl)
  · replace hf := if_f hq hf
    clear hq
    refine lv_iconst (v := (2 : Int32)) hx hb dX12_lawWord_54 (by decide) ?_
    obtain ⟨e1, e2⟩ := pr_inj hf
    subst e1 e2
    exact m_iret C h dX12_lawWord_55

set_option maxHeartbeats 4000000 in
set_option maxRecDepth 100000 in
theorem qX12_lawWord {l : Launch} {D : va_G} {cs : Nat → ClassId} {ad : Nat → Nat} {adK adV : Nat → Nat} {r : Int32} {g' : MS} {g : MS}  (hf : fX12_lawWord g = some (r, g')) : GConK l D cs adK adV yX12_lawWord cX12_lawWord 1 (some .int) (rM 6) 0 0 [.ref (ad 48)] (MW cs ad g) (some (.int r)) (MW cs ad g') := by
  refine GConK.of (by decide) (Nat.le_of_ble_eq_true rfl) ?_
  intro p e s m args below meth c A ls H locs C hks h hl
  have hx := C.1
  have hb := C.2.1
  have C : MCx p s m args meth c A RX12 cX12_lawWord 1 (some .int) D cs := C
  have hl : lv_has ls 1 [(0, .ref (ad 48))] := hl
  unfold fX12_lawWord at hf
  refine lv_aload_n hx hb dX12_lawWord_0 rfl (lv_at hl 0 rfl) ?_
  refine va_ldcS (own := RX12) (index := 199) (tx := "who") (q := adK 44) hx hb C.2.2.2.1 (hks.2.1 44 (by decide)) dX12_lawWord_1 ?_
  replace hf := bndc_some hf
  obtain ⟨x5, g6, hc, hf⟩ := hf
  refine m_callVKi [.ref (adK 44)] C hks h cv_X12_151 (qX12_took (by decide) hc) rfl ⟨rfl, rfl⟩ ⟨Nat.le_of_ble_eq_true rfl, Nat.le_of_ble_eq_true rfl⟩ (m_recv C h) hl.1 rfl (Nat.le_of_ble_eq_true rfl) ⟨Nat.le_refl _, Nat.le_refl _⟩ dX12_lawWord_3 (fun H locs h => ?_)
  clear hc
  refine lv_if_eq (tgt := 11) hx hb dX12_lawWord_6 (by decide) (fun hq => ?_) (fun hq => ?_)
  · replace hf := if_t hq hf
    clear hq
    refine lv_aload_n hx hb dX12_lawWord_11 rfl (lv_at hl 0 rfl) ?_
    refine va_ldcS (own := RX12) (index := 201) (tx := "weight") (q := adK 40) hx hb C.2.2.2.1 (hks.2.1 40 (by decide)) dX12_lawWord_12 ?_
    replace hf := bndc_some hf
    obtain ⟨x7, g8, hc, hf⟩ := hf
    refine m_callVKi [.ref (adK 40)] C hks h cv_X12_151 (qX12_took (by decide) hc) rfl ⟨rfl, rfl⟩ ⟨Nat.le_of_ble_eq_true rfl, Nat.le_of_ble_eq_true rfl⟩ (m_recv C h) hl.1 rfl (Nat.le_of_ble_eq_true rfl) ⟨Nat.le_refl _, Nat.le_refl _⟩ dX12_lawWord_14 (fun H locs h => ?_)
    clear hc
    refine lv_if_eq (tgt := 22) hx hb dX12_lawWord_17 (by decide) (fun hq => ?_) (fun hq => ?_)
    · replace hf := if_t hq hf
      clear hq
      refine lv_aload_n hx hb dX12_lawWord_22 rfl (lv_at hl 0 rfl) ?_
      refine mg_17 C h dX12_lawWord_23 ?_
      refine lv_iconst (v := (3 : Int32)) hx hb dX12_lawWord_26 (by decide) ?_
      refine lv_icmp_ne (tgt := 32) hx hb dX12_lawWord_27 (by decide) (fun hq => ?_) (fun hq => ?_)
      · replace hf := if_tn hq hf
        clear hq
        refine lv_aload_n hx hb dX12_lawWord_32 rfl (lv_at hl 0 rfl) ?_
        refine lv_aload_n hx hb dX12_lawWord_33 rfl (lv_at hl 0 rfl) ?_
        refine mg_17 C h dX12_lawWord_34 ?_
        refine lv_iconst (v := (2 : Int32)) hx hb dX12_lawWord_37 (by decide) ?_
        refine lv_icmp_ne (tgt := 46) hx hb dX12_lawWord_38 (by decide) (fun hq => ?_) (fun hq => ?_)
        · replace hf := if_tn hq hf
          clear hq
          refine va_ldcS (own := RX12) (index := 205) (tx := "aim") (q := adK 46) hx hb C.2.2.2.1 (hks.2.1 46 (by decide)) dX12_lawWord_46 ?_
          exact wX12_lawWord_48 C hks g8 46 (by decide) hf H locs ls h (lv_sub hl [0] rfl)
        · replace hf := if_t hq hf
          clear hq
          refine va_ldcS (own := RX12) (index := 203) (tx := "other") (q := adK 45) hx hb C.2.2.2.1 (hks.2.1 45 (by decide)) dX12_lawWord_41 ?_
          refine lv_goto (tgt := 48) hx hb dX12_lawWord_43 (by decide) ?_
          exact wX12_lawWord_48 C hks g8 45 (by decide) hf H locs ls h (lv_sub hl [0] rfl)
      · replace hf := if_t hq hf
        clear hq
        refine lv_iconst (v := (-1 : Int32)) hx hb dX12_lawWord_30 (by decide) ?_
        obtain ⟨e1, e2⟩ := pr_inj hf
        subst e1 e2
        exact m_iret C h dX12_lawWord_31
    · replace hf := if_f hq hf
      clear hq
      refine lv_iconst (v := (1 : Int32)) hx hb dX12_lawWord_20 (by decide) ?_
      obtain ⟨e1, e2⟩ := pr_inj hf
      subst e1 e2
      exact m_iret C h dX12_lawWord_21
  · replace hf := if_f hq hf
    clear hq
    refine lv_iconst (v := (0 : Int32)) hx hb dX12_lawWord_9 (by decide) ?_
    obtain ⟨e1, e2⟩ := pr_inj hf
    subst e1 e2
    exact m_iret C h dX12_lawWord_10

set_option maxHeartbeats 4000000 in
set_option maxRecDepth 100000 in
theorem qX12_readAtomB {l : Launch} {D : va_G} {cs : Nat → ClassId} {ad : Nat → Nat} {adK adV : Nat → Nat} {dR dd : Nat} (hdR : 7 + 3 * dd + 1 ≤ dR) {r_readSum : MS → Option (MS)} (h_readSum : ∀ {g1 g2 : MS}, r_readSum g1 = some g2 → GConK l D cs adK adV yX12_readSum cX12_readSum 2 none (rM (7 + 3 * dd)) 0 0 [.ref (ad 48)] (MW cs ad g1) none (MW cs ad g2)) {g' : MS} {g : MS}  (hf : fX12_readAtomB r_readSum g = some g') : GConK l D cs adK adV yX12_readAtom cX12_readAtom 3 none (rM dR) 0 0 [.ref (ad 48)] (MW cs ad g) none (MW cs ad g') := by
  refine GConK.of (by decide) (Nat.le_of_ble_eq_true rfl) ?_
  intro p e s m args below meth c A ls H locs C hks h hl
  have hx := C.1
  have hb := C.2.1
  have C : MCx p s m args meth c A RX12 cX12_readAtom 3 none D cs := C
  have hl : lv_has ls 3 [(0, .ref (ad 48))] := hl
  unfold fX12_readAtomB at hf
  refine lv_aload_n hx hb dX12_readAtom_0 rfl (lv_at hl 0 rfl) ?_
  refine mg_12 C h dX12_readAtom_1 ?_
  refine lv_if_eq (tgt := 8) hx hb dX12_readAtom_4 (by decide) (fun hq => ?_) (fun hq => ?_)
  · replace hf := if_t hq hf
    clear hq
    refine lv_aload_n hx hb dX12_readAtom_8 rfl (lv_at hl 0 rfl) ?_
    replace hf := bndc_some hf
    obtain ⟨x1, g2, hc, hf⟩ := hf
    refine m_callVKi [] C hks h cv_X12_210 (qX12_lawWord hc) rfl ⟨rfl, rfl⟩ ⟨by simp only [rM]; omega, by simp only [rM]; omega⟩ (m_recv C h) hl.1 rfl (Nat.le_of_ble_eq_true rfl) ⟨Nat.le_refl _, Nat.le_refl _⟩ dX12_readAtom_9 (fun H locs h => ?_)
    clear hc
    refine lv_istore_n (lv' := [(1, .int x1), (0, .ref (ad 48))]) hx hb dX12_readAtom_12 rfl hl (by decide) rfl (fun ls hl => ?_)
    refine lv_iload_n hx hb dX12_readAtom_13 rfl (lv_at hl 0 rfl) ?_
    refine lv_iconst (v := (-1 : Int32)) hx hb dX12_readAtom_14 (by decide) ?_
    refine lv_icmp_eq (tgt := 29) hx hb dX12_readAtom_15 (by decide) (fun hq => ?_) (fun hq => ?_)
    · replace hf := if_t hq hf
      clear hq
      refine lv_aload_n hx hb dX12_readAtom_29 rfl (lv_at hl 1 rfl) ?_
      refine lv_bipush (v := (40 : Int32)) hx hb dX12_readAtom_30 (by decide) ?_
      replace hf := bndc_some hf
      obtain ⟨x3, g4, hc, hf⟩ := hf
      refine m_callVi [.int (40 : Int32)] C h cv_X12_184 (qX12_isSign hc) rfl ⟨rfl, rfl⟩ ⟨by simp only [rM]; omega, by simp only [rM]; omega⟩ (m_recv C h) hl.1 rfl (Nat.le_of_ble_eq_true rfl) ⟨Nat.le_refl _, Nat.le_refl _⟩ dX12_readAtom_32 (fun H locs h => ?_)
      clear hc
      refine lv_if_eq (tgt := 65) hx hb dX12_readAtom_35 (by decide) (fun hq => ?_) (fun hq => ?_)
      · replace hf := if_t hq hf
        clear hq
        refine lv_aload_n hx hb dX12_readAtom_65 rfl (lv_at hl 1 rfl) ?_
        refine lv_iconst (v := (0 : Int32)) hx hb dX12_readAtom_66 (by decide) ?_
        refine lv_sipush (v := (999 : Int32)) hx hb dX12_readAtom_67 (by decide) ?_
        replace hf := bndc_some hf
        obtain ⟨x5, g6, hc, hf⟩ := hf
        refine m_callVi [.int (0 : Int32), .int (999 : Int32)] C h cv_X12_213 (qX12_number hc) rfl ⟨rfl, rfl⟩ ⟨by simp only [rM]; omega, by simp only [rM]; omega⟩ (m_recv C h) hl.1 rfl (Nat.le_of_ble_eq_true rfl) ⟨Nat.le_refl _, Nat.le_refl _⟩ dX12_readAtom_70 (fun H locs h => ?_)
        clear hc
        refine lv_istore_n (lv' := [(2, .int x5), (1, .int x1), (0, .ref (ad 48))]) hx hb dX12_readAtom_73 rfl hl (by decide) rfl (fun ls hl => ?_)
        refine lv_aload_n hx hb dX12_readAtom_74 rfl (lv_at hl 2 rfl) ?_
        refine lv_sipush (v := (1000 : Int32)) hx hb dX12_readAtom_75 (by decide) ?_
        refine lv_iload_n hx hb dX12_readAtom_78 rfl (lv_at hl 0 rfl) ?_
        refine lv_iadd hx hb dX12_readAtom_79 ?_
        replace hf := bndv_some hf
        obtain ⟨g7, hc, hf⟩ := hf
        refine m_callVv [.int ((1000 : Int32) + x5)] C h cv_X12_171 (qX12_laysStep hc) rfl ⟨rfl, rfl⟩ ⟨by simp only [rM]; omega, by simp only [rM]; omega⟩ (m_recv C h) hl.1 rfl (Nat.le_of_ble_eq_true rfl) ⟨Nat.le_refl _, Nat.le_refl _⟩ dX12_readAtom_80 (fun H locs h => ?_)
        clear hc
        have e1 := Option.some.inj hf
        subst e1
        exact m_vret C h dX12_readAtom_83
      · replace hf := if_f hq hf
        clear hq
        refine lv_aload_n hx hb dX12_readAtom_38 rfl (lv_at hl 1 rfl) ?_
        replace hf := bndv_some hf
        obtain ⟨g8, hc, hf⟩ := hf
        refine m_callVv [] C h cv_X12_181 (qX12_goesIn hc) rfl ⟨rfl, rfl⟩ ⟨by simp only [rM]; omega, by simp only [rM]; omega⟩ (m_recv C h) hl.1 rfl (Nat.le_of_ble_eq_true rfl) ⟨Nat.le_refl _, Nat.le_refl _⟩ dX12_readAtom_39 (fun H locs h => ?_)
        clear hc
        refine lv_aload_n hx hb dX12_readAtom_42 rfl (lv_at hl 1 rfl) ?_
        replace hf := bndv_some hf
        obtain ⟨g9, hc, hf⟩ := hf
        refine m_callVKv [] C hks h cv_X12_190 (h_readSum hc) rfl ⟨rfl, rfl⟩ ⟨by simp only [rM]; omega, by simp only [rM]; omega⟩ (m_recv C h) hl.1 rfl (Nat.le_of_ble_eq_true rfl) ⟨Nat.le_refl _, Nat.le_refl _⟩ dX12_readAtom_43 (fun H locs h => ?_)
        clear hc
        refine lv_aload_n hx hb dX12_readAtom_46 rfl (lv_at hl 1 rfl) ?_
        refine lv_bipush (v := (41 : Int32)) hx hb dX12_readAtom_47 (by decide) ?_
        replace hf := bndv_some hf
        obtain ⟨g10, hc, hf⟩ := hf
        refine m_callVv [.int (41 : Int32)] C h cv_X12_160 (qX12_mustSign hc) rfl ⟨rfl, rfl⟩ ⟨by simp only [rM]; omega, by simp only [rM]; omega⟩ (m_recv C h) hl.1 rfl (Nat.le_of_ble_eq_true rfl) ⟨Nat.le_refl _, Nat.le_refl _⟩ dX12_readAtom_49 (fun H locs h => ?_)
        clear hc
        refine lv_aload_n hx hb dX12_readAtom_52 rfl (lv_at hl 1 rfl) ?_
        refine lv_dup hx hb dX12_readAtom_53 rfl ?_
        refine mg_16 C h dX12_readAtom_54 ?_
        refine lv_iconst (v := (1 : Int32)) hx hb dX12_readAtom_57 (by decide) ?_
        refine lv_isub hx hb dX12_readAtom_58 ?_
        replace hf := bnd_ex hf
        obtain ⟨g11, eg11, hf⟩ := hf
        refine mp_16 C h dX12_readAtom_59 (fun H locs h => ?_)
        rw [← eg11] at h
        clear eg11
        refine lv_goto (tgt := 83) hx hb dX12_readAtom_62 (by decide) ?_
        have e1 := Option.some.inj hf
        subst e1
        exact m_vret C h dX12_readAtom_83
    · replace hf := if_f hq hf
      clear hq
      refine lv_aload_n hx hb dX12_readAtom_18 rfl (lv_at hl 1 rfl) ?_
      refine lv_bipush (v := (100 : Int32)) hx hb dX12_readAtom_19 (by decide) ?_
      refine lv_iload_n hx hb dX12_readAtom_21 rfl (lv_at hl 0 rfl) ?_
      refine lv_iadd hx hb dX12_readAtom_22 ?_
      replace hf := bndv_some hf
      obtain ⟨g12, hc, hf⟩ := hf
      refine m_callVv [.int ((100 : Int32) + x1)] C h cv_X12_171 (qX12_laysStep hc) rfl ⟨rfl, rfl⟩ ⟨by simp only [rM]; omega, by simp only [rM]; omega⟩ (m_recv C h) hl.1 rfl (Nat.le_of_ble_eq_true rfl) ⟨Nat.le_refl _, Nat.le_refl _⟩ dX12_readAtom_23 (fun H locs h => ?_)
      clear hc
      refine lv_goto (tgt := 83) hx hb dX12_readAtom_26 (by decide) ?_
      have e1 := Option.some.inj hf
      subst e1
      exact m_vret C h dX12_readAtom_83
  · replace hf := if_f hq hf
    clear hq
    have e1 := Option.some.inj hf
    subst e1
    exact m_vret C h dX12_readAtom_7

set_option maxHeartbeats 4000000 in
set_option maxRecDepth 100000 in
theorem wX12_readTerm_4 (C : MCx p s m args meth c A RX12 cX12_readTerm 1 none D cs) (hks : KS adK adV A s s.heap)  {dR dd : Nat} (hdR : 7 + 3 * dd + 2 ≤ dR) {r_readSum : MS → Option (MS)} (h_readSum : ∀ {g1 g2 : MS}, r_readSum g1 = some g2 → GConK l D cs adK adV yX12_readSum cX12_readSum 2 none (rM (7 + 3 * dd)) 0 0 [.ref (ad 48)] (MW cs ad g1) none (MW cs ad g2)) {g' : MS}  : ∀ (n : Nat) (g : MS), fX12_readTerm_4 r_readSum n g = some g' → ∀ (H : Heap) (locs : List Loc) (ls : Array Slot), MH D (MW cs ad g) A s H locs → lv_has ls 1 [(0, .ref (ad 48))] → W p l e (rM dR) s m args below meth c H locs 0 0 (MQ below (GPost D none (MW cs ad g') A) args s 0 0 A) (F0 m 4 ls []) := by
  have hx := C.1
  have hb := C.2.1
  intro n
  induction n with
  | zero =>
    intro g hf
    exact absurd hf (by simp [fX12_readTerm_4])
  | succ n ih =>
    intro g hf H locs ls h hl
    rw [fX12_readTerm_4] at hf
    refine lv_aload_n hx hb dX12_readTerm_4 rfl (lv_at hl 0 rfl) ?_
    refine lv_bipush (v := (42 : Int32)) hx hb dX12_readTerm_5 (by decide) ?_
    replace hf := bndc_some hf
    obtain ⟨x1, g2, hc, hf⟩ := hf
    refine m_callVi [.int (42 : Int32)] C h cv_X12_184 (qX12_isSign hc) rfl ⟨rfl, rfl⟩ ⟨by simp only [rM]; omega, by simp only [rM]; omega⟩ (m_recv C h) hl.1 rfl (Nat.le_of_ble_eq_true rfl) ⟨Nat.le_refl _, Nat.le_refl _⟩ dX12_readTerm_7 (fun H locs h => ?_)
    clear hc
    refine lv_if_eq (tgt := 30) hx hb dX12_readTerm_10 (by decide) (fun hq => ?_) (fun hq => ?_)
    · replace hf := if_t hq hf
      clear hq
      have e1 := Option.some.inj hf
      subst e1
      exact m_vret C h dX12_readTerm_30
    · replace hf := if_f hq hf
      clear hq
      refine lv_aload_n hx hb dX12_readTerm_13 rfl (lv_at hl 0 rfl) ?_
      replace hf := bndv_some hf
      obtain ⟨g3, hc, hf⟩ := hf
      refine m_callVv [] C h cv_X12_140 (qX12_readsOn hc) rfl ⟨rfl, rfl⟩ ⟨by simp only [rM]; omega, by simp only [rM]; omega⟩ (m_recv C h) hl.1 rfl (Nat.le_of_ble_eq_true rfl) ⟨Nat.le_refl _, Nat.le_refl _⟩ dX12_readTerm_14 (fun H locs h => ?_)
      clear hc
      refine lv_aload_n hx hb dX12_readTerm_17 rfl (lv_at hl 0 rfl) ?_
      replace hf := bndv_some hf
      obtain ⟨g4, hc, hf⟩ := hf
      refine m_callVKv [] C hks h cv_X12_196 (qX12_readAtomB (dR := dR - 1) (dd := dd) (by omega) h_readSum hc) rfl ⟨rfl, rfl⟩ ⟨by simp only [rM]; omega, by simp only [rM]; omega⟩ (m_recv C h) hl.1 rfl (Nat.le_of_ble_eq_true rfl) ⟨Nat.le_refl _, Nat.le_refl _⟩ dX12_readTerm_18 (fun H locs h => ?_)
      clear hc
      refine lv_aload_n hx hb dX12_readTerm_21 rfl (lv_at hl 0 rfl) ?_
      refine lv_bipush (v := (12 : Int32)) hx hb dX12_readTerm_22 (by decide) ?_
      replace hf := bndv_some hf
      obtain ⟨g5, hc, hf⟩ := hf
      refine m_callVv [.int (12 : Int32)] C h cv_X12_171 (qX12_laysStep hc) rfl ⟨rfl, rfl⟩ ⟨by simp only [rM]; omega, by simp only [rM]; omega⟩ (m_recv C h) hl.1 rfl (Nat.le_of_ble_eq_true rfl) ⟨Nat.le_refl _, Nat.le_refl _⟩ dX12_readTerm_24 (fun H locs h => ?_)
      clear hc
      refine lv_goto (tgt := 4) hx hb dX12_readTerm_27 (by decide) ?_
      exact ih g5 hf H locs ls h (lv_sub hl [0] rfl)

set_option maxHeartbeats 4000000 in
set_option maxRecDepth 100000 in
theorem qX12_readTermB {l : Launch} {D : va_G} {cs : Nat → ClassId} {ad : Nat → Nat} {adK adV : Nat → Nat} {dR dd : Nat} (hdR : 7 + 3 * dd + 2 ≤ dR) {r_readSum : MS → Option (MS)} (h_readSum : ∀ {g1 g2 : MS}, r_readSum g1 = some g2 → GConK l D cs adK adV yX12_readSum cX12_readSum 2 none (rM (7 + 3 * dd)) 0 0 [.ref (ad 48)] (MW cs ad g1) none (MW cs ad g2)) {g' : MS} {g : MS}  (hf : fX12_readTermB r_readSum g = some g') : GConK l D cs adK adV yX12_readTerm cX12_readTerm 1 none (rM dR) 0 0 [.ref (ad 48)] (MW cs ad g) none (MW cs ad g') := by
  refine GConK.of (by decide) (Nat.le_of_ble_eq_true rfl) ?_
  intro p e s m args below meth c A ls H locs C hks h hl
  have hx := C.1
  have hb := C.2.1
  have C : MCx p s m args meth c A RX12 cX12_readTerm 1 none D cs := C
  have hl : lv_has ls 1 [(0, .ref (ad 48))] := hl
  unfold fX12_readTermB at hf
  refine lv_aload_n hx hb dX12_readTerm_0 rfl (lv_at hl 0 rfl) ?_
  replace hf := bndv_some hf
  obtain ⟨g6, hc, hf⟩ := hf
  refine m_callVKv [] C hks h cv_X12_196 (qX12_readAtomB (dR := dR - 1) (dd := dd) (by omega) h_readSum hc) rfl ⟨rfl, rfl⟩ ⟨by simp only [rM]; omega, by simp only [rM]; omega⟩ (m_recv C h) hl.1 rfl (Nat.le_of_ble_eq_true rfl) ⟨Nat.le_refl _, Nat.le_refl _⟩ dX12_readTerm_1 (fun H locs h => ?_)
  clear hc
  exact wX12_readTerm_4 C hks hdR h_readSum fuel g6 hf H locs ls h (lv_sub hl [0] rfl)

set_option maxHeartbeats 4000000 in
set_option maxRecDepth 100000 in
theorem wX12_readSum_49 (C : MCx p s m args meth c A RX12 cX12_readSum 2 none D cs) (hks : KS adK adV A s s.heap)  {dR dd : Nat} (hdR : 7 + 3 * dd + 3 ≤ dR) {r_readSum : MS → Option (MS)} (h_readSum : ∀ {g1 g2 : MS}, r_readSum g1 = some g2 → GConK l D cs adK adV yX12_readSum cX12_readSum 2 none (rM (7 + 3 * dd)) 0 0 [.ref (ad 48)] (MW cs ad g1) none (MW cs ad g2)) {g' : MS}  {k4 : MS → Option (MS)} (hk4 : ∀ (g : MS), k4 g = some g' → ∀ (H : Heap) (locs : List Loc) (ls : Array Slot), MH D (MW cs ad g) A s H locs → lv_has ls 2 [(0, .ref (ad 48))] → W p l e (rM dR) s m args below meth c H locs 0 0 (MQ below (GPost D none (MW cs ad g') A) args s 0 0 A) (F0 m 4 ls [])) : ∀ (g : MS) (t1 : Int32), fX12_readSum_49 r_readSum k4 g t1 = some g' → ∀ (H : Heap) (locs : List Loc) (ls : Array Slot), MH D (MW cs ad g) A s H locs → lv_has ls 2 [(0, .ref (ad 48))] → W p l e (rM dR) s m args below meth c H locs 0 0 (MQ below (GPost D none (MW cs ad g') A) args s 0 0 A) (F0 m 49 ls [.int t1, .ref (ad 48)]) := by
  have hx := C.1
  have hb := C.2.1
  intro g t1 hf H locs ls h hl
  unfold fX12_readSum_49 at hf
  replace hf := bndv_some hf
  obtain ⟨g1, hc, hf⟩ := hf
  refine m_callVv [.int t1] C h cv_X12_171 (qX12_laysStep hc) rfl ⟨rfl, rfl⟩ ⟨by simp only [rM]; omega, by simp only [rM]; omega⟩ (m_recv C h) hl.1 rfl (Nat.le_of_ble_eq_true rfl) ⟨Nat.le_refl _, Nat.le_refl _⟩ dX12_readSum_49 (fun H locs h => ?_)
  clear hc
  refine lv_goto (tgt := 4) hx hb dX12_readSum_52 (by decide) ?_
  exact hk4 g1 hf H locs ls h (lv_sub hl [0] rfl)

set_option maxHeartbeats 4000000 in
set_option maxRecDepth 100000 in
theorem wX12_readSum_22 (C : MCx p s m args meth c A RX12 cX12_readSum 2 none D cs) (hks : KS adK adV A s s.heap)  {dR dd : Nat} (hdR : 7 + 3 * dd + 3 ≤ dR) {r_readSum : MS → Option (MS)} (h_readSum : ∀ {g1 g2 : MS}, r_readSum g1 = some g2 → GConK l D cs adK adV yX12_readSum cX12_readSum 2 none (rM (7 + 3 * dd)) 0 0 [.ref (ad 48)] (MW cs ad g1) none (MW cs ad g2)) {g' : MS}  {k4 : MS → Option (MS)} (hk4 : ∀ (g : MS), k4 g = some g' → ∀ (H : Heap) (locs : List Loc) (ls : Array Slot), MH D (MW cs ad g) A s H locs → lv_has ls 2 [(0, .ref (ad 48))] → W p l e (rM dR) s m args below meth c H locs 0 0 (MQ below (GPost D none (MW cs ad g') A) args s 0 0 A) (F0 m 4 ls [])) : ∀ (g : MS), fX12_readSum_22 r_readSum k4 g = some g' → ∀ (H : Heap) (locs : List Loc) (ls : Array Slot), MH D (MW cs ad g) A s H locs → lv_has ls 2 [(0, .ref (ad 48))] → W p l e (rM dR) s m args below meth c H locs 0 0 (MQ below (GPost D none (MW cs ad g') A) args s 0 0 A) (F0 m 22 ls []) := by
  have hx := C.1
  have hb := C.2.1
  intro g hf H locs ls h hl
  unfold fX12_readSum_22 at hf
  refine lv_aload_n hx hb dX12_readSum_22 rfl (lv_at hl 0 rfl) ?_
  refine mg_10 C h dX12_readSum_23 ?_
  refine lv_topi (fun x2 ex2 => ?_)
  replace hf := bnd_at ex2 hf
  clear ex2
  refine lv_istore_n (lv' := [(1, .int x2), (0, .ref (ad 48))]) hx hb dX12_readSum_26 rfl hl (by decide) rfl (fun ls hl => ?_)
  refine lv_aload_n hx hb dX12_readSum_27 rfl (lv_at hl 1 rfl) ?_
  replace hf := bndv_some hf
  obtain ⟨g3, hc, hf⟩ := hf
  refine m_callVv [] C h cv_X12_140 (qX12_readsOn hc) rfl ⟨rfl, rfl⟩ ⟨by simp only [rM]; omega, by simp only [rM]; omega⟩ (m_recv C h) hl.1 rfl (Nat.le_of_ble_eq_true rfl) ⟨Nat.le_refl _, Nat.le_refl _⟩ dX12_readSum_28 (fun H locs h => ?_)
  clear hc
  refine lv_aload_n hx hb dX12_readSum_31 rfl (lv_at hl 1 rfl) ?_
  replace hf := bndv_some hf
  obtain ⟨g4, hc, hf⟩ := hf
  refine m_callVKv [] C hks h cv_X12_193 (qX12_readTermB (dR := dR - 1) (dd := dd) (by omega) h_readSum hc) rfl ⟨rfl, rfl⟩ ⟨by simp only [rM]; omega, by simp only [rM]; omega⟩ (m_recv C h) hl.1 rfl (Nat.le_of_ble_eq_true rfl) ⟨Nat.le_refl _, Nat.le_refl _⟩ dX12_readSum_32 (fun H locs h => ?_)
  clear hc
  refine lv_aload_n hx hb dX12_readSum_35 rfl (lv_at hl 1 rfl) ?_
  refine lv_iload_n hx hb dX12_readSum_36 rfl (lv_at hl 0 rfl) ?_
  refine lv_bipush (v := (43 : Int32)) hx hb dX12_readSum_37 (by decide) ?_
  refine lv_icmp_ne (tgt := 47) hx hb dX12_readSum_39 (by decide) (fun hq => ?_) (fun hq => ?_)
  · replace hf := if_tn hq hf
    clear hq
    refine lv_bipush (v := (11 : Int32)) hx hb dX12_readSum_47 (by decide) ?_
    exact wX12_readSum_49 C hks hdR h_readSum hk4 g4 (11 : Int32) hf H locs ls h (lv_sub hl [1] rfl)
  · replace hf := if_t hq hf
    clear hq
    refine lv_bipush (v := (10 : Int32)) hx hb dX12_readSum_42 (by decide) ?_
    refine lv_goto (tgt := 49) hx hb dX12_readSum_44 (by decide) ?_
    exact wX12_readSum_49 C hks hdR h_readSum hk4 g4 (10 : Int32) hf H locs ls h (lv_sub hl [1] rfl)

set_option maxHeartbeats 4000000 in
set_option maxRecDepth 100000 in
theorem wX12_readSum_4 (C : MCx p s m args meth c A RX12 cX12_readSum 2 none D cs) (hks : KS adK adV A s s.heap)  {dR dd : Nat} (hdR : 7 + 3 * dd + 3 ≤ dR) {r_readSum : MS → Option (MS)} (h_readSum : ∀ {g1 g2 : MS}, r_readSum g1 = some g2 → GConK l D cs adK adV yX12_readSum cX12_readSum 2 none (rM (7 + 3 * dd)) 0 0 [.ref (ad 48)] (MW cs ad g1) none (MW cs ad g2)) {g' : MS}  : ∀ (n : Nat) (g : MS), fX12_readSum_4 r_readSum n g = some g' → ∀ (H : Heap) (locs : List Loc) (ls : Array Slot), MH D (MW cs ad g) A s H locs → lv_has ls 2 [(0, .ref (ad 48))] → W p l e (rM dR) s m args below meth c H locs 0 0 (MQ below (GPost D none (MW cs ad g') A) args s 0 0 A) (F0 m 4 ls []) := by
  have hx := C.1
  have hb := C.2.1
  intro n
  induction n with
  | zero =>
    intro g hf
    exact absurd hf (by simp [fX12_readSum_4])
  | succ n ih =>
    intro g hf H locs ls h hl
    rw [fX12_readSum_4] at hf
    refine lv_aload_n hx hb dX12_readSum_4 rfl (lv_at hl 0 rfl) ?_
    refine lv_bipush (v := (43 : Int32)) hx hb dX12_readSum_5 (by decide) ?_
    replace hf := bndc_some hf
    obtain ⟨x5, g6, hc, hf⟩ := hf
    refine m_callVi [.int (43 : Int32)] C h cv_X12_184 (qX12_isSign hc) rfl ⟨rfl, rfl⟩ ⟨by simp only [rM]; omega, by simp only [rM]; omega⟩ (m_recv C h) hl.1 rfl (Nat.le_of_ble_eq_true rfl) ⟨Nat.le_refl _, Nat.le_refl _⟩ dX12_readSum_7 (fun H locs h => ?_)
    clear hc
    refine lv_if_ne (tgt := 22) hx hb dX12_readSum_10 (by decide) (fun hq => ?_) (fun hq => ?_)
    · replace hf := if_tn hq hf
      clear hq
      exact wX12_readSum_22 C hks hdR h_readSum ih g6 hf H locs ls h (lv_sub hl [0] rfl)
    · replace hf := if_t hq hf
      clear hq
      refine lv_aload_n hx hb dX12_readSum_13 rfl (lv_at hl 0 rfl) ?_
      refine lv_bipush (v := (45 : Int32)) hx hb dX12_readSum_14 (by decide) ?_
      replace hf := bndc_some hf
      obtain ⟨x7, g8, hc, hf⟩ := hf
      refine m_callVi [.int (45 : Int32)] C h cv_X12_184 (qX12_isSign hc) rfl ⟨rfl, rfl⟩ ⟨by simp only [rM]; omega, by simp only [rM]; omega⟩ (m_recv C h) hl.1 rfl (Nat.le_of_ble_eq_true rfl) ⟨Nat.le_refl _, Nat.le_refl _⟩ dX12_readSum_16 (fun H locs h => ?_)
      clear hc
      refine lv_if_eq (tgt := 55) hx hb dX12_readSum_19 (by decide) (fun hq => ?_) (fun hq => ?_)
      · replace hf := if_t hq hf
        clear hq
        have e1 := Option.some.inj hf
        subst e1
        exact m_vret C h dX12_readSum_55
      · replace hf := if_f hq hf
        clear hq
        exact wX12_readSum_22 C hks hdR h_readSum ih g8 hf H locs ls h (lv_sub hl [0] rfl)

set_option maxHeartbeats 4000000 in
set_option maxRecDepth 100000 in
theorem qX12_readSumB {l : Launch} {D : va_G} {cs : Nat → ClassId} {ad : Nat → Nat} {adK adV : Nat → Nat} {dR dd : Nat} (hdR : 7 + 3 * dd + 3 ≤ dR) {r_readSum : MS → Option (MS)} (h_readSum : ∀ {g1 g2 : MS}, r_readSum g1 = some g2 → GConK l D cs adK adV yX12_readSum cX12_readSum 2 none (rM (7 + 3 * dd)) 0 0 [.ref (ad 48)] (MW cs ad g1) none (MW cs ad g2)) {g' : MS} {g : MS}  (hf : fX12_readSumB r_readSum g = some g') : GConK l D cs adK adV yX12_readSum cX12_readSum 2 none (rM dR) 0 0 [.ref (ad 48)] (MW cs ad g) none (MW cs ad g') := by
  refine GConK.of (by decide) (Nat.le_of_ble_eq_true rfl) ?_
  intro p e s m args below meth c A ls H locs C hks h hl
  have hx := C.1
  have hb := C.2.1
  have C : MCx p s m args meth c A RX12 cX12_readSum 2 none D cs := C
  have hl : lv_has ls 2 [(0, .ref (ad 48))] := hl
  unfold fX12_readSumB at hf
  refine lv_aload_n hx hb dX12_readSum_0 rfl (lv_at hl 0 rfl) ?_
  replace hf := bndv_some hf
  obtain ⟨g9, hc, hf⟩ := hf
  refine m_callVKv [] C hks h cv_X12_193 (qX12_readTermB (dR := dR - 1) (dd := dd) (by omega) h_readSum hc) rfl ⟨rfl, rfl⟩ ⟨by simp only [rM]; omega, by simp only [rM]; omega⟩ (m_recv C h) hl.1 rfl (Nat.le_of_ble_eq_true rfl) ⟨Nat.le_refl _, Nat.le_refl _⟩ dX12_readSum_1 (fun H locs h => ?_)
  clear hc
  exact wX12_readSum_4 C hks hdR h_readSum fuel g9 hf H locs ls h (lv_sub hl [0] rfl)

theorem qX12_readSumD {l : Launch} {D : va_G} {cs : Nat → ClassId} {ad : Nat → Nat} {adK adV : Nat → Nat} : ∀ (n : Nat) {g g' : MS}, fX12_readSumD n g = some g' → GConK l D cs adK adV yX12_readSum cX12_readSum 2 none (rM (7 + 3 * n)) 0 0 [.ref (ad 48)] (MW cs ad g) none (MW cs ad g') := by
  intro n
  induction n with
  | zero =>
    intro g g' hf
    exact absurd hf (by simp [fX12_readSumD])
  | succ n ih =>
    intro g g' hf
    rw [fX12_readSumD] at hf
    exact qX12_readSumB (dR := 7 + 3 * (n + 1)) (dd := n) (by omega) ih hf

theorem qX12_readSum {l : Launch} {D : va_G} {cs : Nat → ClassId} {ad : Nat → Nat} {adK adV : Nat → Nat} {g g' : MS} (hf : fX12_readSum g = some g') : GConK l D cs adK adV yX12_readSum cX12_readSum 2 none (rM 43) 0 0 [.ref (ad 48)] (MW cs ad g) none (MW cs ad g') := qX12_readSumD 12 hf

set_option maxHeartbeats 4000000 in
set_option maxRecDepth 100000 in
theorem wX12_readUnit_152 (C : MCx p s m args meth c A RX12 cX12_readUnit 2 none D cs) (hks : KS adK adV A s s.heap)  {dR dd : Nat} (hdR : 44 + 3 * dd + 1 ≤ dR) {r_readUnit : MS → Option (MS)} (h_readUnit : ∀ {g1 g2 : MS}, r_readUnit g1 = some g2 → GConK l D cs adK adV yX12_readUnit cX12_readUnit 2 none (rM (44 + 3 * dd)) 0 0 [.ref (ad 48)] (MW cs ad g1) none (MW cs ad g2)) {r_readTruth : MS → Option (MS)} (h_readTruth : ∀ {g1 g2 : MS}, r_readTruth g1 = some g2 → GConK l D cs adK adV yX12_readTruth cX12_readTruth 1 none (rM (44 + 3 * dd)) 0 0 [.ref (ad 48)] (MW cs ad g1) none (MW cs ad g2)) {g' : MS}  : ∀ (g : MS) (t1 : Int32), fX12_readUnit_152 r_readUnit r_readTruth g t1 = some g' → ∀ (H : Heap) (locs : List Loc) (ls : Array Slot), MH D (MW cs ad g) A s H locs → lv_has ls 2 [] → W p l e (rM dR) s m args below meth c H locs 0 0 (MQ below (GPost D none (MW cs ad g') A) args s 0 0 A) (F0 m 152 ls [.int t1, .ref (ad 48)]) := by
  have hx := C.1
  have hb := C.2.1
  intro g t1 hf H locs ls h hl
  unfold fX12_readUnit_152 at hf
  replace hf := bndv_some hf
  obtain ⟨g1, hc, hf⟩ := hf
  refine m_callVv [.int t1] C h cv_X12_171 (qX12_laysStep hc) rfl ⟨rfl, rfl⟩ ⟨by simp only [rM]; omega, by simp only [rM]; omega⟩ (m_recv C h) hl.1 rfl (Nat.le_of_ble_eq_true rfl) ⟨Nat.le_refl _, Nat.le_refl _⟩ dX12_readUnit_152 (fun H locs h => ?_)
  clear hc
  have e1 := Option.some.inj hf
  subst e1
  exact m_vret C h dX12_readUnit_155

set_option maxHeartbeats 4000000 in
set_option maxRecDepth 100000 in
theorem wX12_readUnit_123 (C : MCx p s m args meth c A RX12 cX12_readUnit 2 none D cs) (hks : KS adK adV A s s.heap)  {dR dd : Nat} (hdR : 44 + 3 * dd + 1 ≤ dR) {r_readUnit : MS → Option (MS)} (h_readUnit : ∀ {g1 g2 : MS}, r_readUnit g1 = some g2 → GConK l D cs adK adV yX12_readUnit cX12_readUnit 2 none (rM (44 + 3 * dd)) 0 0 [.ref (ad 48)] (MW cs ad g1) none (MW cs ad g2)) {r_readTruth : MS → Option (MS)} (h_readTruth : ∀ {g1 g2 : MS}, r_readTruth g1 = some g2 → GConK l D cs adK adV yX12_readTruth cX12_readTruth 1 none (rM (44 + 3 * dd)) 0 0 [.ref (ad 48)] (MW cs ad g1) none (MW cs ad g2)) {g' : MS}  : ∀ (g : MS) (y1 : Int32), fX12_readUnit_123 r_readUnit r_readTruth g y1 = some g' → ∀ (H : Heap) (locs : List Loc) (ls : Array Slot), MH D (MW cs ad g) A s H locs → lv_has ls 2 [(0, .ref (ad 48)), (1, .int y1)] → W p l e (rM dR) s m args below meth c H locs 0 0 (MQ below (GPost D none (MW cs ad g') A) args s 0 0 A) (F0 m 123 ls []) := by
  have hx := C.1
  have hb := C.2.1
  intro g y1 hf H locs ls h hl
  unfold fX12_readUnit_123 at hf
  refine lv_aload_n hx hb dX12_readUnit_123 rfl (lv_at hl 0 rfl) ?_
  replace hf := bndv_some hf
  obtain ⟨g2, hc, hf⟩ := hf
  refine m_callVKv [] C hks h cv_X12_190 (qX12_readSum hc) rfl ⟨rfl, rfl⟩ ⟨by simp only [rM]; omega, by simp only [rM]; omega⟩ (m_recv C h) hl.1 rfl (Nat.le_of_ble_eq_true rfl) ⟨Nat.le_refl _, Nat.le_refl _⟩ dX12_readUnit_124 (fun H locs h => ?_)
  clear hc
  refine lv_aload_n hx hb dX12_readUnit_127 rfl (lv_at hl 0 rfl) ?_
  refine lv_iload_n hx hb dX12_readUnit_128 rfl (lv_at hl 1 rfl) ?_
  refine lv_bipush (v := (61 : Int32)) hx hb dX12_readUnit_129 (by decide) ?_
  refine lv_icmp_ne (tgt := 139) hx hb dX12_readUnit_131 (by decide) (fun hq => ?_) (fun hq => ?_)
  · replace hf := if_tn hq hf
    clear hq
    refine lv_iload_n hx hb dX12_readUnit_139 rfl (lv_at hl 1 rfl) ?_
    refine lv_bipush (v := (60 : Int32)) hx hb dX12_readUnit_140 (by decide) ?_
    refine lv_icmp_ne (tgt := 150) hx hb dX12_readUnit_142 (by decide) (fun hq => ?_) (fun hq => ?_)
    · replace hf := if_tn hq hf
      clear hq
      refine lv_bipush (v := (15 : Int32)) hx hb dX12_readUnit_150 (by decide) ?_
      exact wX12_readUnit_152 C hks hdR h_readUnit h_readTruth g2 (15 : Int32) hf H locs ls h (lv_sub hl [] rfl)
    · replace hf := if_t hq hf
      clear hq
      refine lv_bipush (v := (14 : Int32)) hx hb dX12_readUnit_145 (by decide) ?_
      refine lv_goto (tgt := 152) hx hb dX12_readUnit_147 (by decide) ?_
      exact wX12_readUnit_152 C hks hdR h_readUnit h_readTruth g2 (14 : Int32) hf H locs ls h (lv_sub hl [] rfl)
  · replace hf := if_t hq hf
    clear hq
    refine lv_bipush (v := (13 : Int32)) hx hb dX12_readUnit_134 (by decide) ?_
    refine lv_goto (tgt := 152) hx hb dX12_readUnit_136 (by decide) ?_
    exact wX12_readUnit_152 C hks hdR h_readUnit h_readTruth g2 (13 : Int32) hf H locs ls h (lv_sub hl [] rfl)

set_option maxHeartbeats 4000000 in
set_option maxRecDepth 100000 in
theorem wX12_readUnit_112 (C : MCx p s m args meth c A RX12 cX12_readUnit 2 none D cs) (hks : KS adK adV A s s.heap)  {dR dd : Nat} (hdR : 44 + 3 * dd + 1 ≤ dR) {r_readUnit : MS → Option (MS)} (h_readUnit : ∀ {g1 g2 : MS}, r_readUnit g1 = some g2 → GConK l D cs adK adV yX12_readUnit cX12_readUnit 2 none (rM (44 + 3 * dd)) 0 0 [.ref (ad 48)] (MW cs ad g1) none (MW cs ad g2)) {r_readTruth : MS → Option (MS)} (h_readTruth : ∀ {g1 g2 : MS}, r_readTruth g1 = some g2 → GConK l D cs adK adV yX12_readTruth cX12_readTruth 1 none (rM (44 + 3 * dd)) 0 0 [.ref (ad 48)] (MW cs ad g1) none (MW cs ad g2)) {g' : MS}  : ∀ (g : MS) (y1 : Int32), fX12_readUnit_112 r_readUnit r_readTruth g y1 = some g' → ∀ (H : Heap) (locs : List Loc) (ls : Array Slot), MH D (MW cs ad g) A s H locs → lv_has ls 2 [(0, .ref (ad 48)), (1, .int y1)] → W p l e (rM dR) s m args below meth c H locs 0 0 (MQ below (GPost D none (MW cs ad g') A) args s 0 0 A) (F0 m 112 ls []) := by
  have hx := C.1
  have hb := C.2.1
  intro g y1 hf H locs ls h hl
  unfold fX12_readUnit_112 at hf
  refine lv_aload_n hx hb dX12_readUnit_112 rfl (lv_at hl 0 rfl) ?_
  refine mg_12 C h dX12_readUnit_113 ?_
  refine lv_if_ne (tgt := 123) hx hb dX12_readUnit_116 (by decide) (fun hq => ?_) (fun hq => ?_)
  · replace hf := if_tn hq hf
    clear hq
    exact wX12_readUnit_123 C hks hdR h_readUnit h_readTruth g y1 hf H locs ls h (lv_sub hl [0, 1] rfl)
  · replace hf := if_t hq hf
    clear hq
    refine lv_aload_n hx hb dX12_readUnit_119 rfl (lv_at hl 0 rfl) ?_
    replace hf := bndv_some hf
    obtain ⟨g3, hc, hf⟩ := hf
    refine m_callVv [] C h cv_X12_140 (qX12_readsOn hc) rfl ⟨rfl, rfl⟩ ⟨by simp only [rM]; omega, by simp only [rM]; omega⟩ (m_recv C h) hl.1 rfl (Nat.le_of_ble_eq_true rfl) ⟨Nat.le_refl _, Nat.le_refl _⟩ dX12_readUnit_120 (fun H locs h => ?_)
    clear hc
    exact wX12_readUnit_123 C hks hdR h_readUnit h_readTruth g3 y1 hf H locs ls h (lv_sub hl [0, 1] rfl)

set_option maxHeartbeats 4000000 in
set_option maxRecDepth 100000 in
theorem qX12_readUnitB {l : Launch} {D : va_G} {cs : Nat → ClassId} {ad : Nat → Nat} {adK adV : Nat → Nat} {dR dd : Nat} (hdR : 44 + 3 * dd + 1 ≤ dR) {r_readUnit : MS → Option (MS)} (h_readUnit : ∀ {g1 g2 : MS}, r_readUnit g1 = some g2 → GConK l D cs adK adV yX12_readUnit cX12_readUnit 2 none (rM (44 + 3 * dd)) 0 0 [.ref (ad 48)] (MW cs ad g1) none (MW cs ad g2)) {r_readTruth : MS → Option (MS)} (h_readTruth : ∀ {g1 g2 : MS}, r_readTruth g1 = some g2 → GConK l D cs adK adV yX12_readTruth cX12_readTruth 1 none (rM (44 + 3 * dd)) 0 0 [.ref (ad 48)] (MW cs ad g1) none (MW cs ad g2)) {g' : MS} {g : MS}  (hf : fX12_readUnitB r_readUnit r_readTruth g = some g') : GConK l D cs adK adV yX12_readUnit cX12_readUnit 2 none (rM dR) 0 0 [.ref (ad 48)] (MW cs ad g) none (MW cs ad g') := by
  refine GConK.of (by decide) (Nat.le_of_ble_eq_true rfl) ?_
  intro p e s m args below meth c A ls H locs C hks h hl
  have hx := C.1
  have hb := C.2.1
  have C : MCx p s m args meth c A RX12 cX12_readUnit 2 none D cs := C
  have hl : lv_has ls 2 [(0, .ref (ad 48))] := hl
  unfold fX12_readUnitB at hf
  refine lv_aload_n hx hb dX12_readUnit_0 rfl (lv_at hl 0 rfl) ?_
  refine mg_12 C h dX12_readUnit_1 ?_
  refine lv_if_eq (tgt := 8) hx hb dX12_readUnit_4 (by decide) (fun hq => ?_) (fun hq => ?_)
  · replace hf := if_t hq hf
    clear hq
    refine lv_aload_n hx hb dX12_readUnit_8 rfl (lv_at hl 0 rfl) ?_
    refine va_ldcS (own := RX12) (index := 179) (tx := "not") (q := adK 43) hx hb C.2.2.2.1 (hks.2.1 43 (by decide)) dX12_readUnit_9 ?_
    replace hf := bndc_some hf
    obtain ⟨x4, g5, hc, hf⟩ := hf
    refine m_callVKi [.ref (adK 43)] C hks h cv_X12_136 (qX12_isWord (by decide) hc) rfl ⟨rfl, rfl⟩ ⟨by simp only [rM]; omega, by simp only [rM]; omega⟩ (m_recv C h) hl.1 rfl (Nat.le_of_ble_eq_true rfl) ⟨Nat.le_refl _, Nat.le_refl _⟩ dX12_readUnit_11 (fun H locs h => ?_)
    clear hc
    refine lv_if_eq (tgt := 44) hx hb dX12_readUnit_14 (by decide) (fun hq => ?_) (fun hq => ?_)
    · replace hf := if_t hq hf
      clear hq
      refine lv_aload_n hx hb dX12_readUnit_44 rfl (lv_at hl 0 rfl) ?_
      refine lv_bipush (v := (91 : Int32)) hx hb dX12_readUnit_45 (by decide) ?_
      replace hf := bndc_some hf
      obtain ⟨x6, g7, hc, hf⟩ := hf
      refine m_callVi [.int (91 : Int32)] C h cv_X12_184 (qX12_isSign hc) rfl ⟨rfl, rfl⟩ ⟨by simp only [rM]; omega, by simp only [rM]; omega⟩ (m_recv C h) hl.1 rfl (Nat.le_of_ble_eq_true rfl) ⟨Nat.le_refl _, Nat.le_refl _⟩ dX12_readUnit_47 (fun H locs h => ?_)
      clear hc
      refine lv_if_eq (tgt := 80) hx hb dX12_readUnit_50 (by decide) (fun hq => ?_) (fun hq => ?_)
      · replace hf := if_t hq hf
        clear hq
        refine lv_aload_n hx hb dX12_readUnit_80 rfl (lv_at hl 0 rfl) ?_
        replace hf := bndv_some hf
        obtain ⟨g8, hc, hf⟩ := hf
        refine m_callVKv [] C hks h cv_X12_190 (qX12_readSum hc) rfl ⟨rfl, rfl⟩ ⟨by simp only [rM]; omega, by simp only [rM]; omega⟩ (m_recv C h) hl.1 rfl (Nat.le_of_ble_eq_true rfl) ⟨Nat.le_refl _, Nat.le_refl _⟩ dX12_readUnit_81 (fun H locs h => ?_)
        clear hc
        refine lv_aload_n hx hb dX12_readUnit_84 rfl (lv_at hl 0 rfl) ?_
        refine mg_10 C h dX12_readUnit_85 ?_
        refine lv_topi (fun x9 ex9 => ?_)
        replace hf := bnd_at ex9 hf
        clear ex9
        refine lv_istore_n (lv' := [(1, .int x9), (0, .ref (ad 48))]) hx hb dX12_readUnit_88 rfl hl (by decide) rfl (fun ls hl => ?_)
        refine lv_iload_n hx hb dX12_readUnit_89 rfl (lv_at hl 0 rfl) ?_
        refine lv_bipush (v := (61 : Int32)) hx hb dX12_readUnit_90 (by decide) ?_
        refine lv_icmp_eq (tgt := 112) hx hb dX12_readUnit_92 (by decide) (fun hq => ?_) (fun hq => ?_)
        · replace hf := if_t hq hf
          clear hq
          exact wX12_readUnit_112 C hks hdR h_readUnit h_readTruth g8 x9 hf H locs ls h (lv_sub hl [1, 0] rfl)
        · replace hf := if_f hq hf
          clear hq
          refine lv_iload_n hx hb dX12_readUnit_95 rfl (lv_at hl 0 rfl) ?_
          refine lv_bipush (v := (60 : Int32)) hx hb dX12_readUnit_96 (by decide) ?_
          refine lv_icmp_eq (tgt := 112) hx hb dX12_readUnit_98 (by decide) (fun hq => ?_) (fun hq => ?_)
          · replace hf := if_t hq hf
            clear hq
            exact wX12_readUnit_112 C hks hdR h_readUnit h_readTruth g8 x9 hf H locs ls h (lv_sub hl [1, 0] rfl)
          · replace hf := if_f hq hf
            clear hq
            refine lv_iload_n hx hb dX12_readUnit_101 rfl (lv_at hl 0 rfl) ?_
            refine lv_bipush (v := (62 : Int32)) hx hb dX12_readUnit_102 (by decide) ?_
            refine lv_icmp_eq (tgt := 112) hx hb dX12_readUnit_104 (by decide) (fun hq => ?_) (fun hq => ?_)
            · replace hf := if_t hq hf
              clear hq
              exact wX12_readUnit_112 C hks hdR h_readUnit h_readTruth g8 x9 hf H locs ls h (lv_sub hl [1, 0] rfl)
            · replace hf := if_f hq hf
              clear hq
              refine lv_aload_n hx hb dX12_readUnit_107 rfl (lv_at hl 1 rfl) ?_
              refine lv_iconst (v := (2 : Int32)) hx hb dX12_readUnit_108 (by decide) ?_
              replace hf := bndv_some hf
              obtain ⟨g10, hc, hf⟩ := hf
              refine m_callVv [.int (2 : Int32)] C h cv_X12_143 (qX12_blames hc) rfl ⟨rfl, rfl⟩ ⟨by simp only [rM]; omega, by simp only [rM]; omega⟩ (m_recv C h) hl.1 rfl (Nat.le_of_ble_eq_true rfl) ⟨Nat.le_refl _, Nat.le_refl _⟩ dX12_readUnit_109 (fun H locs h => ?_)
              clear hc
              exact wX12_readUnit_112 C hks hdR h_readUnit h_readTruth g10 x9 hf H locs ls h (lv_sub hl [1, 0] rfl)
      · replace hf := if_f hq hf
        clear hq
        refine lv_aload_n hx hb dX12_readUnit_53 rfl (lv_at hl 0 rfl) ?_
        replace hf := bndv_some hf
        obtain ⟨g11, hc, hf⟩ := hf
        refine m_callVv [] C h cv_X12_181 (qX12_goesIn hc) rfl ⟨rfl, rfl⟩ ⟨by simp only [rM]; omega, by simp only [rM]; omega⟩ (m_recv C h) hl.1 rfl (Nat.le_of_ble_eq_true rfl) ⟨Nat.le_refl _, Nat.le_refl _⟩ dX12_readUnit_54 (fun H locs h => ?_)
        clear hc
        refine lv_aload_n hx hb dX12_readUnit_57 rfl (lv_at hl 0 rfl) ?_
        replace hf := bndv_some hf
        obtain ⟨g12, hc, hf⟩ := hf
        refine m_callVKv [] C hks h cv_X12_187 (h_readTruth hc) rfl ⟨rfl, rfl⟩ ⟨by simp only [rM]; omega, by simp only [rM]; omega⟩ (m_recv C h) hl.1 rfl (Nat.le_of_ble_eq_true rfl) ⟨Nat.le_refl _, Nat.le_refl _⟩ dX12_readUnit_58 (fun H locs h => ?_)
        clear hc
        refine lv_aload_n hx hb dX12_readUnit_61 rfl (lv_at hl 0 rfl) ?_
        refine lv_bipush (v := (93 : Int32)) hx hb dX12_readUnit_62 (by decide) ?_
        replace hf := bndv_some hf
        obtain ⟨g13, hc, hf⟩ := hf
        refine m_callVv [.int (93 : Int32)] C h cv_X12_160 (qX12_mustSign hc) rfl ⟨rfl, rfl⟩ ⟨by simp only [rM]; omega, by simp only [rM]; omega⟩ (m_recv C h) hl.1 rfl (Nat.le_of_ble_eq_true rfl) ⟨Nat.le_refl _, Nat.le_refl _⟩ dX12_readUnit_64 (fun H locs h => ?_)
        clear hc
        refine lv_aload_n hx hb dX12_readUnit_67 rfl (lv_at hl 0 rfl) ?_
        refine lv_dup hx hb dX12_readUnit_68 rfl ?_
        refine mg_16 C h dX12_readUnit_69 ?_
        refine lv_iconst (v := (1 : Int32)) hx hb dX12_readUnit_72 (by decide) ?_
        refine lv_isub hx hb dX12_readUnit_73 ?_
        replace hf := bnd_ex hf
        obtain ⟨g14, eg14, hf⟩ := hf
        refine mp_16 C h dX12_readUnit_74 (fun H locs h => ?_)
        rw [← eg14] at h
        clear eg14
        refine lv_goto (tgt := 155) hx hb dX12_readUnit_77 (by decide) ?_
        have e1 := Option.some.inj hf
        subst e1
        exact m_vret C h dX12_readUnit_155
    · replace hf := if_f hq hf
      clear hq
      refine lv_aload_n hx hb dX12_readUnit_17 rfl (lv_at hl 0 rfl) ?_
      replace hf := bndv_some hf
      obtain ⟨g15, hc, hf⟩ := hf
      refine m_callVv [] C h cv_X12_181 (qX12_goesIn hc) rfl ⟨rfl, rfl⟩ ⟨by simp only [rM]; omega, by simp only [rM]; omega⟩ (m_recv C h) hl.1 rfl (Nat.le_of_ble_eq_true rfl) ⟨Nat.le_refl _, Nat.le_refl _⟩ dX12_readUnit_18 (fun H locs h => ?_)
      clear hc
      refine lv_aload_n hx hb dX12_readUnit_21 rfl (lv_at hl 0 rfl) ?_
      replace hf := bndv_some hf
      obtain ⟨g16, hc, hf⟩ := hf
      refine m_callVKv [] C hks h cv_X12_174 (h_readUnit hc) rfl ⟨rfl, rfl⟩ ⟨by simp only [rM]; omega, by simp only [rM]; omega⟩ (m_recv C h) hl.1 rfl (Nat.le_of_ble_eq_true rfl) ⟨Nat.le_refl _, Nat.le_refl _⟩ dX12_readUnit_22 (fun H locs h => ?_)
      clear hc
      refine lv_aload_n hx hb dX12_readUnit_25 rfl (lv_at hl 0 rfl) ?_
      refine lv_bipush (v := (18 : Int32)) hx hb dX12_readUnit_26 (by decide) ?_
      replace hf := bndv_some hf
      obtain ⟨g17, hc, hf⟩ := hf
      refine m_callVv [.int (18 : Int32)] C h cv_X12_171 (qX12_laysStep hc) rfl ⟨rfl, rfl⟩ ⟨by simp only [rM]; omega, by simp only [rM]; omega⟩ (m_recv C h) hl.1 rfl (Nat.le_of_ble_eq_true rfl) ⟨Nat.le_refl _, Nat.le_refl _⟩ dX12_readUnit_28 (fun H locs h => ?_)
      clear hc
      refine lv_aload_n hx hb dX12_readUnit_31 rfl (lv_at hl 0 rfl) ?_
      refine lv_dup hx hb dX12_readUnit_32 rfl ?_
      refine mg_16 C h dX12_readUnit_33 ?_
      refine lv_iconst (v := (1 : Int32)) hx hb dX12_readUnit_36 (by decide) ?_
      refine lv_isub hx hb dX12_readUnit_37 ?_
      replace hf := bnd_ex hf
      obtain ⟨g18, eg18, hf⟩ := hf
      refine mp_16 C h dX12_readUnit_38 (fun H locs h => ?_)
      rw [← eg18] at h
      clear eg18
      refine lv_goto (tgt := 155) hx hb dX12_readUnit_41 (by decide) ?_
      have e1 := Option.some.inj hf
      subst e1
      exact m_vret C h dX12_readUnit_155
  · replace hf := if_f hq hf
    clear hq
    have e1 := Option.some.inj hf
    subst e1
    exact m_vret C h dX12_readUnit_7

set_option maxHeartbeats 4000000 in
set_option maxRecDepth 100000 in
theorem wX12_readBoth_4 (C : MCx p s m args meth c A RX12 cX12_readBoth 1 none D cs) (hks : KS adK adV A s s.heap)  {dR dd : Nat} (hdR : 44 + 3 * dd + 2 ≤ dR) {r_readUnit : MS → Option (MS)} (h_readUnit : ∀ {g1 g2 : MS}, r_readUnit g1 = some g2 → GConK l D cs adK adV yX12_readUnit cX12_readUnit 2 none (rM (44 + 3 * dd)) 0 0 [.ref (ad 48)] (MW cs ad g1) none (MW cs ad g2)) {r_readTruth : MS → Option (MS)} (h_readTruth : ∀ {g1 g2 : MS}, r_readTruth g1 = some g2 → GConK l D cs adK adV yX12_readTruth cX12_readTruth 1 none (rM (44 + 3 * dd)) 0 0 [.ref (ad 48)] (MW cs ad g1) none (MW cs ad g2)) {g' : MS}  : ∀ (n : Nat) (g : MS), fX12_readBoth_4 r_readUnit r_readTruth n g = some g' → ∀ (H : Heap) (locs : List Loc) (ls : Array Slot), MH D (MW cs ad g) A s H locs → lv_has ls 1 [(0, .ref (ad 48))] → W p l e (rM dR) s m args below meth c H locs 0 0 (MQ below (GPost D none (MW cs ad g') A) args s 0 0 A) (F0 m 4 ls []) := by
  have hx := C.1
  have hb := C.2.1
  intro n
  induction n with
  | zero =>
    intro g hf
    exact absurd hf (by simp [fX12_readBoth_4])
  | succ n ih =>
    intro g hf H locs ls h hl
    rw [fX12_readBoth_4] at hf
    refine lv_aload_n hx hb dX12_readBoth_4 rfl (lv_at hl 0 rfl) ?_
    refine va_ldcS (own := RX12) (index := 177) (tx := "and") (q := adK 49) hx hb C.2.2.2.1 (hks.2.1 49 (by decide)) dX12_readBoth_5 ?_
    replace hf := bndc_some hf
    obtain ⟨x1, g2, hc, hf⟩ := hf
    refine m_callVKi [.ref (adK 49)] C hks h cv_X12_151 (qX12_took (by decide) hc) rfl ⟨rfl, rfl⟩ ⟨by simp only [rM]; omega, by simp only [rM]; omega⟩ (m_recv C h) hl.1 rfl (Nat.le_of_ble_eq_true rfl) ⟨Nat.le_refl _, Nat.le_refl _⟩ dX12_readBoth_7 (fun H locs h => ?_)
    clear hc
    refine lv_if_eq (tgt := 26) hx hb dX12_readBoth_10 (by decide) (fun hq => ?_) (fun hq => ?_)
    · replace hf := if_t hq hf
      clear hq
      have e1 := Option.some.inj hf
      subst e1
      exact m_vret C h dX12_readBoth_26
    · replace hf := if_f hq hf
      clear hq
      refine lv_aload_n hx hb dX12_readBoth_13 rfl (lv_at hl 0 rfl) ?_
      replace hf := bndv_some hf
      obtain ⟨g3, hc, hf⟩ := hf
      refine m_callVKv [] C hks h cv_X12_174 (h_readUnit hc) rfl ⟨rfl, rfl⟩ ⟨by simp only [rM]; omega, by simp only [rM]; omega⟩ (m_recv C h) hl.1 rfl (Nat.le_of_ble_eq_true rfl) ⟨Nat.le_refl _, Nat.le_refl _⟩ dX12_readBoth_14 (fun H locs h => ?_)
      clear hc
      refine lv_aload_n hx hb dX12_readBoth_17 rfl (lv_at hl 0 rfl) ?_
      refine lv_bipush (v := (16 : Int32)) hx hb dX12_readBoth_18 (by decide) ?_
      replace hf := bndv_some hf
      obtain ⟨g4, hc, hf⟩ := hf
      refine m_callVv [.int (16 : Int32)] C h cv_X12_171 (qX12_laysStep hc) rfl ⟨rfl, rfl⟩ ⟨by simp only [rM]; omega, by simp only [rM]; omega⟩ (m_recv C h) hl.1 rfl (Nat.le_of_ble_eq_true rfl) ⟨Nat.le_refl _, Nat.le_refl _⟩ dX12_readBoth_20 (fun H locs h => ?_)
      clear hc
      refine lv_goto (tgt := 4) hx hb dX12_readBoth_23 (by decide) ?_
      exact ih g4 hf H locs ls h (lv_sub hl [0] rfl)

set_option maxHeartbeats 4000000 in
set_option maxRecDepth 100000 in
theorem qX12_readBothB {l : Launch} {D : va_G} {cs : Nat → ClassId} {ad : Nat → Nat} {adK adV : Nat → Nat} {dR dd : Nat} (hdR : 44 + 3 * dd + 2 ≤ dR) {r_readUnit : MS → Option (MS)} (h_readUnit : ∀ {g1 g2 : MS}, r_readUnit g1 = some g2 → GConK l D cs adK adV yX12_readUnit cX12_readUnit 2 none (rM (44 + 3 * dd)) 0 0 [.ref (ad 48)] (MW cs ad g1) none (MW cs ad g2)) {r_readTruth : MS → Option (MS)} (h_readTruth : ∀ {g1 g2 : MS}, r_readTruth g1 = some g2 → GConK l D cs adK adV yX12_readTruth cX12_readTruth 1 none (rM (44 + 3 * dd)) 0 0 [.ref (ad 48)] (MW cs ad g1) none (MW cs ad g2)) {g' : MS} {g : MS}  (hf : fX12_readBothB r_readUnit r_readTruth g = some g') : GConK l D cs adK adV yX12_readBoth cX12_readBoth 1 none (rM dR) 0 0 [.ref (ad 48)] (MW cs ad g) none (MW cs ad g') := by
  refine GConK.of (by decide) (Nat.le_of_ble_eq_true rfl) ?_
  intro p e s m args below meth c A ls H locs C hks h hl
  have hx := C.1
  have hb := C.2.1
  have C : MCx p s m args meth c A RX12 cX12_readBoth 1 none D cs := C
  have hl : lv_has ls 1 [(0, .ref (ad 48))] := hl
  unfold fX12_readBothB at hf
  refine lv_aload_n hx hb dX12_readBoth_0 rfl (lv_at hl 0 rfl) ?_
  replace hf := bndv_some hf
  obtain ⟨g5, hc, hf⟩ := hf
  refine m_callVKv [] C hks h cv_X12_174 (h_readUnit hc) rfl ⟨rfl, rfl⟩ ⟨by simp only [rM]; omega, by simp only [rM]; omega⟩ (m_recv C h) hl.1 rfl (Nat.le_of_ble_eq_true rfl) ⟨Nat.le_refl _, Nat.le_refl _⟩ dX12_readBoth_1 (fun H locs h => ?_)
  clear hc
  exact wX12_readBoth_4 C hks hdR h_readUnit h_readTruth fuel g5 hf H locs ls h (lv_sub hl [0] rfl)

set_option maxHeartbeats 4000000 in
set_option maxRecDepth 100000 in
theorem wX12_readTruth_4 (C : MCx p s m args meth c A RX12 cX12_readTruth 1 none D cs) (hks : KS adK adV A s s.heap)  {dR dd : Nat} (hdR : 44 + 3 * dd + 3 ≤ dR) {r_readUnit : MS → Option (MS)} (h_readUnit : ∀ {g1 g2 : MS}, r_readUnit g1 = some g2 → GConK l D cs adK adV yX12_readUnit cX12_readUnit 2 none (rM (44 + 3 * dd)) 0 0 [.ref (ad 48)] (MW cs ad g1) none (MW cs ad g2)) {r_readTruth : MS → Option (MS)} (h_readTruth : ∀ {g1 g2 : MS}, r_readTruth g1 = some g2 → GConK l D cs adK adV yX12_readTruth cX12_readTruth 1 none (rM (44 + 3 * dd)) 0 0 [.ref (ad 48)] (MW cs ad g1) none (MW cs ad g2)) {g' : MS}  : ∀ (n : Nat) (g : MS), fX12_readTruth_4 r_readUnit r_readTruth n g = some g' → ∀ (H : Heap) (locs : List Loc) (ls : Array Slot), MH D (MW cs ad g) A s H locs → lv_has ls 1 [(0, .ref (ad 48))] → W p l e (rM dR) s m args below meth c H locs 0 0 (MQ below (GPost D none (MW cs ad g') A) args s 0 0 A) (F0 m 4 ls []) := by
  have hx := C.1
  have hb := C.2.1
  intro n
  induction n with
  | zero =>
    intro g hf
    exact absurd hf (by simp [fX12_readTruth_4])
  | succ n ih =>
    intro g hf H locs ls h hl
    rw [fX12_readTruth_4] at hf
    refine lv_aload_n hx hb dX12_readTruth_4 rfl (lv_at hl 0 rfl) ?_
    refine va_ldcS (own := RX12) (index := 169) (tx := "or") (q := adK 50) hx hb C.2.2.2.1 (hks.2.1 50 (by decide)) dX12_readTruth_5 ?_
    replace hf := bndc_some hf
    obtain ⟨x1, g2, hc, hf⟩ := hf
    refine m_callVKi [.ref (adK 50)] C hks h cv_X12_151 (qX12_took (by decide) hc) rfl ⟨rfl, rfl⟩ ⟨by simp only [rM]; omega, by simp only [rM]; omega⟩ (m_recv C h) hl.1 rfl (Nat.le_of_ble_eq_true rfl) ⟨Nat.le_refl _, Nat.le_refl _⟩ dX12_readTruth_7 (fun H locs h => ?_)
    clear hc
    refine lv_if_eq (tgt := 26) hx hb dX12_readTruth_10 (by decide) (fun hq => ?_) (fun hq => ?_)
    · replace hf := if_t hq hf
      clear hq
      have e1 := Option.some.inj hf
      subst e1
      exact m_vret C h dX12_readTruth_26
    · replace hf := if_f hq hf
      clear hq
      refine lv_aload_n hx hb dX12_readTruth_13 rfl (lv_at hl 0 rfl) ?_
      replace hf := bndv_some hf
      obtain ⟨g3, hc, hf⟩ := hf
      refine m_callVKv [] C hks h cv_X12_166 (qX12_readBothB (dR := dR - 1) (dd := dd) (by omega) h_readUnit h_readTruth hc) rfl ⟨rfl, rfl⟩ ⟨by simp only [rM]; omega, by simp only [rM]; omega⟩ (m_recv C h) hl.1 rfl (Nat.le_of_ble_eq_true rfl) ⟨Nat.le_refl _, Nat.le_refl _⟩ dX12_readTruth_14 (fun H locs h => ?_)
      clear hc
      refine lv_aload_n hx hb dX12_readTruth_17 rfl (lv_at hl 0 rfl) ?_
      refine lv_bipush (v := (17 : Int32)) hx hb dX12_readTruth_18 (by decide) ?_
      replace hf := bndv_some hf
      obtain ⟨g4, hc, hf⟩ := hf
      refine m_callVv [.int (17 : Int32)] C h cv_X12_171 (qX12_laysStep hc) rfl ⟨rfl, rfl⟩ ⟨by simp only [rM]; omega, by simp only [rM]; omega⟩ (m_recv C h) hl.1 rfl (Nat.le_of_ble_eq_true rfl) ⟨Nat.le_refl _, Nat.le_refl _⟩ dX12_readTruth_20 (fun H locs h => ?_)
      clear hc
      refine lv_goto (tgt := 4) hx hb dX12_readTruth_23 (by decide) ?_
      exact ih g4 hf H locs ls h (lv_sub hl [0] rfl)

set_option maxHeartbeats 4000000 in
set_option maxRecDepth 100000 in
theorem qX12_readTruthB {l : Launch} {D : va_G} {cs : Nat → ClassId} {ad : Nat → Nat} {adK adV : Nat → Nat} {dR dd : Nat} (hdR : 44 + 3 * dd + 3 ≤ dR) {r_readUnit : MS → Option (MS)} (h_readUnit : ∀ {g1 g2 : MS}, r_readUnit g1 = some g2 → GConK l D cs adK adV yX12_readUnit cX12_readUnit 2 none (rM (44 + 3 * dd)) 0 0 [.ref (ad 48)] (MW cs ad g1) none (MW cs ad g2)) {r_readTruth : MS → Option (MS)} (h_readTruth : ∀ {g1 g2 : MS}, r_readTruth g1 = some g2 → GConK l D cs adK adV yX12_readTruth cX12_readTruth 1 none (rM (44 + 3 * dd)) 0 0 [.ref (ad 48)] (MW cs ad g1) none (MW cs ad g2)) {g' : MS} {g : MS}  (hf : fX12_readTruthB r_readUnit r_readTruth g = some g') : GConK l D cs adK adV yX12_readTruth cX12_readTruth 1 none (rM dR) 0 0 [.ref (ad 48)] (MW cs ad g) none (MW cs ad g') := by
  refine GConK.of (by decide) (Nat.le_of_ble_eq_true rfl) ?_
  intro p e s m args below meth c A ls H locs C hks h hl
  have hx := C.1
  have hb := C.2.1
  have C : MCx p s m args meth c A RX12 cX12_readTruth 1 none D cs := C
  have hl : lv_has ls 1 [(0, .ref (ad 48))] := hl
  unfold fX12_readTruthB at hf
  refine lv_aload_n hx hb dX12_readTruth_0 rfl (lv_at hl 0 rfl) ?_
  replace hf := bndv_some hf
  obtain ⟨g5, hc, hf⟩ := hf
  refine m_callVKv [] C hks h cv_X12_166 (qX12_readBothB (dR := dR - 1) (dd := dd) (by omega) h_readUnit h_readTruth hc) rfl ⟨rfl, rfl⟩ ⟨by simp only [rM]; omega, by simp only [rM]; omega⟩ (m_recv C h) hl.1 rfl (Nat.le_of_ble_eq_true rfl) ⟨Nat.le_refl _, Nat.le_refl _⟩ dX12_readTruth_1 (fun H locs h => ?_)
  clear hc
  exact wX12_readTruth_4 C hks hdR h_readUnit h_readTruth fuel g5 hf H locs ls h (lv_sub hl [0] rfl)

theorem qX12_readTUD {l : Launch} {D : va_G} {cs : Nat → ClassId} {ad : Nat → Nat} {adK adV : Nat → Nat} : ∀ (n : Nat), (∀ {g g' : MS}, fX12_readTUD n false g = some g' → GConK l D cs adK adV yX12_readUnit cX12_readUnit 2 none (rM (44 + 3 * n)) 0 0 [.ref (ad 48)] (MW cs ad g) none (MW cs ad g')) ∧ (∀ {g g' : MS}, fX12_readTUD n true g = some g' → GConK l D cs adK adV yX12_readTruth cX12_readTruth 1 none (rM (44 + 3 * n)) 0 0 [.ref (ad 48)] (MW cs ad g) none (MW cs ad g')) := by
  intro n
  induction n with
  | zero => exact ⟨fun hf => absurd hf (by simp [fX12_readTUD]), fun hf => absurd hf (by simp [fX12_readTUD])⟩
  | succ n ih =>
    refine ⟨fun hf => ?_, fun hf => ?_⟩
    · rw [fX12_readTUD] at hf
      exact qX12_readUnitB (dR := 44 + 3 * (n + 1)) (dd := n) (by omega) ih.1 ih.2 hf
    · rw [fX12_readTUD] at hf
      exact qX12_readTruthB (dR := 44 + 3 * (n + 1)) (dd := n) (by omega) ih.1 ih.2 hf

theorem qX12_readTruth {l : Launch} {D : va_G} {cs : Nat → ClassId} {ad : Nat → Nat} {adK adV : Nat → Nat} {g g' : MS} (hf : fX12_readTruth g = some g') : GConK l D cs adK adV yX12_readTruth cX12_readTruth 1 none (rM (92)) 0 0 [.ref (ad 48)] (MW cs ad g) none (MW cs ad g') := (qX12_readTUD 16).2 hf

set_option maxHeartbeats 4000000 in
set_option maxRecDepth 100000 in
theorem wX12_readMember_16 (C : MCx p s m args meth c A RX12 cX12_readMember 3 none D cs) (hks : KS adK adV A s s.heap)  {g' : MS}  : ∀ (n : Nat) (g : MS) (y1 : Int32) (y2 : Int32), fX12_readMember_16 n g y1 y2 = some g' → ∀ (H : Heap) (locs : List Loc) (ls : Array Slot), MH D (MW cs ad g) A s H locs → lv_has ls 3 [(0, .ref (ad 48)), (1, .int y1), (2, .int y2)] → W p l e (rM 6) s m args below meth c H locs 0 0 (MQ below (GPost D none (MW cs ad g') A) args s 0 0 A) (F0 m 16 ls []) := by
  have hx := C.1
  have hb := C.2.1
  intro n
  induction n with
  | zero =>
    intro g y1 y2 hf
    exact absurd hf (by simp [fX12_readMember_16])
  | succ n ih =>
    intro g y1 y2 hf H locs ls h hl
    rw [fX12_readMember_16] at hf
    refine lv_aload_n hx hb dX12_readMember_16 rfl (lv_at hl 0 rfl) ?_
    refine mg_12 C h dX12_readMember_17 ?_
    refine lv_if_ne (tgt := 119) hx hb dX12_readMember_20 (by decide) (fun hq => ?_) (fun hq => ?_)
    · replace hf := if_tn hq hf
      clear hq
      have e1 := Option.some.inj hf
      subst e1
      exact m_vret C h dX12_readMember_119
    · replace hf := if_t hq hf
      clear hq
      refine lv_iload_n hx hb dX12_readMember_23 rfl (lv_at hl 2 rfl) ?_
      refine lv_if_eq (tgt := 119) hx hb dX12_readMember_24 (by decide) (fun hq => ?_) (fun hq => ?_)
      · replace hf := if_t hq hf
        clear hq
        have e1 := Option.some.inj hf
        subst e1
        exact m_vret C h dX12_readMember_119
      · replace hf := if_f hq hf
        clear hq
        refine lv_aload_n hx hb dX12_readMember_27 rfl (lv_at hl 0 rfl) ?_
        refine va_ldcS (own := RX12) (index := 217) (tx := "faces") (q := adK 39) hx hb C.2.2.2.1 (hks.2.1 39 (by decide)) dX12_readMember_28 ?_
        replace hf := bndc_some hf
        obtain ⟨x1, g2, hc, hf⟩ := hf
        refine m_callVKi [.ref (adK 39)] C hks h cv_X12_151 (qX12_took (by decide) hc) rfl ⟨rfl, rfl⟩ ⟨Nat.le_of_ble_eq_true rfl, Nat.le_of_ble_eq_true rfl⟩ (m_recv C h) hl.1 rfl (Nat.le_of_ble_eq_true rfl) ⟨Nat.le_refl _, Nat.le_refl _⟩ dX12_readMember_30 (fun H locs h => ?_)
        clear hc
        refine lv_if_eq (tgt := 61) hx hb dX12_readMember_33 (by decide) (fun hq => ?_) (fun hq => ?_)
        · replace hf := if_t hq hf
          clear hq
          refine lv_aload_n hx hb dX12_readMember_61 rfl (lv_at hl 0 rfl) ?_
          refine va_ldcS (own := RX12) (index := 201) (tx := "weight") (q := adK 40) hx hb C.2.2.2.1 (hks.2.1 40 (by decide)) dX12_readMember_62 ?_
          replace hf := bndc_some hf
          obtain ⟨x3, g4, hc, hf⟩ := hf
          refine m_callVKi [.ref (adK 40)] C hks h cv_X12_151 (qX12_took (by decide) hc) rfl ⟨rfl, rfl⟩ ⟨Nat.le_of_ble_eq_true rfl, Nat.le_of_ble_eq_true rfl⟩ (m_recv C h) hl.1 rfl (Nat.le_of_ble_eq_true rfl) ⟨Nat.le_refl _, Nat.le_refl _⟩ dX12_readMember_64 (fun H locs h => ?_)
          clear hc
          refine lv_if_eq (tgt := 89) hx hb dX12_readMember_67 (by decide) (fun hq => ?_) (fun hq => ?_)
          · replace hf := if_t hq hf
            clear hq
            refine lv_aload_n hx hb dX12_readMember_89 rfl (lv_at hl 0 rfl) ?_
            refine va_ldcS (own := RX12) (index := 219) (tx := "stuck") (q := adK 41) hx hb C.2.2.2.1 (hks.2.1 41 (by decide)) dX12_readMember_90 ?_
            replace hf := bndc_some hf
            obtain ⟨x5, g6, hc, hf⟩ := hf
            refine m_callVKi [.ref (adK 41)] C hks h cv_X12_151 (qX12_took (by decide) hc) rfl ⟨rfl, rfl⟩ ⟨Nat.le_of_ble_eq_true rfl, Nat.le_of_ble_eq_true rfl⟩ (m_recv C h) hl.1 rfl (Nat.le_of_ble_eq_true rfl) ⟨Nat.le_refl _, Nat.le_refl _⟩ dX12_readMember_92 (fun H locs h => ?_)
            clear hc
            refine lv_if_eq (tgt := 114) hx hb dX12_readMember_95 (by decide) (fun hq => ?_) (fun hq => ?_)
            · replace hf := if_t hq hf
              clear hq
              refine lv_iconst (v := (0 : Int32)) hx hb dX12_readMember_114 (by decide) ?_
              refine lv_istore_n (lv' := [(2, .int (0 : Int32)), (0, .ref (ad 48)), (1, .int y1)]) hx hb dX12_readMember_115 rfl hl (by decide) rfl (fun ls hl => ?_)
              refine lv_goto (tgt := 16) hx hb dX12_readMember_116 (by decide) ?_
              exact ih g6 y1 (0 : Int32) hf H locs ls h (lv_sub hl [1, 2, 0] rfl)
            · replace hf := if_f hq hf
              clear hq
              refine lv_aload_n hx hb dX12_readMember_98 rfl (lv_at hl 0 rfl) ?_
              refine mg_1 C h dX12_readMember_99 ?_
              refine lv_bipush (v := (18 : Int32)) hx hb dX12_readMember_102 (by decide) ?_
              refine lv_dup2_11 hx hb dX12_readMember_104 rfl rfl ?_
              replace hf := chk_some hf
              obtain ⟨hq, hf⟩ := hf
              refine ml_1 C h hq dX12_readMember_105 ?_
              clear hq
              refine lv_iconst (v := (1 : Int32)) hx hb dX12_readMember_106 (by decide) ?_
              refine lv_iload_n hx hb dX12_readMember_107 rfl (lv_at hl 1 rfl) ?_
              refine x_ishl hx hb dX12_readMember_108 ?_
              refine lv_ior hx hb dX12_readMember_109 ?_
              replace hf := chk_some hf
              obtain ⟨hq, hf⟩ := hf
              replace hf := bnd_ex hf
              obtain ⟨g7, eg7, hf⟩ := hf
              refine ms_1 C h hq dX12_readMember_110 (fun H locs h => ?_)
              rw [← eg7] at h
              clear hq eg7
              refine lv_goto (tgt := 16) hx hb dX12_readMember_111 (by decide) ?_
              exact ih g7 y1 y2 hf H locs ls h (lv_sub hl [0, 1, 2] rfl)
          · replace hf := if_f hq hf
            clear hq
            refine lv_aload_n hx hb dX12_readMember_70 rfl (lv_at hl 0 rfl) ?_
            refine mg_1 C h dX12_readMember_71 ?_
            refine lv_bipush (v := (12 : Int32)) hx hb dX12_readMember_74 (by decide) ?_
            refine lv_iload_n hx hb dX12_readMember_76 rfl (lv_at hl 1 rfl) ?_
            refine lv_iadd hx hb dX12_readMember_77 ?_
            refine lv_aload_n hx hb dX12_readMember_78 rfl (lv_at hl 0 rfl) ?_
            refine lv_iconst (v := (1 : Int32)) hx hb dX12_readMember_79 (by decide) ?_
            refine lv_bipush (v := (9 : Int32)) hx hb dX12_readMember_80 (by decide) ?_
            replace hf := bndc_some hf
            obtain ⟨x8, g9, hc, hf⟩ := hf
            refine m_callVi [.int (1 : Int32), .int (9 : Int32)] C h cv_X12_213 (qX12_number hc) rfl ⟨rfl, rfl⟩ ⟨Nat.le_of_ble_eq_true rfl, Nat.le_of_ble_eq_true rfl⟩ (m_recv C h) hl.1 rfl (Nat.le_of_ble_eq_true rfl) ⟨Nat.le_refl _, Nat.le_refl _⟩ dX12_readMember_82 (fun H locs h => ?_)
            clear hc
            replace hf := chk_some hf
            obtain ⟨hq, hf⟩ := hf
            replace hf := bnd_ex hf
            obtain ⟨g10, eg10, hf⟩ := hf
            refine ms_1 C h hq dX12_readMember_85 (fun H locs h => ?_)
            rw [← eg10] at h
            clear hq eg10
            refine lv_goto (tgt := 16) hx hb dX12_readMember_86 (by decide) ?_
            exact ih g10 y1 y2 hf H locs ls h (lv_sub hl [0, 1, 2] rfl)
        · replace hf := if_f hq hf
          clear hq
          refine lv_aload_n hx hb dX12_readMember_36 rfl (lv_at hl 0 rfl) ?_
          refine mg_1 C h dX12_readMember_37 ?_
          refine lv_bipush (v := (6 : Int32)) hx hb dX12_readMember_40 (by decide) ?_
          refine lv_iload_n hx hb dX12_readMember_42 rfl (lv_at hl 1 rfl) ?_
          refine lv_iadd hx hb dX12_readMember_43 ?_
          refine lv_aload_n hx hb dX12_readMember_44 rfl (lv_at hl 0 rfl) ?_
          refine lv_iconst (v := (0 : Int32)) hx hb dX12_readMember_45 (by decide) ?_
          refine lv_aload_n hx hb dX12_readMember_46 rfl (lv_at hl 0 rfl) ?_
          refine mg_1 C h dX12_readMember_47 ?_
          refine lv_iconst (v := (1 : Int32)) hx hb dX12_readMember_50 (by decide) ?_
          replace hf := chk_some hf
          obtain ⟨hq, hf⟩ := hf
          refine ml_1 C h hq dX12_readMember_51 ?_
          clear hq
          refine lv_iconst (v := (1 : Int32)) hx hb dX12_readMember_52 (by decide) ?_
          refine lv_isub hx hb dX12_readMember_53 ?_
          replace hf := bndc_some hf
          obtain ⟨x11, g12, hc, hf⟩ := hf
          refine m_callVi [.int (0 : Int32), .int ((g2.2.1 1 (ix (1 : Int32))) - (1 : Int32))] C h cv_X12_213 (qX12_number hc) rfl ⟨rfl, rfl⟩ ⟨Nat.le_of_ble_eq_true rfl, Nat.le_of_ble_eq_true rfl⟩ (m_recv C h) hl.1 rfl (Nat.le_of_ble_eq_true rfl) ⟨Nat.le_refl _, Nat.le_refl _⟩ dX12_readMember_54 (fun H locs h => ?_)
          clear hc
          replace hf := chk_some hf
          obtain ⟨hq, hf⟩ := hf
          replace hf := bnd_ex hf
          obtain ⟨g13, eg13, hf⟩ := hf
          refine ms_1 C h hq dX12_readMember_57 (fun H locs h => ?_)
          rw [← eg13] at h
          clear hq eg13
          refine lv_goto (tgt := 16) hx hb dX12_readMember_58 (by decide) ?_
          exact ih g13 y1 y2 hf H locs ls h (lv_sub hl [0, 1, 2] rfl)

set_option maxHeartbeats 4000000 in
set_option maxRecDepth 100000 in
theorem qX12_readMember {l : Launch} {D : va_G} {cs : Nat → ClassId} {ad : Nat → Nat} {adK adV : Nat → Nat} {g' : MS} {g : MS}  (hf : fX12_readMember g = some g') : GConK l D cs adK adV yX12_readMember cX12_readMember 3 none (rM 6) 0 0 [.ref (ad 48)] (MW cs ad g) none (MW cs ad g') := by
  refine GConK.of (by decide) (Nat.le_of_ble_eq_true rfl) ?_
  intro p e s m args below meth c A ls H locs C hks h hl
  have hx := C.1
  have hb := C.2.1
  have C : MCx p s m args meth c A RX12 cX12_readMember 3 none D cs := C
  have hl : lv_has ls 3 [(0, .ref (ad 48))] := hl
  unfold fX12_readMember at hf
  refine lv_aload_n hx hb dX12_readMember_0 rfl (lv_at hl 0 rfl) ?_
  refine lv_iconst (v := (0 : Int32)) hx hb dX12_readMember_1 (by decide) ?_
  refine lv_aload_n hx hb dX12_readMember_2 rfl (lv_at hl 0 rfl) ?_
  refine mg_1 C h dX12_readMember_3 ?_
  refine lv_iconst (v := (1 : Int32)) hx hb dX12_readMember_6 (by decide) ?_
  replace hf := chk_some hf
  obtain ⟨hq, hf⟩ := hf
  refine ml_1 C h hq dX12_readMember_7 ?_
  clear hq
  refine lv_iconst (v := (1 : Int32)) hx hb dX12_readMember_8 (by decide) ?_
  refine lv_isub hx hb dX12_readMember_9 ?_
  replace hf := bndc_some hf
  obtain ⟨x14, g15, hc, hf⟩ := hf
  refine m_callVi [.int (0 : Int32), .int ((g.2.1 1 (ix (1 : Int32))) - (1 : Int32))] C h cv_X12_213 (qX12_number hc) rfl ⟨rfl, rfl⟩ ⟨Nat.le_of_ble_eq_true rfl, Nat.le_of_ble_eq_true rfl⟩ (m_recv C h) hl.1 rfl (Nat.le_of_ble_eq_true rfl) ⟨Nat.le_refl _, Nat.le_refl _⟩ dX12_readMember_10 (fun H locs h => ?_)
  clear hc
  refine lv_istore_n (lv' := [(1, .int x14), (0, .ref (ad 48))]) hx hb dX12_readMember_13 rfl hl (by decide) rfl (fun ls hl => ?_)
  refine lv_iconst (v := (1 : Int32)) hx hb dX12_readMember_14 (by decide) ?_
  refine lv_istore_n (lv' := [(2, .int (1 : Int32)), (1, .int x14), (0, .ref (ad 48))]) hx hb dX12_readMember_15 rfl hl (by decide) rfl (fun ls hl => ?_)
  exact wX12_readMember_16 C hks fuel g15 x14 (1 : Int32) hf H locs ls h (lv_sub hl [2, 1, 0] rfl)

set_option maxHeartbeats 4000000 in
set_option maxRecDepth 100000 in
theorem qX12_readStop {l : Launch} {D : va_G} {cs : Nat → ClassId} {ad : Nat → Nat} {g' : MS} {g : MS}  (hf : fX12_readStop g = some g') : GCon l D cs yX12_readStop cX12_readStop 1 none (rM 3) 0 0 [.ref (ad 48)] (MW cs ad g) none (MW cs ad g') := by
  refine GCon.of (by decide) (Nat.le_of_ble_eq_true rfl) ?_
  intro p e s m args below meth c A ls H locs C h hl
  have hx := C.1
  have hb := C.2.1
  have C : MCx p s m args meth c A RX12 cX12_readStop 1 none D cs := C
  have hl : lv_has ls 1 [(0, .ref (ad 48))] := hl
  unfold fX12_readStop at hf
  refine lv_aload_n hx hb dX12_readStop_0 rfl (lv_at hl 0 rfl) ?_
  refine lv_bipush (v := (59 : Int32)) hx hb dX12_readStop_1 (by decide) ?_
  replace hf := bndv_some hf
  obtain ⟨g1, hc, hf⟩ := hf
  refine m_callVv [.int (59 : Int32)] C h cv_X12_160 (qX12_mustSign hc) rfl ⟨rfl, rfl⟩ ⟨Nat.le_of_ble_eq_true rfl, Nat.le_of_ble_eq_true rfl⟩ (m_recv C h) hl.1 rfl (Nat.le_of_ble_eq_true rfl) ⟨Nat.le_refl _, Nat.le_refl _⟩ dX12_readStop_3 (fun H locs h => ?_)
  clear hc
  refine lv_aload_n hx hb dX12_readStop_6 rfl (lv_at hl 0 rfl) ?_
  refine mg_12 C h dX12_readStop_7 ?_
  refine lv_if_ne (tgt := 23) hx hb dX12_readStop_10 (by decide) (fun hq => ?_) (fun hq => ?_)
  · replace hf := if_tn hq hf
    clear hq
    have e1 := Option.some.inj hf
    subst e1
    exact m_vret C h dX12_readStop_23
  · replace hf := if_t hq hf
    clear hq
    refine lv_aload_n hx hb dX12_readStop_13 rfl (lv_at hl 0 rfl) ?_
    refine mg_1 C h dX12_readStop_14 ?_
    refine lv_iconst (v := (0 : Int32)) hx hb dX12_readStop_17 (by decide) ?_
    refine lv_dup2_11 hx hb dX12_readStop_18 rfl rfl ?_
    replace hf := chk_some hf
    obtain ⟨hq, hf⟩ := hf
    refine ml_1 C h hq dX12_readStop_19 ?_
    clear hq
    refine lv_iconst (v := (1 : Int32)) hx hb dX12_readStop_20 (by decide) ?_
    refine lv_iadd hx hb dX12_readStop_21 ?_
    replace hf := chk_some hf
    obtain ⟨hq, hf⟩ := hf
    replace hf := bnd_ex hf
    obtain ⟨g2, eg2, hf⟩ := hf
    refine ms_1 C h hq dX12_readStop_22 (fun H locs h => ?_)
    rw [← eg2] at h
    clear hq eg2
    have e1 := Option.some.inj hf
    subst e1
    exact m_vret C h dX12_readStop_23

set_option maxHeartbeats 4000000 in
set_option maxRecDepth 100000 in
theorem wX12_readLine_93 (C : MCx p s m args meth c A RX12 cX12_readLine 1 none D cs) (hks : KS adK adV A s s.heap)  {g' : MS}  : ∀ (g : MS), fX12_readLine_93 g = some g' → ∀ (H : Heap) (locs : List Loc) (ls : Array Slot), MH D (MW cs ad g) A s H locs → lv_has ls 1 [(0, .ref (ad 48))] → W p l e (rM 93) s m args below meth c H locs 0 0 (MQ below (GPost D none (MW cs ad g') A) args s 0 0 A) (F0 m 93 ls []) := by
  have hx := C.1
  have hb := C.2.1
  intro g hf H locs ls h hl
  unfold fX12_readLine_93 at hf
  refine lv_aload_n hx hb dX12_readLine_93 rfl (lv_at hl 0 rfl) ?_
  replace hf := bndv_some hf
  obtain ⟨g1, hc, hf⟩ := hf
  refine m_callVv [] C h cv_X12_236 (qX12_readStop hc) rfl ⟨rfl, rfl⟩ ⟨Nat.le_of_ble_eq_true rfl, Nat.le_of_ble_eq_true rfl⟩ (m_recv C h) hl.1 rfl (Nat.le_of_ble_eq_true rfl) ⟨Nat.le_refl _, Nat.le_refl _⟩ dX12_readLine_94 (fun H locs h => ?_)
  clear hc
  have e1 := Option.some.inj hf
  subst e1
  exact m_vret C h dX12_readLine_97

set_option maxHeartbeats 4000000 in
set_option maxRecDepth 100000 in
theorem qX12_readLine {l : Launch} {D : va_G} {cs : Nat → ClassId} {ad : Nat → Nat} {adK adV : Nat → Nat} {g' : MS} {g : MS}  (hf : fX12_readLine g = some g') : GConK l D cs adK adV yX12_readLine cX12_readLine 1 none (rM 93) 0 0 [.ref (ad 48)] (MW cs ad g) none (MW cs ad g') := by
  refine GConK.of (by decide) (Nat.le_of_ble_eq_true rfl) ?_
  intro p e s m args below meth c A ls H locs C hks h hl
  have hx := C.1
  have hb := C.2.1
  have C : MCx p s m args meth c A RX12 cX12_readLine 1 none D cs := C
  have hl : lv_has ls 1 [(0, .ref (ad 48))] := hl
  unfold fX12_readLine at hf
  refine lv_aload_n hx hb dX12_readLine_0 rfl (lv_at hl 0 rfl) ?_
  refine va_ldcS (own := RX12) (index := 221) (tx := "member") (q := adK 38) hx hb C.2.2.2.1 (hks.2.1 38 (by decide)) dX12_readLine_1 ?_
  replace hf := bndc_some hf
  obtain ⟨x2, g3, hc, hf⟩ := hf
  refine m_callVKi [.ref (adK 38)] C hks h cv_X12_151 (qX12_took (by decide) hc) rfl ⟨rfl, rfl⟩ ⟨Nat.le_of_ble_eq_true rfl, Nat.le_of_ble_eq_true rfl⟩ (m_recv C h) hl.1 rfl (Nat.le_of_ble_eq_true rfl) ⟨Nat.le_refl _, Nat.le_refl _⟩ dX12_readLine_3 (fun H locs h => ?_)
  clear hc
  refine lv_if_eq (tgt := 16) hx hb dX12_readLine_6 (by decide) (fun hq => ?_) (fun hq => ?_)
  · replace hf := if_t hq hf
    clear hq
    refine lv_aload_n hx hb dX12_readLine_16 rfl (lv_at hl 0 rfl) ?_
    refine va_ldcS (own := RX12) (index := 226) (tx := "drags") (q := adK 42) hx hb C.2.2.2.1 (hks.2.1 42 (by decide)) dX12_readLine_17 ?_
    replace hf := bndc_some hf
    obtain ⟨x4, g5, hc, hf⟩ := hf
    refine m_callVKi [.ref (adK 42)] C hks h cv_X12_151 (qX12_took (by decide) hc) rfl ⟨rfl, rfl⟩ ⟨Nat.le_of_ble_eq_true rfl, Nat.le_of_ble_eq_true rfl⟩ (m_recv C h) hl.1 rfl (Nat.le_of_ble_eq_true rfl) ⟨Nat.le_refl _, Nat.le_refl _⟩ dX12_readLine_19 (fun H locs h => ?_)
    clear hc
    refine lv_if_eq (tgt := 40) hx hb dX12_readLine_22 (by decide) (fun hq => ?_) (fun hq => ?_)
    · replace hf := if_t hq hf
      clear hq
      refine lv_aload_n hx hb dX12_readLine_40 rfl (lv_at hl 0 rfl) ?_
      refine va_ldcS (own := RX12) (index := 232) (tx := "costs") (q := adK 51) hx hb C.2.2.2.1 (hks.2.1 51 (by decide)) dX12_readLine_41 ?_
      replace hf := bndc_some hf
      obtain ⟨x6, g7, hc, hf⟩ := hf
      refine m_callVKi [.ref (adK 51)] C hks h cv_X12_151 (qX12_took (by decide) hc) rfl ⟨rfl, rfl⟩ ⟨Nat.le_of_ble_eq_true rfl, Nat.le_of_ble_eq_true rfl⟩ (m_recv C h) hl.1 rfl (Nat.le_of_ble_eq_true rfl) ⟨Nat.le_refl _, Nat.le_refl _⟩ dX12_readLine_43 (fun H locs h => ?_)
      clear hc
      refine lv_if_eq (tgt := 64) hx hb dX12_readLine_46 (by decide) (fun hq => ?_) (fun hq => ?_)
      · replace hf := if_t hq hf
        clear hq
        refine lv_aload_n hx hb dX12_readLine_64 rfl (lv_at hl 0 rfl) ?_
        refine va_ldcS (own := RX12) (index := 234) (tx := "goes") (q := adK 52) hx hb C.2.2.2.1 (hks.2.1 52 (by decide)) dX12_readLine_65 ?_
        replace hf := bndc_some hf
        obtain ⟨x8, g9, hc, hf⟩ := hf
        refine m_callVKi [.ref (adK 52)] C hks h cv_X12_151 (qX12_took (by decide) hc) rfl ⟨rfl, rfl⟩ ⟨Nat.le_of_ble_eq_true rfl, Nat.le_of_ble_eq_true rfl⟩ (m_recv C h) hl.1 rfl (Nat.le_of_ble_eq_true rfl) ⟨Nat.le_refl _, Nat.le_refl _⟩ dX12_readLine_67 (fun H locs h => ?_)
        clear hc
        refine lv_if_eq (tgt := 88) hx hb dX12_readLine_70 (by decide) (fun hq => ?_) (fun hq => ?_)
        · replace hf := if_t hq hf
          clear hq
          refine lv_aload_n hx hb dX12_readLine_88 rfl (lv_at hl 0 rfl) ?_
          refine lv_iconst (v := (2 : Int32)) hx hb dX12_readLine_89 (by decide) ?_
          replace hf := bndv_some hf
          obtain ⟨g10, hc, hf⟩ := hf
          refine m_callVv [.int (2 : Int32)] C h cv_X12_143 (qX12_blames hc) rfl ⟨rfl, rfl⟩ ⟨Nat.le_of_ble_eq_true rfl, Nat.le_of_ble_eq_true rfl⟩ (m_recv C h) hl.1 rfl (Nat.le_of_ble_eq_true rfl) ⟨Nat.le_refl _, Nat.le_refl _⟩ dX12_readLine_90 (fun H locs h => ?_)
          clear hc
          exact wX12_readLine_93 C hks g10 hf H locs ls h (lv_sub hl [0] rfl)
        · replace hf := if_f hq hf
          clear hq
          refine lv_aload_n hx hb dX12_readLine_73 rfl (lv_at hl 0 rfl) ?_
          refine lv_iconst (v := (4 : Int32)) hx hb dX12_readLine_74 (by decide) ?_
          refine lv_sipush (v := (1949 : Int32)) hx hb dX12_readLine_75 (by decide) ?_
          replace hf := bndv_some hf
          obtain ⟨g11, hc, hf⟩ := hf
          refine m_callVv [.int (4 : Int32), .int (1949 : Int32)] C h cv_X12_228 (qX12_beginsLaw hc) rfl ⟨rfl, rfl⟩ ⟨Nat.le_of_ble_eq_true rfl, Nat.le_of_ble_eq_true rfl⟩ (m_recv C h) hl.1 rfl (Nat.le_of_ble_eq_true rfl) ⟨Nat.le_refl _, Nat.le_refl _⟩ dX12_readLine_78 (fun H locs h => ?_)
          clear hc
          refine lv_aload_n hx hb dX12_readLine_81 rfl (lv_at hl 0 rfl) ?_
          replace hf := bndv_some hf
          obtain ⟨g12, hc, hf⟩ := hf
          refine m_callVKv [] C hks h cv_X12_190 (qX12_readSum hc) rfl ⟨rfl, rfl⟩ ⟨Nat.le_of_ble_eq_true rfl, Nat.le_of_ble_eq_true rfl⟩ (m_recv C h) hl.1 rfl (Nat.le_of_ble_eq_true rfl) ⟨Nat.le_refl _, Nat.le_refl _⟩ dX12_readLine_82 (fun H locs h => ?_)
          clear hc
          refine lv_goto (tgt := 93) hx hb dX12_readLine_85 (by decide) ?_
          exact wX12_readLine_93 C hks g12 hf H locs ls h (lv_sub hl [0] rfl)
      · replace hf := if_f hq hf
        clear hq
        refine lv_aload_n hx hb dX12_readLine_49 rfl (lv_at hl 0 rfl) ?_
        refine lv_iconst (v := (3 : Int32)) hx hb dX12_readLine_50 (by decide) ?_
        refine lv_sipush (v := (1049 : Int32)) hx hb dX12_readLine_51 (by decide) ?_
        replace hf := bndv_some hf
        obtain ⟨g13, hc, hf⟩ := hf
        refine m_callVv [.int (3 : Int32), .int (1049 : Int32)] C h cv_X12_228 (qX12_beginsLaw hc) rfl ⟨rfl, rfl⟩ ⟨Nat.le_of_ble_eq_true rfl, Nat.le_of_ble_eq_true rfl⟩ (m_recv C h) hl.1 rfl (Nat.le_of_ble_eq_true rfl) ⟨Nat.le_refl _, Nat.le_refl _⟩ dX12_readLine_54 (fun H locs h => ?_)
        clear hc
        refine lv_aload_n hx hb dX12_readLine_57 rfl (lv_at hl 0 rfl) ?_
        replace hf := bndv_some hf
        obtain ⟨g14, hc, hf⟩ := hf
        refine m_callVKv [] C hks h cv_X12_190 (qX12_readSum hc) rfl ⟨rfl, rfl⟩ ⟨Nat.le_of_ble_eq_true rfl, Nat.le_of_ble_eq_true rfl⟩ (m_recv C h) hl.1 rfl (Nat.le_of_ble_eq_true rfl) ⟨Nat.le_refl _, Nat.le_refl _⟩ dX12_readLine_58 (fun H locs h => ?_)
        clear hc
        refine lv_goto (tgt := 93) hx hb dX12_readLine_61 (by decide) ?_
        exact wX12_readLine_93 C hks g14 hf H locs ls h (lv_sub hl [0] rfl)
    · replace hf := if_f hq hf
      clear hq
      refine lv_aload_n hx hb dX12_readLine_25 rfl (lv_at hl 0 rfl) ?_
      refine lv_iconst (v := (2 : Int32)) hx hb dX12_readLine_26 (by decide) ?_
      refine lv_sipush (v := (149 : Int32)) hx hb dX12_readLine_27 (by decide) ?_
      replace hf := bndv_some hf
      obtain ⟨g15, hc, hf⟩ := hf
      refine m_callVv [.int (2 : Int32), .int (149 : Int32)] C h cv_X12_228 (qX12_beginsLaw hc) rfl ⟨rfl, rfl⟩ ⟨Nat.le_of_ble_eq_true rfl, Nat.le_of_ble_eq_true rfl⟩ (m_recv C h) hl.1 rfl (Nat.le_of_ble_eq_true rfl) ⟨Nat.le_refl _, Nat.le_refl _⟩ dX12_readLine_30 (fun H locs h => ?_)
      clear hc
      refine lv_aload_n hx hb dX12_readLine_33 rfl (lv_at hl 0 rfl) ?_
      replace hf := bndv_some hf
      obtain ⟨g16, hc, hf⟩ := hf
      refine m_callVKv [] C hks h cv_X12_187 (qX12_readTruth hc) rfl ⟨rfl, rfl⟩ ⟨Nat.le_of_ble_eq_true rfl, Nat.le_of_ble_eq_true rfl⟩ (m_recv C h) hl.1 rfl (Nat.le_of_ble_eq_true rfl) ⟨Nat.le_refl _, Nat.le_refl _⟩ dX12_readLine_34 (fun H locs h => ?_)
      clear hc
      refine lv_goto (tgt := 93) hx hb dX12_readLine_37 (by decide) ?_
      exact wX12_readLine_93 C hks g16 hf H locs ls h (lv_sub hl [0] rfl)
  · replace hf := if_f hq hf
    clear hq
    refine lv_aload_n hx hb dX12_readLine_9 rfl (lv_at hl 0 rfl) ?_
    replace hf := bndv_some hf
    obtain ⟨g17, hc, hf⟩ := hf
    refine m_callVKv [] C hks h cv_X12_223 (qX12_readMember hc) rfl ⟨rfl, rfl⟩ ⟨Nat.le_of_ble_eq_true rfl, Nat.le_of_ble_eq_true rfl⟩ (m_recv C h) hl.1 rfl (Nat.le_of_ble_eq_true rfl) ⟨Nat.le_refl _, Nat.le_refl _⟩ dX12_readLine_10 (fun H locs h => ?_)
    clear hc
    refine lv_goto (tgt := 93) hx hb dX12_readLine_13 (by decide) ?_
    exact wX12_readLine_93 C hks g17 hf H locs ls h (lv_sub hl [0] rfl)

set_option maxHeartbeats 4000000 in
set_option maxRecDepth 100000 in
theorem wX12_board_188 (C : MCx p s m args meth c A RX12 cX12_board 3 (some .int) D cs) (hks : KS adK adV A s s.heap)  {r : Int32} {g' : MS}  : ∀ (n : Nat) (g : MS) (y2 : Int32), fX12_board_188 n g y2 = some (r, g') → ∀ (H : Heap) (locs : List Loc) (ls : Array Slot), MH D (MW cs ad g) A s H locs → lv_has ls 3 [(0, .ref (ad 48)), (2, .int y2)] → W p l e (rM 94) s m args below meth c H locs 0 0 (MQ below (GPost D (some (.int r)) (MW cs ad g') A) args s 0 0 A) (F0 m 188 ls []) := by
  have hx := C.1
  have hb := C.2.1
  intro n
  induction n with
  | zero =>
    intro g y2 hf
    exact absurd hf (by simp [fX12_board_188])
  | succ n ih =>
    intro g y2 hf H locs ls h hl
    rw [fX12_board_188] at hf
    refine lv_iload_n hx hb dX12_board_188 rfl (lv_at hl 1 rfl) ?_
    refine lv_sipush (v := (2850 : Int32)) hx hb dX12_board_189 (by decide) ?_
    refine lv_icmp_ge (tgt := 213) hx hb dX12_board_192 (by decide) (fun hq => ?_) (fun hq => ?_)
    · replace hf := if_t hq hf
      clear hq
      refine lv_aload_n hx hb dX12_board_213 rfl (lv_at hl 0 rfl) ?_
      refine mg_0 C h dX12_board_214 ?_
      refine lv_iconst (v := (0 : Int32)) hx hb dX12_board_217 (by decide) ?_
      replace hf := chk_some hf
      obtain ⟨hq, hf⟩ := hf
      refine ml_0 C h hq dX12_board_218 ?_
      clear hq
      obtain ⟨e1, e2⟩ := pr_inj hf
      subst e1 e2
      exact m_iret C h dX12_board_219
    · replace hf := if_f hq hf
      clear hq
      refine lv_aload_n hx hb dX12_board_195 rfl (lv_at hl 0 rfl) ?_
      refine mg_0 C h dX12_board_196 ?_
      refine lv_iload_n hx hb dX12_board_199 rfl (lv_at hl 1 rfl) ?_
      refine lv_aload_n hx hb dX12_board_200 rfl (lv_at hl 0 rfl) ?_
      refine mg_1 C h dX12_board_201 ?_
      refine lv_iload_n hx hb dX12_board_204 rfl (lv_at hl 1 rfl) ?_
      replace hf := chk_some hf
      obtain ⟨hq, hf⟩ := hf
      refine ml_1 C h hq dX12_board_205 ?_
      clear hq
      replace hf := chk_some hf
      obtain ⟨hq, hf⟩ := hf
      replace hf := bnd_ex hf
      obtain ⟨g1, eg1, hf⟩ := hf
      refine ms_0 C h hq dX12_board_206 (fun H locs h => ?_)
      rw [← eg1] at h
      clear hq eg1
      obtain ⟨x2, ex2⟩ : ∃ z : Int32, z = y2 + (1 : Int32) := ⟨_, rfl⟩
      replace hf := bnd_at ex2 hf
      refine lv_iinc (v := x2) (lv' := [(2, .int x2), (0, .ref (ad 48))]) hx hb dX12_board_207 hl (k := 1) rfl (by rw [ex2]; rfl) (by decide) rfl (fun ls hl => ?_)
      clear ex2
      refine lv_goto (tgt := 188) hx hb dX12_board_210 (by decide) ?_
      exact ih g1 x2 hf H locs ls h (lv_sub hl [1, 0] rfl)

set_option maxHeartbeats 4000000 in
set_option maxRecDepth 100000 in
theorem wX12_board_168 (C : MCx p s m args meth c A RX12 cX12_board 3 (some .int) D cs) (hks : KS adK adV A s s.heap)  {r : Int32} {g' : MS}  : ∀ (g : MS) (t1 : Int32), fX12_board_168 g t1 = some (r, g') → ∀ (H : Heap) (locs : List Loc) (ls : Array Slot), MH D (MW cs ad g) A s H locs → lv_has ls 3 [(0, .ref (ad 48))] → W p l e (rM 94) s m args below meth c H locs 0 0 (MQ below (GPost D (some (.int r)) (MW cs ad g') A) args s 0 0 A) (F0 m 168 ls [.int t1, .ref (ad 48)]) := by
  have hx := C.1
  have hb := C.2.1
  intro g t1 hf H locs ls h hl
  unfold fX12_board_168 at hf
  replace hf := bnd_ex hf
  obtain ⟨g3, eg3, hf⟩ := hf
  refine mp_15 C h dX12_board_168 (fun H locs h => ?_)
  rw [← eg3] at h
  clear eg3
  refine lv_aload_n hx hb dX12_board_171 rfl (lv_at hl 0 rfl) ?_
  refine mg_12 C h dX12_board_172 ?_
  refine lv_if_eq (tgt := 186) hx hb dX12_board_175 (by decide) (fun hq => ?_) (fun hq => ?_)
  · replace hf := if_t hq hf
    clear hq
    refine lv_iconst (v := (0 : Int32)) hx hb dX12_board_186 (by decide) ?_
    refine lv_istore_n (lv' := [(2, .int (0 : Int32)), (0, .ref (ad 48))]) hx hb dX12_board_187 rfl hl (by decide) rfl (fun ls hl => ?_)
    exact wX12_board_188 C hks fuel g3 (0 : Int32) hf H locs ls h (lv_sub hl [1, 0] rfl)
  · replace hf := if_f hq hf
    clear hq
    refine lv_bipush (v := (-10 : Int32)) hx hb dX12_board_178 (by decide) ?_
    refine lv_aload_n hx hb dX12_board_180 rfl (lv_at hl 0 rfl) ?_
    refine mg_12 C h dX12_board_181 ?_
    refine lv_isub hx hb dX12_board_184 ?_
    obtain ⟨e1, e2⟩ := pr_inj hf
    subst e1 e2
    exact m_iret C h dX12_board_185

set_option maxHeartbeats 4000000 in
set_option maxRecDepth 100000 in
theorem wX12_board_144 (C : MCx p s m args meth c A RX12 cX12_board 3 (some .int) D cs) (hks : KS adK adV A s s.heap)  {r : Int32} {g' : MS}  : ∀ (g : MS), fX12_board_144 g = some (r, g') → ∀ (H : Heap) (locs : List Loc) (ls : Array Slot), MH D (MW cs ad g) A s H locs → lv_has ls 3 [(0, .ref (ad 48))] → W p l e (rM 94) s m args below meth c H locs 0 0 (MQ below (GPost D (some (.int r)) (MW cs ad g') A) args s 0 0 A) (F0 m 144 ls []) := by
  have hx := C.1
  have hb := C.2.1
  intro g hf H locs ls h hl
  unfold fX12_board_144 at hf
  refine lv_aload_n hx hb dX12_board_144 rfl (lv_at hl 0 rfl) ?_
  refine lv_aload_n hx hb dX12_board_145 rfl (lv_at hl 0 rfl) ?_
  refine mg_12 C h dX12_board_146 ?_
  replace hf := bnd_ex hf
  obtain ⟨g4, eg4, hf⟩ := hf
  refine mp_14 C h dX12_board_149 (fun H locs h => ?_)
  rw [← eg4] at h
  clear eg4
  refine lv_aload_n hx hb dX12_board_152 rfl (lv_at hl 0 rfl) ?_
  refine lv_aload_n hx hb dX12_board_153 rfl (lv_at hl 0 rfl) ?_
  refine mg_12 C h dX12_board_154 ?_
  refine lv_if_ne (tgt := 164) hx hb dX12_board_157 (by decide) (fun hq => ?_) (fun hq => ?_)
  · replace hf := if_tn hq hf
    clear hq
    refine lv_aload_n hx hb dX12_board_164 rfl (lv_at hl 0 rfl) ?_
    refine mg_13 C h dX12_board_165 ?_
    exact wX12_board_168 C hks g4 (g4.1 13) hf H locs ls h (lv_sub hl [0] rfl)
  · replace hf := if_t hq hf
    clear hq
    refine lv_iconst (v := (-1 : Int32)) hx hb dX12_board_160 (by decide) ?_
    refine lv_goto (tgt := 168) hx hb dX12_board_161 (by decide) ?_
    exact wX12_board_168 C hks g4 (-1 : Int32) hf H locs ls h (lv_sub hl [0] rfl)

set_option maxHeartbeats 4000000 in
set_option maxRecDepth 100000 in
theorem wX12_board_123 (C : MCx p s m args meth c A RX12 cX12_board 3 (some .int) D cs) (hks : KS adK adV A s s.heap)  {r : Int32} {g' : MS}  : ∀ (n : Nat) (g : MS), fX12_board_123 n g = some (r, g') → ∀ (H : Heap) (locs : List Loc) (ls : Array Slot), MH D (MW cs ad g) A s H locs → lv_has ls 3 [(0, .ref (ad 48))] → W p l e (rM 94) s m args below meth c H locs 0 0 (MQ below (GPost D (some (.int r)) (MW cs ad g') A) args s 0 0 A) (F0 m 123 ls []) := by
  have hx := C.1
  have hb := C.2.1
  intro n
  induction n with
  | zero =>
    intro g hf
    exact absurd hf (by simp [fX12_board_123])
  | succ n ih =>
    intro g hf H locs ls h hl
    rw [fX12_board_123] at hf
    refine lv_aload_n hx hb dX12_board_123 rfl (lv_at hl 0 rfl) ?_
    refine mg_12 C h dX12_board_124 ?_
    refine lv_if_ne (tgt := 144) hx hb dX12_board_127 (by decide) (fun hq => ?_) (fun hq => ?_)
    · replace hf := if_tn hq hf
      clear hq
      exact wX12_board_144 C hks g hf H locs ls h (lv_sub hl [0] rfl)
    · replace hf := if_t hq hf
      clear hq
      refine lv_aload_n hx hb dX12_board_130 rfl (lv_at hl 0 rfl) ?_
      refine mg_10 C h dX12_board_131 ?_
      refine lv_if_eq (tgt := 144) hx hb dX12_board_134 (by decide) (fun hq => ?_) (fun hq => ?_)
      · replace hf := if_t hq hf
        clear hq
        exact wX12_board_144 C hks g hf H locs ls h (lv_sub hl [0] rfl)
      · replace hf := if_f hq hf
        clear hq
        refine lv_aload_n hx hb dX12_board_137 rfl (lv_at hl 0 rfl) ?_
        replace hf := bndv_some hf
        obtain ⟨g5, hc, hf⟩ := hf
        refine m_callVKv [] C hks h cv_X12_248 (qX12_readLine hc) rfl ⟨rfl, rfl⟩ ⟨Nat.le_of_ble_eq_true rfl, Nat.le_of_ble_eq_true rfl⟩ (m_recv C h) hl.1 rfl (Nat.le_of_ble_eq_true rfl) ⟨Nat.le_refl _, Nat.le_refl _⟩ dX12_board_138 (fun H locs h => ?_)
        clear hc
        refine lv_goto (tgt := 123) hx hb dX12_board_141 (by decide) ?_
        exact ih g5 hf H locs ls h (lv_sub hl [0] rfl)

set_option maxHeartbeats 4000000 in
set_option maxRecDepth 100000 in
theorem wX12_board_74 (C : MCx p s m args meth c A RX12 cX12_board 3 (some .int) D cs) (hks : KS adK adV A s s.heap)  {r : Int32} {g' : MS}  : ∀ (n : Nat) (g : MS) (y2 : Int32), fX12_board_74 n g y2 = some (r, g') → ∀ (H : Heap) (locs : List Loc) (ls : Array Slot), MH D (MW cs ad g) A s H locs → lv_has ls 3 [(0, .ref (ad 48)), (2, .int y2)] → W p l e (rM 94) s m args below meth c H locs 0 0 (MQ below (GPost D (some (.int r)) (MW cs ad g') A) args s 0 0 A) (F0 m 74 ls []) := by
  have hx := C.1
  have hb := C.2.1
  intro n
  induction n with
  | zero =>
    intro g y2 hf
    exact absurd hf (by simp [fX12_board_74])
  | succ n ih =>
    intro g y2 hf H locs ls h hl
    rw [fX12_board_74] at hf
    refine lv_iload_n hx hb dX12_board_74 rfl (lv_at hl 1 rfl) ?_
    refine lv_bipush (v := (6 : Int32)) hx hb dX12_board_75 (by decide) ?_
    refine lv_icmp_ge (tgt := 96) hx hb dX12_board_77 (by decide) (fun hq => ?_) (fun hq => ?_)
    · replace hf := if_t hq hf
      clear hq
      refine lv_aload_n hx hb dX12_board_96 rfl (lv_at hl 0 rfl) ?_
      replace hf := bndv_some hf
      obtain ⟨g6, hc, hf⟩ := hf
      refine m_callVv [] C h cv_X12_140 (qX12_readsOn hc) rfl ⟨rfl, rfl⟩ ⟨Nat.le_of_ble_eq_true rfl, Nat.le_of_ble_eq_true rfl⟩ (m_recv C h) hl.1 rfl (Nat.le_of_ble_eq_true rfl) ⟨Nat.le_refl _, Nat.le_refl _⟩ dX12_board_97 (fun H locs h => ?_)
      clear hc
      refine lv_aload_n hx hb dX12_board_100 rfl (lv_at hl 0 rfl) ?_
      refine va_ldcS (own := RX12) (index := 242) (tx := "board") (q := adK 37) hx hb C.2.2.2.1 (hks.2.1 37 (by decide)) dX12_board_101 ?_
      replace hf := bndv_some hf
      obtain ⟨g7, hc, hf⟩ := hf
      refine m_callVKv [.ref (adK 37)] C hks h cv_X12_244 (qX12_mustWord (by decide) hc) rfl ⟨rfl, rfl⟩ ⟨Nat.le_of_ble_eq_true rfl, Nat.le_of_ble_eq_true rfl⟩ (m_recv C h) hl.1 rfl (Nat.le_of_ble_eq_true rfl) ⟨Nat.le_refl _, Nat.le_refl _⟩ dX12_board_103 (fun H locs h => ?_)
      clear hc
      refine lv_aload_n hx hb dX12_board_106 rfl (lv_at hl 0 rfl) ?_
      refine mg_1 C h dX12_board_107 ?_
      refine lv_iconst (v := (1 : Int32)) hx hb dX12_board_110 (by decide) ?_
      refine lv_aload_n hx hb dX12_board_111 rfl (lv_at hl 0 rfl) ?_
      refine lv_iconst (v := (2 : Int32)) hx hb dX12_board_112 (by decide) ?_
      refine lv_bipush (v := (6 : Int32)) hx hb dX12_board_113 (by decide) ?_
      replace hf := bndc_some hf
      obtain ⟨x8, g9, hc, hf⟩ := hf
      refine m_callVi [.int (2 : Int32), .int (6 : Int32)] C h cv_X12_213 (qX12_number hc) rfl ⟨rfl, rfl⟩ ⟨Nat.le_of_ble_eq_true rfl, Nat.le_of_ble_eq_true rfl⟩ (m_recv C h) hl.1 rfl (Nat.le_of_ble_eq_true rfl) ⟨Nat.le_refl _, Nat.le_refl _⟩ dX12_board_115 (fun H locs h => ?_)
      clear hc
      replace hf := chk_some hf
      obtain ⟨hq, hf⟩ := hf
      replace hf := bnd_ex hf
      obtain ⟨g10, eg10, hf⟩ := hf
      refine ms_1 C h hq dX12_board_118 (fun H locs h => ?_)
      rw [← eg10] at h
      clear hq eg10
      refine lv_aload_n hx hb dX12_board_119 rfl (lv_at hl 0 rfl) ?_
      replace hf := bndv_some hf
      obtain ⟨g11, hc, hf⟩ := hf
      refine m_callVv [] C h cv_X12_236 (qX12_readStop hc) rfl ⟨rfl, rfl⟩ ⟨Nat.le_of_ble_eq_true rfl, Nat.le_of_ble_eq_true rfl⟩ (m_recv C h) hl.1 rfl (Nat.le_of_ble_eq_true rfl) ⟨Nat.le_refl _, Nat.le_refl _⟩ dX12_board_120 (fun H locs h => ?_)
      clear hc
      exact wX12_board_123 C hks fuel g11 hf H locs ls h (lv_sub hl [0] rfl)
    · replace hf := if_f hq hf
      clear hq
      refine lv_aload_n hx hb dX12_board_80 rfl (lv_at hl 0 rfl) ?_
      refine mg_1 C h dX12_board_81 ?_
      refine lv_bipush (v := (12 : Int32)) hx hb dX12_board_84 (by decide) ?_
      refine lv_iload_n hx hb dX12_board_86 rfl (lv_at hl 1 rfl) ?_
      refine lv_iadd hx hb dX12_board_87 ?_
      refine lv_iconst (v := (1 : Int32)) hx hb dX12_board_88 (by decide) ?_
      replace hf := chk_some hf
      obtain ⟨hq, hf⟩ := hf
      replace hf := bnd_ex hf
      obtain ⟨g12, eg12, hf⟩ := hf
      refine ms_1 C h hq dX12_board_89 (fun H locs h => ?_)
      rw [← eg12] at h
      clear hq eg12
      obtain ⟨x13, ex13⟩ : ∃ z : Int32, z = y2 + (1 : Int32) := ⟨_, rfl⟩
      replace hf := bnd_at ex13 hf
      refine lv_iinc (v := x13) (lv' := [(2, .int x13), (0, .ref (ad 48))]) hx hb dX12_board_90 hl (k := 1) rfl (by rw [ex13]; rfl) (by decide) rfl (fun ls hl => ?_)
      clear ex13
      refine lv_goto (tgt := 74) hx hb dX12_board_93 (by decide) ?_
      exact ih g12 x13 hf H locs ls h (lv_sub hl [1, 0] rfl)

set_option maxHeartbeats 4000000 in
set_option maxRecDepth 100000 in
theorem wX12_board_52 (C : MCx p s m args meth c A RX12 cX12_board 3 (some .int) D cs) (hks : KS adK adV A s s.heap)  {r : Int32} {g' : MS}  : ∀ (n : Nat) (g : MS) (y2 : Int32), fX12_board_52 n g y2 = some (r, g') → ∀ (H : Heap) (locs : List Loc) (ls : Array Slot), MH D (MW cs ad g) A s H locs → lv_has ls 3 [(0, .ref (ad 48)), (2, .int y2)] → W p l e (rM 94) s m args below meth c H locs 0 0 (MQ below (GPost D (some (.int r)) (MW cs ad g') A) args s 0 0 A) (F0 m 52 ls []) := by
  have hx := C.1
  have hb := C.2.1
  intro n
  induction n with
  | zero =>
    intro g y2 hf
    exact absurd hf (by simp [fX12_board_52])
  | succ n ih =>
    intro g y2 hf H locs ls h hl
    rw [fX12_board_52] at hf
    refine lv_iload_n hx hb dX12_board_52 rfl (lv_at hl 1 rfl) ?_
    refine lv_sipush (v := (2850 : Int32)) hx hb dX12_board_53 (by decide) ?_
    refine lv_icmp_ge (tgt := 72) hx hb dX12_board_56 (by decide) (fun hq => ?_) (fun hq => ?_)
    · replace hf := if_t hq hf
      clear hq
      refine lv_iconst (v := (0 : Int32)) hx hb dX12_board_72 (by decide) ?_
      refine lv_istore_n (lv' := [(2, .int (0 : Int32)), (0, .ref (ad 48))]) hx hb dX12_board_73 rfl hl (by decide) rfl (fun ls hl => ?_)
      exact wX12_board_74 C hks fuel g (0 : Int32) hf H locs ls h (lv_sub hl [1, 0] rfl)
    · replace hf := if_f hq hf
      clear hq
      refine lv_aload_n hx hb dX12_board_59 rfl (lv_at hl 0 rfl) ?_
      refine mg_1 C h dX12_board_60 ?_
      refine lv_iload_n hx hb dX12_board_63 rfl (lv_at hl 1 rfl) ?_
      refine lv_iconst (v := (0 : Int32)) hx hb dX12_board_64 (by decide) ?_
      replace hf := chk_some hf
      obtain ⟨hq, hf⟩ := hf
      replace hf := bnd_ex hf
      obtain ⟨g14, eg14, hf⟩ := hf
      refine ms_1 C h hq dX12_board_65 (fun H locs h => ?_)
      rw [← eg14] at h
      clear hq eg14
      obtain ⟨x15, ex15⟩ : ∃ z : Int32, z = y2 + (1 : Int32) := ⟨_, rfl⟩
      replace hf := bnd_at ex15 hf
      refine lv_iinc (v := x15) (lv' := [(2, .int x15), (0, .ref (ad 48))]) hx hb dX12_board_66 hl (k := 1) rfl (by rw [ex15]; rfl) (by decide) rfl (fun ls hl => ?_)
      clear ex15
      refine lv_goto (tgt := 52) hx hb dX12_board_69 (by decide) ?_
      exact ih g14 x15 hf H locs ls h (lv_sub hl [1, 0] rfl)

set_option maxHeartbeats 4000000 in
set_option maxRecDepth 100000 in
theorem qX12_board {l : Launch} {D : va_G} {cs : Nat → ClassId} {ad : Nat → Nat} {adK adV : Nat → Nat} {r : Int32} {g' : MS} {g : MS}  {a0 : Int32} (hf : fX12_board g a0 = some (r, g')) : GConK l D cs adK adV yX12_board cX12_board 3 (some .int) (rM 94) 0 0 [.ref (ad 48), .int a0] (MW cs ad g) (some (.int r)) (MW cs ad g') := by
  refine GConK.of (by decide) (Nat.le_of_ble_eq_true rfl) ?_
  intro p e s m args below meth c A ls H locs C hks h hl
  have hx := C.1
  have hb := C.2.1
  have C : MCx p s m args meth c A RX12 cX12_board 3 (some .int) D cs := C
  have hl : lv_has ls 3 [(0, .ref (ad 48)), (1, .int a0)] := hl
  unfold fX12_board at hf
  refine lv_aload_n hx hb dX12_board_0 rfl (lv_at hl 0 rfl) ?_
  refine lv_iconst (v := (0 : Int32)) hx hb dX12_board_1 (by decide) ?_
  replace hf := bnd_ex hf
  obtain ⟨g16, eg16, hf⟩ := hf
  refine mp_4 C h dX12_board_2 (fun H locs h => ?_)
  rw [← eg16] at h
  clear eg16
  refine lv_iload_n hx hb dX12_board_5 rfl (lv_at hl 1 rfl) ?_
  refine lv_i2l hx hb dX12_board_6 rfl ?_
  refine lv_lconst (v := (0 : Int64)) hx hb dX12_board_7 rfl ?_
  refine lv_aload_n hx hb dX12_board_8 rfl (lv_at hl 0 rfl) ?_
  refine mg_6 C h dX12_board_9 ?_
  refine lv_i2l hx hb dX12_board_12 rfl ?_
  replace hf := bndv_some hf
  obtain ⟨x17, hc, hf⟩ := hf
  refine m_callSi [.long a0.toInt64, .long (0 : Int64), .long ((g16.1 6).toInt64)] C h cs_X12_147 (qX12_within hc) rfl ⟨rfl, rfl⟩ ⟨Nat.le_of_ble_eq_true rfl, Nat.le_of_ble_eq_true rfl⟩ hl.1 rfl (Nat.le_of_ble_eq_true rfl) ⟨Nat.le_refl _, Nat.le_refl _⟩ dX12_board_13 (fun H locs h => ?_)
  clear hc
  refine lv_if_ne (tgt := 25) hx hb dX12_board_16 (by decide) (fun hq => ?_) (fun hq => ?_)
  · replace hf := if_tn hq hf
    clear hq
    refine lv_aload_n hx hb dX12_board_25 rfl (lv_at hl 0 rfl) ?_
    refine lv_iload_n hx hb dX12_board_26 rfl (lv_at hl 1 rfl) ?_
    replace hf := bnd_ex hf
    obtain ⟨g18, eg18, hf⟩ := hf
    refine mp_7 C h dX12_board_27 (fun H locs h => ?_)
    rw [← eg18] at h
    clear eg18
    refine lv_aload_n hx hb dX12_board_30 rfl (lv_at hl 0 rfl) ?_
    refine lv_iconst (v := (0 : Int32)) hx hb dX12_board_31 (by decide) ?_
    replace hf := bnd_ex hf
    obtain ⟨g19, eg19, hf⟩ := hf
    refine mp_6 C h dX12_board_32 (fun H locs h => ?_)
    rw [← eg19] at h
    clear eg19
    refine lv_aload_n hx hb dX12_board_35 rfl (lv_at hl 0 rfl) ?_
    refine lv_iconst (v := (0 : Int32)) hx hb dX12_board_36 (by decide) ?_
    replace hf := bnd_ex hf
    obtain ⟨g20, eg20, hf⟩ := hf
    refine mp_8 C h dX12_board_37 (fun H locs h => ?_)
    rw [← eg20] at h
    clear eg20
    refine lv_aload_n hx hb dX12_board_40 rfl (lv_at hl 0 rfl) ?_
    refine lv_iconst (v := (0 : Int32)) hx hb dX12_board_41 (by decide) ?_
    replace hf := bnd_ex hf
    obtain ⟨g21, eg21, hf⟩ := hf
    refine mp_12 C h dX12_board_42 (fun H locs h => ?_)
    rw [← eg21] at h
    clear eg21
    refine lv_aload_n hx hb dX12_board_45 rfl (lv_at hl 0 rfl) ?_
    refine lv_iconst (v := (0 : Int32)) hx hb dX12_board_46 (by decide) ?_
    replace hf := bnd_ex hf
    obtain ⟨g22, eg22, hf⟩ := hf
    refine mp_16 C h dX12_board_47 (fun H locs h => ?_)
    rw [← eg22] at h
    clear eg22
    refine lv_iconst (v := (0 : Int32)) hx hb dX12_board_50 (by decide) ?_
    refine lv_istore_n (lv' := [(2, .int (0 : Int32)), (0, .ref (ad 48)), (1, .int a0)]) hx hb dX12_board_51 rfl hl (by decide) rfl (fun ls hl => ?_)
    exact wX12_board_52 C hks fuel g22 (0 : Int32) hf H locs ls h (lv_sub hl [1, 0] rfl)
  · replace hf := if_t hq hf
    clear hq
    refine lv_aload_n hx hb dX12_board_19 rfl (lv_at hl 0 rfl) ?_
    refine lv_iconst (v := (1 : Int32)) hx hb dX12_board_20 (by decide) ?_
    replace hf := bndc_some hf
    obtain ⟨x23, g24, hc, hf⟩ := hf
    refine m_callVi [.int (1 : Int32)] C h cv_X12_239 (qX12_fails hc) rfl ⟨rfl, rfl⟩ ⟨Nat.le_of_ble_eq_true rfl, Nat.le_of_ble_eq_true rfl⟩ (m_recv C h) hl.1 rfl (Nat.le_of_ble_eq_true rfl) ⟨Nat.le_refl _, Nat.le_refl _⟩ dX12_board_21 (fun H locs h => ?_)
    clear hc
    obtain ⟨e1, e2⟩ := pr_inj hf
    subst e1 e2
    exact m_iret C h dX12_board_24
end
