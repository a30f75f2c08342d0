section
variable {p : Program} {l : Launch} {e : Env} {s : State} {m : MethodId} {args : Array Value} {below : List Frame} {meth : Method} {c : Code} {D : va_G} {cs : Nat → ClassId} {ad adK adV : Nat → Nat} {A : Nat → Prop}
set_option maxHeartbeats 4000000 in
set_option maxRecDepth 100000 in
theorem wX12_isWhat_18 (C : MCx p s m args meth c A RX12 cX12_isWhat 1 (some .boolean) D cs)  {r : Int32}  : fX12_isWhat_18  = some r → ∀ (H : Heap) (locs : List Loc) (ls : Array Slot), MH D [] A s H locs → lv_has ls 1 [] → W p l e (rM 1) s m args below meth c H locs 0 0 (MQ below (GPost D (some (.int r)) [] A) args s 0 0 A) (F0 m 18 ls []) := by
  have hx := C.1
  have hb := C.2.1
  intro  hf H locs ls h hl
  unfold fX12_isWhat_18 at hf
  refine lv_iconst (v := (1 : Int32)) hx hb dX12_isWhat_18 (by decide) ?_
  refine lv_goto (tgt := 23) hx hb dX12_isWhat_19 (by decide) ?_
  have e1 := Option.some.inj hf
  subst e1
  exact m_zret C h rfl dX12_isWhat_23

set_option maxHeartbeats 4000000 in
set_option maxRecDepth 100000 in
theorem qX12_isWhat {l : Launch} {D : va_G} {cs : Nat → ClassId} {r : Int32}  {a0 : Int32} (hf : fX12_isWhat a0 = some r) : GCon l D cs yX12_isWhat cX12_isWhat 1 (some .boolean) (rM 1) 0 0 [.int a0] [] (some (.int r)) [] := by
  refine GCon.of (by decide) (Nat.le_of_ble_eq_true rfl) ?_
  intro p e s m args below meth c A ls H locs C h hl
  have hx := C.1
  have hb := C.2.1
  have C : MCx p s m args meth c A RX12 cX12_isWhat 1 (some .boolean) D cs := C
  have hl : lv_has ls 1 [(0, .int a0)] := hl
  unfold fX12_isWhat at hf
  refine lv_iload_n hx hb dX12_isWhat_0 rfl (lv_at hl 0 rfl) ?_
  refine lv_if_eq (tgt := 18) hx hb dX12_isWhat_1 (by decide) (fun hq => ?_) (fun hq => ?_)
  · replace hf := if_t hq hf
    clear hq
    exact wX12_isWhat_18 C  hf H locs ls h (lv_sub hl [] rfl)
  · replace hf := if_f hq hf
    clear hq
    refine lv_iload_n hx hb dX12_isWhat_4 rfl (lv_at hl 0 rfl) ?_
    refine lv_i2l hx hb dX12_isWhat_5 rfl ?_
    refine lv_ldc2 hx hb C.2.2.2.1 (C.2.2.2.2.1 _ tb_38_14) dX12_isWhat_6 ?_
    refine lv_ldc2 hx hb C.2.2.2.1 (C.2.2.2.2.1 _ tb_46_22) dX12_isWhat_9 ?_
    replace hf := bndv_some hf
    obtain ⟨x1, hc, hf⟩ := hf
    refine m_callSi [.long a0.toInt64, .long (10 : Int64), .long (15 : Int64)] C h cs_X12_147 (qX12_within hc) rfl ⟨rfl, rfl⟩ ⟨Nat.le_of_ble_eq_true rfl, Nat.le_of_ble_eq_true rfl⟩ hl.1 rfl (Nat.le_of_ble_eq_true rfl) ⟨Nat.le_refl _, Nat.le_refl _⟩ dX12_isWhat_12 (fun H locs h => ?_)
    clear hc
    refine lv_if_eq (tgt := 22) hx hb dX12_isWhat_15 (by decide) (fun hq => ?_) (fun hq => ?_)
    · replace hf := if_t hq hf
      clear hq
      refine lv_iconst (v := (0 : Int32)) hx hb dX12_isWhat_22 (by decide) ?_
      have e1 := Option.some.inj hf
      subst e1
      exact m_zret C h rfl dX12_isWhat_23
    · replace hf := if_f hq hf
      clear hq
      exact wX12_isWhat_18 C  hf H locs ls h (lv_sub hl [] rfl)

set_option maxHeartbeats 4000000 in
set_option maxRecDepth 100000 in
theorem qX12_toldRow {l : Launch} {D : va_G} {cs : Nat → ClassId} {ad : Nat → Nat} {r : Int32} {g' : MS} {g : MS}  {a0 : Int32} (hf : fX12_toldRow g a0 = some (r, g')) : GCon l D cs yX12_toldRow cX12_toldRow 2 (some .int) (rM 0) 0 0 [.ref (ad 48), .int a0] (MW cs ad g) (some (.int r)) (MW cs ad g') := by
  refine GCon.of (by decide) (Nat.le_of_ble_eq_true rfl) ?_
  intro p e s m args below meth c A ls H locs C h hl
  have hx := C.1
  have hb := C.2.1
  have C : MCx p s m args meth c A RX12 cX12_toldRow 2 (some .int) D cs := C
  have hl : lv_has ls 2 [(0, .ref (ad 48)), (1, .int a0)] := hl
  unfold fX12_toldRow at hf
  refine lv_aload_n hx hb dX12_toldRow_0 rfl (lv_at hl 0 rfl) ?_
  refine mg_36 C h dX12_toldRow_1 ?_
  refine lv_ldcw hx hb C.2.2.2.1 (C.2.2.2.2.1 _ tb_47_5) dX12_toldRow_4 ?_
  refine lv_icmp_ne (tgt := 14) hx hb dX12_toldRow_7 (by decide) (fun hq => ?_) (fun hq => ?_)
  · replace hf := if_tn hq hf
    clear hq
    refine lv_iload_n hx hb dX12_toldRow_14 rfl (lv_at hl 1 rfl) ?_
    refine lv_if_ne (tgt := 25) hx hb dX12_toldRow_15 (by decide) (fun hq => ?_) (fun hq => ?_)
    · replace hf := if_tn hq hf
      clear hq
      refine lv_aload_n hx hb dX12_toldRow_25 rfl (lv_at hl 0 rfl) ?_
      refine mg_29 C h dX12_toldRow_26 ?_
      refine lv_iload_n hx hb dX12_toldRow_29 rfl (lv_at hl 1 rfl) ?_
      refine lv_bipush (v := (10 : Int32)) hx hb dX12_toldRow_30 (by decide) ?_
      refine lv_isub hx hb dX12_toldRow_32 ?_
      replace hf := chk_some hf
      obtain ⟨hq, hf⟩ := hf
      refine ml_29 C h hq dX12_toldRow_33 ?_
      clear hq
      obtain ⟨e1, e2⟩ := pr_inj hf
      subst e1 e2
      exact m_iret C h dX12_toldRow_34
    · replace hf := if_t hq hf
      clear hq
      refine lv_aload_n hx hb dX12_toldRow_18 rfl (lv_at hl 0 rfl) ?_
      refine mg_36 C h dX12_toldRow_19 ?_
      refine lv_goto (tgt := 34) hx hb dX12_toldRow_22 (by decide) ?_
      obtain ⟨e1, e2⟩ := pr_inj hf
      subst e1 e2
      exact m_iret C h dX12_toldRow_34
  · replace hf := if_t hq hf
    clear hq
    refine lv_iconst (v := (-1 : Int32)) hx hb dX12_toldRow_10 (by decide) ?_
    refine lv_goto (tgt := 34) hx hb dX12_toldRow_11 (by decide) ?_
    obtain ⟨e1, e2⟩ := pr_inj hf
    subst e1 e2
    exact m_iret C h dX12_toldRow_34

set_option maxHeartbeats 4000000 in
set_option maxRecDepth 100000 in
theorem wX12_cheapest_28 (C : MCx p s m args meth c A RX12 cX12_cheapest 3 (some .int) D cs)  {r : Int32} {g' : MS}  : ∀ (g : MS) (y1 : Int32) (y2 : Int32), fX12_cheapest_28 g y1 y2 = some (r, g') → ∀ (H : Heap) (locs : List Loc) (ls : Array Slot), MH D (MW cs ad g) A s H locs → lv_has ls 3 [(0, .ref (ad 48)), (1, .int y1), (2, .int y2)] → W p l e (rM 20) s m args below meth c H locs 0 0 (MQ below (GPost D (some (.int r)) (MW cs ad g') A) args s 0 0 A) (F0 m 28 ls []) := by
  have hx := C.1
  have hb := C.2.1
  intro g y1 y2 hf H locs ls h hl
  unfold fX12_cheapest_28 at hf
  refine lv_aload_n hx hb dX12_cheapest_28 rfl (lv_at hl 0 rfl) ?_
  refine mg_4 C h dX12_cheapest_29 ?_
  refine lv_if_le (tgt := 37) hx hb dX12_cheapest_32 (by decide) (fun hq => ?_) (fun hq => ?_)
  · replace hf := if_t hq hf
    clear hq
    refine lv_aload_n hx hb dX12_cheapest_37 rfl (lv_at hl 0 rfl) ?_
    refine lv_iload_n hx hb dX12_cheapest_38 rfl (lv_at hl 1 rfl) ?_
    replace hf := bnd_ex hf
    obtain ⟨g1, eg1, hf⟩ := hf
    refine mp_33 C h dX12_cheapest_39 (fun H locs h => ?_)
    rw [← eg1] at h
    clear eg1
    refine lv_aload_n hx hb dX12_cheapest_42 rfl (lv_at hl 0 rfl) ?_
    refine lv_iconst (v := (0 : Int32)) hx hb dX12_cheapest_43 (by decide) ?_
    replace hf := bndv_some hf
    obtain ⟨g2, hc, hf⟩ := hf
    refine m_callVv [.int (0 : Int32)] C h cv_X12_474 (qX12_asksRows hc) rfl ⟨rfl, rfl⟩ ⟨Nat.le_of_ble_eq_true rfl, Nat.le_of_ble_eq_true rfl⟩ (m_recv C h) hl.1 rfl (Nat.le_of_ble_eq_true rfl) ⟨Nat.le_refl _, Nat.le_refl _⟩ dX12_cheapest_44 (fun H locs h => ?_)
    clear hc
    refine lv_aload_n hx hb dX12_cheapest_47 rfl (lv_at hl 0 rfl) ?_
    refine lv_iload_n hx hb dX12_cheapest_48 rfl (lv_at hl 2 rfl) ?_
    replace hf := bndc_some hf
    obtain ⟨x3, g4, hc, hf⟩ := hf
    refine m_callVi [.int y2] C h cv_X12_477 (qX12_toldRow hc) rfl ⟨rfl, rfl⟩ ⟨Nat.le_of_ble_eq_true rfl, Nat.le_of_ble_eq_true rfl⟩ (m_recv C h) hl.1 rfl (Nat.le_of_ble_eq_true rfl) ⟨Nat.le_refl _, Nat.le_refl _⟩ dX12_cheapest_49 (fun H locs h => ?_)
    clear hc
    obtain ⟨e1, e2⟩ := pr_inj hf
    subst e1 e2
    exact m_iret C h dX12_cheapest_52
  · replace hf := if_f hq hf
    clear hq
    refine lv_iconst (v := (0 : Int32)) hx hb dX12_cheapest_35 (by decide) ?_
    obtain ⟨e1, e2⟩ := pr_inj hf
    subst e1 e2
    exact m_iret C h dX12_cheapest_36

set_option maxHeartbeats 4000000 in
set_option maxRecDepth 100000 in
theorem qX12_cheapest {l : Launch} {D : va_G} {cs : Nat → ClassId} {ad : Nat → Nat} {r : Int32} {g' : MS} {g : MS}  {a0 : Int32} {a1 : Int32} (hf : fX12_cheapest g a0 a1 = some (r, g')) : GCon l D cs yX12_cheapest cX12_cheapest 3 (some .int) (rM 20) 0 0 [.ref (ad 48), .int a0, .int a1] (MW cs ad g) (some (.int r)) (MW cs ad g') := by
  refine GCon.of (by decide) (Nat.le_of_ble_eq_true rfl) ?_
  intro p e s m args below meth c A ls H locs C h hl
  have hx := C.1
  have hb := C.2.1
  have C : MCx p s m args meth c A RX12 cX12_cheapest 3 (some .int) D cs := C
  have hl : lv_has ls 3 [(0, .ref (ad 48)), (1, .int a0), (2, .int a1)] := hl
  unfold fX12_cheapest at hf
  refine lv_aload_n hx hb dX12_cheapest_0 rfl (lv_at hl 0 rfl) ?_
  refine lv_aload_n hx hb dX12_cheapest_1 rfl (lv_at hl 0 rfl) ?_
  refine lv_iload_n hx hb dX12_cheapest_2 rfl (lv_at hl 1 rfl) ?_
  replace hf := bndc_some hf
  obtain ⟨x5, g6, hc, hf⟩ := hf
  refine m_callVi [.int a0] C h cv_X12_468 (qX12_lookFault hc) rfl ⟨rfl, rfl⟩ ⟨Nat.le_of_ble_eq_true rfl, Nat.le_of_ble_eq_true rfl⟩ (m_recv C h) hl.1 rfl (Nat.le_of_ble_eq_true rfl) ⟨Nat.le_refl _, Nat.le_refl _⟩ dX12_cheapest_3 (fun H locs h => ?_)
  clear hc
  replace hf := bnd_ex hf
  obtain ⟨g7, eg7, hf⟩ := hf
  refine mp_4 C h dX12_cheapest_6 (fun H locs h => ?_)
  rw [← eg7] at h
  clear eg7
  refine lv_aload_n hx hb dX12_cheapest_9 rfl (lv_at hl 0 rfl) ?_
  refine mg_4 C h dX12_cheapest_10 ?_
  refine lv_if_ne (tgt := 28) hx hb dX12_cheapest_13 (by decide) (fun hq => ?_) (fun hq => ?_)
  · replace hf := if_tn hq hf
    clear hq
    exact wX12_cheapest_28 C g7 a0 a1 hf H locs ls h (lv_sub hl [0, 1, 2] rfl)
  · replace hf := if_t hq hf
    clear hq
    refine lv_iload_n hx hb dX12_cheapest_16 rfl (lv_at hl 2 rfl) ?_
    replace hf := bndv_some hf
    obtain ⟨x8, hc, hf⟩ := hf
    refine m_callSi [.int a1] C h cs_X12_471 (qX12_isWhat hc) rfl ⟨rfl, rfl⟩ ⟨Nat.le_of_ble_eq_true rfl, Nat.le_of_ble_eq_true rfl⟩ hl.1 rfl (Nat.le_of_ble_eq_true rfl) ⟨Nat.le_refl _, Nat.le_refl _⟩ dX12_cheapest_17 (fun H locs h => ?_)
    clear hc
    refine lv_if_ne (tgt := 28) hx hb dX12_cheapest_20 (by decide) (fun hq => ?_) (fun hq => ?_)
    · replace hf := if_tn hq hf
      clear hq
      exact wX12_cheapest_28 C g7 a0 a1 hf H locs ls h (lv_sub hl [0, 1, 2] rfl)
    · replace hf := if_t hq hf
      clear hq
      refine lv_aload_n hx hb dX12_cheapest_23 rfl (lv_at hl 0 rfl) ?_
      refine lv_iconst (v := (3 : Int32)) hx hb dX12_cheapest_24 (by decide) ?_
      replace hf := bnd_ex hf
      obtain ⟨g9, eg9, hf⟩ := hf
      refine mp_4 C h dX12_cheapest_25 (fun H locs h => ?_)
      rw [← eg9] at h
      clear eg9
      exact wX12_cheapest_28 C g9 a0 a1 hf H locs ls h (lv_sub hl [0, 1, 2] rfl)

set_option maxHeartbeats 4000000 in
set_option maxRecDepth 100000 in
theorem qX12_ways {l : Launch} {D : va_G} {cs : Nat → ClassId} {ad : Nat → Nat} {r : Int32} {g' : MS} {g : MS}  {a0 : Int32} (hf : fX12_ways g a0 = some (r, g')) : GCon l D cs yX12_ways cX12_ways 2 (some .int) (rM 20) 0 0 [.ref (ad 48), .int a0] (MW cs ad g) (some (.int r)) (MW cs ad g') := by
  refine GCon.of (by decide) (Nat.le_of_ble_eq_true rfl) ?_
  intro p e s m args below meth c A ls H locs C h hl
  have hx := C.1
  have hb := C.2.1
  have C : MCx p s m args meth c A RX12 cX12_ways 2 (some .int) D cs := C
  have hl : lv_has ls 2 [(0, .ref (ad 48)), (1, .int a0)] := hl
  unfold fX12_ways at hf
  refine lv_aload_n hx hb dX12_ways_0 rfl (lv_at hl 0 rfl) ?_
  refine lv_aload_n hx hb dX12_ways_1 rfl (lv_at hl 0 rfl) ?_
  refine lv_iload_n hx hb dX12_ways_2 rfl (lv_at hl 1 rfl) ?_
  replace hf := bndc_some hf
  obtain ⟨x1, g2, hc, hf⟩ := hf
  refine m_callVi [.int a0] C h cv_X12_468 (qX12_lookFault hc) rfl ⟨rfl, rfl⟩ ⟨Nat.le_of_ble_eq_true rfl, Nat.le_of_ble_eq_true rfl⟩ (m_recv C h) hl.1 rfl (Nat.le_of_ble_eq_true rfl) ⟨Nat.le_refl _, Nat.le_refl _⟩ dX12_ways_3 (fun H locs h => ?_)
  clear hc
  replace hf := bnd_ex hf
  obtain ⟨g3, eg3, hf⟩ := hf
  refine mp_4 C h dX12_ways_6 (fun H locs h => ?_)
  rw [← eg3] at h
  clear eg3
  refine lv_aload_n hx hb dX12_ways_9 rfl (lv_at hl 0 rfl) ?_
  refine mg_4 C h dX12_ways_10 ?_
  refine lv_if_le (tgt := 18) hx hb dX12_ways_13 (by decide) (fun hq => ?_) (fun hq => ?_)
  · replace hf := if_t hq hf
    clear hq
    refine lv_aload_n hx hb dX12_ways_18 rfl (lv_at hl 0 rfl) ?_
    refine lv_iload_n hx hb dX12_ways_19 rfl (lv_at hl 1 rfl) ?_
    replace hf := bnd_ex hf
    obtain ⟨g4, eg4, hf⟩ := hf
    refine mp_33 C h dX12_ways_20 (fun H locs h => ?_)
    rw [← eg4] at h
    clear eg4
    refine lv_aload_n hx hb dX12_ways_23 rfl (lv_at hl 0 rfl) ?_
    refine lv_iconst (v := (0 : Int32)) hx hb dX12_ways_24 (by decide) ?_
    replace hf := bndv_some hf
    obtain ⟨g5, hc, hf⟩ := hf
    refine m_callVv [.int (0 : Int32)] C h cv_X12_474 (qX12_asksRows hc) rfl ⟨rfl, rfl⟩ ⟨Nat.le_of_ble_eq_true rfl, Nat.le_of_ble_eq_true rfl⟩ (m_recv C h) hl.1 rfl (Nat.le_of_ble_eq_true rfl) ⟨Nat.le_refl _, Nat.le_refl _⟩ dX12_ways_25 (fun H locs h => ?_)
    clear hc
    refine lv_aload_n hx hb dX12_ways_28 rfl (lv_at hl 0 rfl) ?_
    refine mg_35 C h dX12_ways_29 ?_
    obtain ⟨e1, e2⟩ := pr_inj hf
    subst e1 e2
    exact m_iret C h dX12_ways_32
  · replace hf := if_f hq hf
    clear hq
    refine lv_iconst (v := (0 : Int32)) hx hb dX12_ways_16 (by decide) ?_
    obtain ⟨e1, e2⟩ := pr_inj hf
    subst e1 e2
    exact m_iret C h dX12_ways_17

set_option maxHeartbeats 4000000 in
set_option maxRecDepth 100000 in
theorem wX12_throne_26 (C : MCx p s m args meth c A RX12 cX12_throne 3 (some .int) D cs)  {r : Int32} {g' : MS}  : ∀ (g : MS) (y1 : Int32) (y2 : Int32) (t1 : Int32), fX12_throne_26 g y1 y2 t1 = some (r, g') → ∀ (H : Heap) (locs : List Loc) (ls : Array Slot), MH D (MW cs ad g) A s H locs → lv_has ls 3 [(0, .ref (ad 48)), (1, .int y1), (2, .int y2)] → W p l e (rM 20) s m args below meth c H locs 0 0 (MQ below (GPost D (some (.int r)) (MW cs ad g') A) args s 0 0 A) (F0 m 26 ls [.int t1, .ref (ad 48)]) := by
  have hx := C.1
  have hb := C.2.1
  intro g y1 y2 t1 hf H locs ls h hl
  unfold fX12_throne_26 at hf
  replace hf := bnd_ex hf
  obtain ⟨g1, eg1, hf⟩ := hf
  refine mp_4 C h dX12_throne_26 (fun H locs h => ?_)
  rw [← eg1] at h
  clear eg1
  refine lv_aload_n hx hb dX12_throne_29 rfl (lv_at hl 0 rfl) ?_
  refine mg_4 C h dX12_throne_30 ?_
  refine lv_if_le (tgt := 38) hx hb dX12_throne_33 (by decide) (fun hq => ?_) (fun hq => ?_)
  · replace hf := if_t hq hf
    clear hq
    refine lv_aload_n hx hb dX12_throne_38 rfl (lv_at hl 0 rfl) ?_
    refine lv_iload_n hx hb dX12_throne_39 rfl (lv_at hl 1 rfl) ?_
    replace hf := bnd_ex hf
    obtain ⟨g2, eg2, hf⟩ := hf
    refine mp_34 C h dX12_throne_40 (fun H locs h => ?_)
    rw [← eg2] at h
    clear eg2
    refine lv_aload_n hx hb dX12_throne_43 rfl (lv_at hl 0 rfl) ?_
    refine lv_iconst (v := (1 : Int32)) hx hb dX12_throne_44 (by decide) ?_
    replace hf := bndv_some hf
    obtain ⟨g3, hc, hf⟩ := hf
    refine m_callVv [.int (1 : Int32)] C h cv_X12_474 (qX12_asksRows hc) rfl ⟨rfl, rfl⟩ ⟨Nat.le_of_ble_eq_true rfl, Nat.le_of_ble_eq_true rfl⟩ (m_recv C h) hl.1 rfl (Nat.le_of_ble_eq_true rfl) ⟨Nat.le_refl _, Nat.le_refl _⟩ dX12_throne_45 (fun H locs h => ?_)
    clear hc
    refine lv_aload_n hx hb dX12_throne_48 rfl (lv_at hl 0 rfl) ?_
    refine lv_iload_n hx hb dX12_throne_49 rfl (lv_at hl 2 rfl) ?_
    replace hf := bndc_some hf
    obtain ⟨x4, g5, hc, hf⟩ := hf
    refine m_callVi [.int y2] C h cv_X12_477 (qX12_toldRow hc) rfl ⟨rfl, rfl⟩ ⟨Nat.le_of_ble_eq_true rfl, Nat.le_of_ble_eq_true rfl⟩ (m_recv C h) hl.1 rfl (Nat.le_of_ble_eq_true rfl) ⟨Nat.le_refl _, Nat.le_refl _⟩ dX12_throne_50 (fun H locs h => ?_)
    clear hc
    obtain ⟨e1, e2⟩ := pr_inj hf
    subst e1 e2
    exact m_iret C h dX12_throne_53
  · replace hf := if_f hq hf
    clear hq
    refine lv_iconst (v := (0 : Int32)) hx hb dX12_throne_36 (by decide) ?_
    obtain ⟨e1, e2⟩ := pr_inj hf
    subst e1 e2
    exact m_iret C h dX12_throne_37

set_option maxHeartbeats 4000000 in
set_option maxRecDepth 100000 in
theorem qX12_throne {l : Launch} {D : va_G} {cs : Nat → ClassId} {ad : Nat → Nat} {r : Int32} {g' : MS} {g : MS}  {a0 : Int32} {a1 : Int32} (hf : fX12_throne g a0 a1 = some (r, g')) : GCon l D cs yX12_throne cX12_throne 3 (some .int) (rM 20) 0 0 [.ref (ad 48), .int a0, .int a1] (MW cs ad g) (some (.int r)) (MW cs ad g') := by
  refine GCon.of (by decide) (Nat.le_of_ble_eq_true rfl) ?_
  intro p e s m args below meth c A ls H locs C h hl
  have hx := C.1
  have hb := C.2.1
  have C : MCx p s m args meth c A RX12 cX12_throne 3 (some .int) D cs := C
  have hl : lv_has ls 3 [(0, .ref (ad 48)), (1, .int a0), (2, .int a1)] := hl
  unfold fX12_throne at hf
  refine lv_aload_n hx hb dX12_throne_0 rfl (lv_at hl 0 rfl) ?_
  refine lv_aload_n hx hb dX12_throne_1 rfl (lv_at hl 0 rfl) ?_
  refine lv_iload_n hx hb dX12_throne_2 rfl (lv_at hl 1 rfl) ?_
  refine lv_i2l hx hb dX12_throne_3 rfl ?_
  replace hf := bndc_some hf
  obtain ⟨x6, g7, hc, hf⟩ := hf
  refine m_callVi [.long a0.toInt64] C h cv_X12_319 (qX12_isMember hc) rfl ⟨rfl, rfl⟩ ⟨Nat.le_of_ble_eq_true rfl, Nat.le_of_ble_eq_true rfl⟩ (m_recv C h) hl.1 rfl (Nat.le_of_ble_eq_true rfl) ⟨Nat.le_refl _, Nat.le_refl _⟩ dX12_throne_4 (fun H locs h => ?_)
  clear hc
  refine lv_if_ne (tgt := 14) hx hb dX12_throne_7 (by decide) (fun hq => ?_) (fun hq => ?_)
  · replace hf := if_tn hq hf
    clear hq
    refine lv_iload_n hx hb dX12_throne_14 rfl (lv_at hl 2 rfl) ?_
    replace hf := bndv_some hf
    obtain ⟨x8, hc, hf⟩ := hf
    refine m_callSi [.int a1] C h cs_X12_471 (qX12_isWhat hc) rfl ⟨rfl, rfl⟩ ⟨Nat.le_of_ble_eq_true rfl, Nat.le_of_ble_eq_true rfl⟩ hl.1 rfl (Nat.le_of_ble_eq_true rfl) ⟨Nat.le_refl _, Nat.le_refl _⟩ dX12_throne_15 (fun H locs h => ?_)
    clear hc
    refine lv_if_eq (tgt := 25) hx hb dX12_throne_18 (by decide) (fun hq => ?_) (fun hq => ?_)
    · replace hf := if_t hq hf
      clear hq
      refine lv_iconst (v := (2 : Int32)) hx hb dX12_throne_25 (by decide) ?_
      exact wX12_throne_26 C g7 a0 a1 (2 : Int32) hf H locs ls h (lv_sub hl [0, 1, 2] rfl)
    · replace hf := if_f hq hf
      clear hq
      refine lv_iconst (v := (0 : Int32)) hx hb dX12_throne_21 (by decide) ?_
      refine lv_goto (tgt := 26) hx hb dX12_throne_22 (by decide) ?_
      exact wX12_throne_26 C g7 a0 a1 (0 : Int32) hf H locs ls h (lv_sub hl [0, 1, 2] rfl)
  · replace hf := if_t hq hf
    clear hq
    refine lv_iconst (v := (1 : Int32)) hx hb dX12_throne_10 (by decide) ?_
    refine lv_goto (tgt := 26) hx hb dX12_throne_11 (by decide) ?_
    exact wX12_throne_26 C g7 a0 a1 (1 : Int32) hf H locs ls h (lv_sub hl [0, 1, 2] rfl)

set_option maxHeartbeats 4000000 in
set_option maxRecDepth 100000 in
theorem wX12_laysLooks_23 (C : MCx p s m args meth c A RX12 cX12_laysLooks 2 none D cs)  {g' : MS}  : ∀ (n : Nat) (g : MS) (y1 : Int32), fX12_laysLooks_23 n g y1 = some g' → ∀ (H : Heap) (locs : List Loc) (ls : Array Slot), MH D (MW cs ad g) A s H locs → lv_has ls 2 [(0, .ref (ad 48)), (1, .int y1)] → W p l e (rM 20) s m args below meth c H locs 0 0 (MQ below (GPost D none (MW cs ad g') A) args s 0 0 A) (F0 m 23 ls []) := by
  have hx := C.1
  have hb := C.2.1
  intro n
  induction n with
  | zero =>
    intro g y1 hf
    exact absurd hf (by simp [fX12_laysLooks_23])
  | succ n ih =>
    intro g y1 hf H locs ls h hl
    rw [fX12_laysLooks_23] at hf
    refine lv_iload_n hx hb dX12_laysLooks_23 rfl (lv_at hl 1 rfl) ?_
    refine lv_bipush (v := (6 : Int32)) hx hb dX12_laysLooks_24 (by decide) ?_
    refine lv_icmp_ge (tgt := 42) hx hb dX12_laysLooks_26 (by decide) (fun hq => ?_) (fun hq => ?_)
    · replace hf := if_t hq hf
      clear hq
      refine lv_aload_n hx hb dX12_laysLooks_42 rfl (lv_at hl 0 rfl) ?_
      refine lv_iconst (v := (3 : Int32)) hx hb dX12_laysLooks_43 (by decide) ?_
      replace hf := bndv_some hf
      obtain ⟨g1, hc, hf⟩ := hf
      refine m_callVv [.int (3 : Int32)] C h cv_X12_474 (qX12_asksRows hc) rfl ⟨rfl, rfl⟩ ⟨Nat.le_of_ble_eq_true rfl, Nat.le_of_ble_eq_true rfl⟩ (m_recv C h) hl.1 rfl (Nat.le_of_ble_eq_true rfl) ⟨Nat.le_refl _, Nat.le_refl _⟩ dX12_laysLooks_44 (fun H locs h => ?_)
      clear hc
      have e1 := Option.some.inj hf
      subst e1
      exact m_vret C h dX12_laysLooks_47
    · replace hf := if_f hq hf
      clear hq
      refine lv_aload_n hx hb dX12_laysLooks_29 rfl (lv_at hl 0 rfl) ?_
      refine mg_30 C h dX12_laysLooks_30 ?_
      refine lv_iload_n hx hb dX12_laysLooks_33 rfl (lv_at hl 1 rfl) ?_
      refine lv_iconst (v := (0 : Int32)) hx hb dX12_laysLooks_34 (by decide) ?_
      replace hf := chk_some hf
      obtain ⟨hq, hf⟩ := hf
      replace hf := bnd_ex hf
      obtain ⟨g2, eg2, hf⟩ := hf
      refine ms_30 C h hq dX12_laysLooks_35 (fun H locs h => ?_)
      rw [← eg2] at h
      clear hq eg2
      obtain ⟨x3, ex3⟩ : ∃ z : Int32, z = y1 + (1 : Int32) := ⟨_, rfl⟩
      replace hf := bnd_at ex3 hf
      refine lv_iinc (v := x3) (lv' := [(1, .int x3), (0, .ref (ad 48))]) hx hb dX12_laysLooks_36 hl (k := 1) rfl (by rw [ex3]; rfl) (by decide) rfl (fun ls hl => ?_)
      clear ex3
      refine lv_goto (tgt := 23) hx hb dX12_laysLooks_39 (by decide) ?_
      exact ih g2 x3 hf H locs ls h (lv_sub hl [1, 0] rfl)

set_option maxHeartbeats 4000000 in
set_option maxRecDepth 100000 in
theorem wX12_laysLooks_2 (C : MCx p s m args meth c A RX12 cX12_laysLooks 2 none D cs)  {g' : MS}  : ∀ (n : Nat) (g : MS) (y1 : Int32), fX12_laysLooks_2 n g y1 = some g' → ∀ (H : Heap) (locs : List Loc) (ls : Array Slot), MH D (MW cs ad g) A s H locs → lv_has ls 2 [(0, .ref (ad 48)), (1, .int y1)] → W p l e (rM 20) s m args below meth c H locs 0 0 (MQ below (GPost D none (MW cs ad g') A) args s 0 0 A) (F0 m 2 ls []) := by
  have hx := C.1
  have hb := C.2.1
  intro n
  induction n with
  | zero =>
    intro g y1 hf
    exact absurd hf (by simp [fX12_laysLooks_2])
  | succ n ih =>
    intro g y1 hf H locs ls h hl
    rw [fX12_laysLooks_2] at hf
    refine lv_iload_n hx hb dX12_laysLooks_2 rfl (lv_at hl 1 rfl) ?_
    refine lv_ldc hx hb C.2.2.2.1 (C.2.2.2.2.1 _ tb_7_20) dX12_laysLooks_3 ?_
    refine lv_icmp_ge (tgt := 21) hx hb dX12_laysLooks_5 (by decide) (fun hq => ?_) (fun hq => ?_)
    · replace hf := if_t hq hf
      clear hq
      refine lv_iconst (v := (0 : Int32)) hx hb dX12_laysLooks_21 (by decide) ?_
      refine lv_istore_n (lv' := [(1, .int (0 : Int32)), (0, .ref (ad 48))]) hx hb dX12_laysLooks_22 rfl hl (by decide) rfl (fun ls hl => ?_)
      exact wX12_laysLooks_23 C fuel g (0 : Int32) hf H locs ls h (lv_sub hl [1, 0] rfl)
    · replace hf := if_f hq hf
      clear hq
      refine lv_aload_n hx hb dX12_laysLooks_8 rfl (lv_at hl 0 rfl) ?_
      refine mg_31 C h dX12_laysLooks_9 ?_
      refine lv_iload_n hx hb dX12_laysLooks_12 rfl (lv_at hl 1 rfl) ?_
      refine lv_iconst (v := (0 : Int32)) hx hb dX12_laysLooks_13 (by decide) ?_
      replace hf := chk_some hf
      obtain ⟨hq, hf⟩ := hf
      replace hf := bnd_ex hf
      obtain ⟨g4, eg4, hf⟩ := hf
      refine ms_31 C h hq rfl dX12_laysLooks_14 (fun H locs h => ?_)
      rw [← eg4] at h
      clear hq eg4
      obtain ⟨x5, ex5⟩ : ∃ z : Int32, z = y1 + (1 : Int32) := ⟨_, rfl⟩
      replace hf := bnd_at ex5 hf
      refine lv_iinc (v := x5) (lv' := [(1, .int x5), (0, .ref (ad 48))]) hx hb dX12_laysLooks_15 hl (k := 1) rfl (by rw [ex5]; rfl) (by decide) rfl (fun ls hl => ?_)
      clear ex5
      refine lv_goto (tgt := 2) hx hb dX12_laysLooks_18 (by decide) ?_
      exact ih g4 x5 hf H locs ls h (lv_sub hl [1, 0] rfl)

set_option maxHeartbeats 4000000 in
set_option maxRecDepth 100000 in
theorem qX12_laysLooks {l : Launch} {D : va_G} {cs : Nat → ClassId} {ad : Nat → Nat} {g' : MS} {g : MS}  (hf : fX12_laysLooks g = some g') : GCon l D cs yX12_laysLooks cX12_laysLooks 2 none (rM 20) 0 0 [.ref (ad 48)] (MW cs ad g) none (MW cs ad g') := by
  refine GCon.of (by decide) (Nat.le_of_ble_eq_true rfl) ?_
  intro p e s m args below meth c A ls H locs C h hl
  have hx := C.1
  have hb := C.2.1
  have C : MCx p s m args meth c A RX12 cX12_laysLooks 2 none D cs := C
  have hl : lv_has ls 2 [(0, .ref (ad 48))] := hl
  unfold fX12_laysLooks at hf
  refine lv_iconst (v := (0 : Int32)) hx hb dX12_laysLooks_0 (by decide) ?_
  refine lv_istore_n (lv' := [(1, .int (0 : Int32)), (0, .ref (ad 48))]) hx hb dX12_laysLooks_1 rfl hl (by decide) rfl (fun ls hl => ?_)
  exact wX12_laysLooks_2 C fuel g (0 : Int32) hf H locs ls h (lv_sub hl [1, 0] rfl)

set_option maxHeartbeats 4000000 in
set_option maxRecDepth 100000 in
theorem qX12_looks {l : Launch} {D : va_G} {cs : Nat → ClassId} {ad : Nat → Nat} {r : Int32} {g' : MS} {g : MS}  (hf : fX12_looks g = some (r, g')) : GCon l D cs yX12_looks cX12_looks 1 (some .int) (rM 21) 0 0 [.ref (ad 48)] (MW cs ad g) (some (.int r)) (MW cs ad g') := by
  refine GCon.of (by decide) (Nat.le_of_ble_eq_true rfl) ?_
  intro p e s m args below meth c A ls H locs C h hl
  have hx := C.1
  have hb := C.2.1
  have C : MCx p s m args meth c A RX12 cX12_looks 1 (some .int) D cs := C
  have hl : lv_has ls 1 [(0, .ref (ad 48))] := hl
  unfold fX12_looks at hf
  refine lv_aload_n hx hb dX12_looks_0 rfl (lv_at hl 0 rfl) ?_
  refine lv_iconst (v := (0 : Int32)) hx hb dX12_looks_1 (by decide) ?_
  replace hf := bnd_ex hf
  obtain ⟨g1, eg1, hf⟩ := hf
  refine mp_4 C h dX12_looks_2 (fun H locs h => ?_)
  rw [← eg1] at h
  clear eg1
  refine lv_aload_n hx hb dX12_looks_5 rfl (lv_at hl 0 rfl) ?_
  replace hf := bndv_some hf
  obtain ⟨g2, hc, hf⟩ := hf
  refine m_callVv [] C h cv_X12_480 (qX12_laysLooks hc) rfl ⟨rfl, rfl⟩ ⟨Nat.le_of_ble_eq_true rfl, Nat.le_of_ble_eq_true rfl⟩ (m_recv C h) hl.1 rfl (Nat.le_of_ble_eq_true rfl) ⟨Nat.le_refl _, Nat.le_refl _⟩ dX12_looks_6 (fun H locs h => ?_)
  clear hc
  refine lv_aload_n hx hb dX12_looks_9 rfl (lv_at hl 0 rfl) ?_
  refine mg_35 C h dX12_looks_10 ?_
  obtain ⟨e1, e2⟩ := pr_inj hf
  subst e1 e2
  exact m_iret C h dX12_looks_13

set_option maxHeartbeats 4000000 in
set_option maxRecDepth 100000 in
theorem qX12_idle {l : Launch} {D : va_G} {cs : Nat → ClassId} {ad : Nat → Nat} {r : Int32} {g' : MS} {g : MS}  (hf : fX12_idle g = some (r, g')) : GCon l D cs yX12_idle cX12_idle 1 (some .int) (rM 20) 0 0 [.ref (ad 48)] (MW cs ad g) (some (.int r)) (MW cs ad g') := by
  refine GCon.of (by decide) (Nat.le_of_ble_eq_true rfl) ?_
  intro p e s m args below meth c A ls H locs C h hl
  have hx := C.1
  have hb := C.2.1
  have C : MCx p s m args meth c A RX12 cX12_idle 1 (some .int) D cs := C
  have hl : lv_has ls 1 [(0, .ref (ad 48))] := hl
  unfold fX12_idle at hf
  refine lv_aload_n hx hb dX12_idle_0 rfl (lv_at hl 0 rfl) ?_
  refine lv_iconst (v := (0 : Int32)) hx hb dX12_idle_1 (by decide) ?_
  replace hf := bnd_ex hf
  obtain ⟨g1, eg1, hf⟩ := hf
  refine mp_4 C h dX12_idle_2 (fun H locs h => ?_)
  rw [← eg1] at h
  clear eg1
  refine lv_aload_n hx hb dX12_idle_5 rfl (lv_at hl 0 rfl) ?_
  refine lv_iconst (v := (4 : Int32)) hx hb dX12_idle_6 (by decide) ?_
  replace hf := bndv_some hf
  obtain ⟨g2, hc, hf⟩ := hf
  refine m_callVv [.int (4 : Int32)] C h cv_X12_474 (qX12_asksRows hc) rfl ⟨rfl, rfl⟩ ⟨Nat.le_of_ble_eq_true rfl, Nat.le_of_ble_eq_true rfl⟩ (m_recv C h) hl.1 rfl (Nat.le_of_ble_eq_true rfl) ⟨Nat.le_refl _, Nat.le_refl _⟩ dX12_idle_7 (fun H locs h => ?_)
  clear hc
  refine lv_aload_n hx hb dX12_idle_10 rfl (lv_at hl 0 rfl) ?_
  refine mg_35 C h dX12_idle_11 ?_
  obtain ⟨e1, e2⟩ := pr_inj hf
  subst e1 e2
  exact m_iret C h dX12_idle_14

set_option maxHeartbeats 4000000 in
set_option maxRecDepth 100000 in
theorem qX12_power {l : Launch} {D : va_G} {cs : Nat → ClassId} {ad : Nat → Nat} {r : Int32} {g' : MS} {g : MS}  {a0 : Int32} (hf : fX12_power g a0 = some (r, g')) : GCon l D cs yX12_power cX12_power 2 (some .int) (rM 21) 0 0 [.ref (ad 48), .int a0] (MW cs ad g) (some (.int r)) (MW cs ad g') := by
  refine GCon.of (by decide) (Nat.le_of_ble_eq_true rfl) ?_
  intro p e s m args below meth c A ls H locs C h hl
  have hx := C.1
  have hb := C.2.1
  have C : MCx p s m args meth c A RX12 cX12_power 2 (some .int) D cs := C
  have hl : lv_has ls 2 [(0, .ref (ad 48)), (1, .int a0)] := hl
  unfold fX12_power at hf
  refine lv_aload_n hx hb dX12_power_0 rfl (lv_at hl 0 rfl) ?_
  refine lv_iconst (v := (0 : Int32)) hx hb dX12_power_1 (by decide) ?_
  replace hf := bnd_ex hf
  obtain ⟨g1, eg1, hf⟩ := hf
  refine mp_4 C h dX12_power_2 (fun H locs h => ?_)
  rw [← eg1] at h
  clear eg1
  refine lv_aload_n hx hb dX12_power_5 rfl (lv_at hl 0 rfl) ?_
  refine lv_iload_n hx hb dX12_power_6 rfl (lv_at hl 1 rfl) ?_
  refine lv_i2l hx hb dX12_power_7 rfl ?_
  replace hf := bndc_some hf
  obtain ⟨x2, g3, hc, hf⟩ := hf
  refine m_callVi [.long a0.toInt64] C h cv_X12_319 (qX12_isMember hc) rfl ⟨rfl, rfl⟩ ⟨Nat.le_of_ble_eq_true rfl, Nat.le_of_ble_eq_true rfl⟩ (m_recv C h) hl.1 rfl (Nat.le_of_ble_eq_true rfl) ⟨Nat.le_refl _, Nat.le_refl _⟩ dX12_power_8 (fun H locs h => ?_)
  clear hc
  refine lv_if_ne (tgt := 20) hx hb dX12_power_11 (by decide) (fun hq => ?_) (fun hq => ?_)
  · replace hf := if_tn hq hf
    clear hq
    refine lv_aload_n hx hb dX12_power_20 rfl (lv_at hl 0 rfl) ?_
    replace hf := bndv_some hf
    obtain ⟨g4, hc, hf⟩ := hf
    refine m_callVv [] C h cv_X12_480 (qX12_laysLooks hc) rfl ⟨rfl, rfl⟩ ⟨Nat.le_of_ble_eq_true rfl, Nat.le_of_ble_eq_true rfl⟩ (m_recv C h) hl.1 rfl (Nat.le_of_ble_eq_true rfl) ⟨Nat.le_refl _, Nat.le_refl _⟩ dX12_power_21 (fun H locs h => ?_)
    clear hc
    refine lv_aload_n hx hb dX12_power_24 rfl (lv_at hl 0 rfl) ?_
    refine mg_30 C h dX12_power_25 ?_
    refine lv_iload_n hx hb dX12_power_28 rfl (lv_at hl 1 rfl) ?_
    replace hf := chk_some hf
    obtain ⟨hq, hf⟩ := hf
    refine ml_30 C h hq dX12_power_29 ?_
    clear hq
    obtain ⟨e1, e2⟩ := pr_inj hf
    subst e1 e2
    exact m_iret C h dX12_power_30
  · replace hf := if_t hq hf
    clear hq
    refine lv_aload_n hx hb dX12_power_14 rfl (lv_at hl 0 rfl) ?_
    refine lv_iconst (v := (1 : Int32)) hx hb dX12_power_15 (by decide) ?_
    replace hf := bndc_some hf
    obtain ⟨x5, g6, hc, hf⟩ := hf
    refine m_callVi [.int (1 : Int32)] C h cv_X12_239 (qX12_fails hc) rfl ⟨rfl, rfl⟩ ⟨Nat.le_of_ble_eq_true rfl, Nat.le_of_ble_eq_true rfl⟩ (m_recv C h) hl.1 rfl (Nat.le_of_ble_eq_true rfl) ⟨Nat.le_refl _, Nat.le_refl _⟩ dX12_power_16 (fun H locs h => ?_)
    clear hc
    obtain ⟨e1, e2⟩ := pr_inj hf
    subst e1 e2
    exact m_iret C h dX12_power_19

set_option maxHeartbeats 4000000 in
set_option maxRecDepth 100000 in
theorem wX12_strongest_13 (C : MCx p s m args meth c A RX12 cX12_strongest 3 (some .int) D cs)  {r : Int32} {g' : MS}  : ∀ (n : Nat) (g : MS) (y1 : Int32) (y2 : Int32), fX12_strongest_13 n g y1 y2 = some (r, g') → ∀ (H : Heap) (locs : List Loc) (ls : Array Slot), MH D (MW cs ad g) A s H locs → lv_has ls 3 [(0, .ref (ad 48)), (1, .int y1), (2, .int y2)] → W p l e (rM 21) s m args below meth c H locs 0 0 (MQ below (GPost D (some (.int r)) (MW cs ad g') A) args s 0 0 A) (F0 m 13 ls []) := by
  have hx := C.1
  have hb := C.2.1
  intro n
  induction n with
  | zero =>
    intro g y1 y2 hf
    exact absurd hf (by simp [fX12_strongest_13])
  | succ n ih =>
    intro g y1 y2 hf H locs ls h hl
    rw [fX12_strongest_13] at hf
    refine lv_iload_n hx hb dX12_strongest_13 rfl (lv_at hl 2 rfl) ?_
    refine lv_aload_n hx hb dX12_strongest_14 rfl (lv_at hl 0 rfl) ?_
    replace hf := bndc_some hf
    obtain ⟨x1, g2, hc, hf⟩ := hf
    refine m_callVi [] C h cv_X12_254 (qX12_size hc) rfl ⟨rfl, rfl⟩ ⟨Nat.le_of_ble_eq_true rfl, Nat.le_of_ble_eq_true rfl⟩ (m_recv C h) hl.1 rfl (Nat.le_of_ble_eq_true rfl) ⟨Nat.le_refl _, Nat.le_refl _⟩ dX12_strongest_15 (fun H locs h => ?_)
    clear hc
    refine lv_icmp_ge (tgt := 44) hx hb dX12_strongest_18 (by decide) (fun hq => ?_) (fun hq => ?_)
    · replace hf := if_t hq hf
      clear hq
      refine lv_iload_n hx hb dX12_strongest_44 rfl (lv_at hl 1 rfl) ?_
      obtain ⟨e1, e2⟩ := pr_inj hf
      subst e1 e2
      exact m_iret C h dX12_strongest_45
    · replace hf := if_f hq hf
      clear hq
      refine lv_aload_n hx hb dX12_strongest_21 rfl (lv_at hl 0 rfl) ?_
      refine mg_30 C h dX12_strongest_22 ?_
      refine lv_iload_n hx hb dX12_strongest_25 rfl (lv_at hl 2 rfl) ?_
      replace hf := chk_some hf
      obtain ⟨hq, hf⟩ := hf
      refine ml_30 C h hq dX12_strongest_26 ?_
      clear hq
      refine lv_aload_n hx hb dX12_strongest_27 rfl (lv_at hl 0 rfl) ?_
      refine mg_30 C h dX12_strongest_28 ?_
      refine lv_iload_n hx hb dX12_strongest_31 rfl (lv_at hl 1 rfl) ?_
      replace hf := chk_some hf
      obtain ⟨hq, hf⟩ := hf
      refine ml_30 C h hq dX12_strongest_32 ?_
      clear hq
      refine lv_icmp_le (tgt := 38) hx hb dX12_strongest_33 (by decide) (fun hq => ?_) (fun hq => ?_)
      · replace hf := if_t hq hf
        clear hq
        obtain ⟨x3, ex3⟩ : ∃ z : Int32, z = y2 + (1 : Int32) := ⟨_, rfl⟩
        replace hf := bnd_at ex3 hf
        refine lv_iinc (v := x3) (lv' := [(2, .int x3), (0, .ref (ad 48)), (1, .int y1)]) hx hb dX12_strongest_38 hl (k := 2) rfl (by rw [ex3]; rfl) (by decide) rfl (fun ls hl => ?_)
        clear ex3
        refine lv_goto (tgt := 13) hx hb dX12_strongest_41 (by decide) ?_
        exact ih g2 y1 x3 hf H locs ls h (lv_sub hl [1, 2, 0] rfl)
      · replace hf := if_f hq hf
        clear hq
        refine lv_iload_n hx hb dX12_strongest_36 rfl (lv_at hl 2 rfl) ?_
        refine lv_istore_n (lv' := [(1, .int y2), (0, .ref (ad 48)), (2, .int y2)]) hx hb dX12_strongest_37 rfl hl (by decide) rfl (fun ls hl => ?_)
        obtain ⟨x4, ex4⟩ : ∃ z : Int32, z = y2 + (1 : Int32) := ⟨_, rfl⟩
        replace hf := bnd_at ex4 hf
        refine lv_iinc (v := x4) (lv' := [(2, .int x4), (1, .int y2), (0, .ref (ad 48))]) hx hb dX12_strongest_38 hl (k := 2) rfl (by rw [ex4]; rfl) (by decide) rfl (fun ls hl => ?_)
        clear ex4
        refine lv_goto (tgt := 13) hx hb dX12_strongest_41 (by decide) ?_
        exact ih g2 y2 x4 hf H locs ls h (lv_sub hl [2, 1, 0] rfl)

set_option maxHeartbeats 4000000 in
set_option maxRecDepth 100000 in
theorem qX12_strongest {l : Launch} {D : va_G} {cs : Nat → ClassId} {ad : Nat → Nat} {r : Int32} {g' : MS} {g : MS}  (hf : fX12_strongest g = some (r, g')) : GCon l D cs yX12_strongest cX12_strongest 3 (some .int) (rM 21) 0 0 [.ref (ad 48)] (MW cs ad g) (some (.int r)) (MW cs ad g') := by
  refine GCon.of (by decide) (Nat.le_of_ble_eq_true rfl) ?_
  intro p e s m args below meth c A ls H locs C h hl
  have hx := C.1
  have hb := C.2.1
  have C : MCx p s m args meth c A RX12 cX12_strongest 3 (some .int) D cs := C
  have hl : lv_has ls 3 [(0, .ref (ad 48))] := hl
  unfold fX12_strongest at hf
  refine lv_aload_n hx hb dX12_strongest_0 rfl (lv_at hl 0 rfl) ?_
  refine lv_iconst (v := (0 : Int32)) hx hb dX12_strongest_1 (by decide) ?_
  replace hf := bnd_ex hf
  obtain ⟨g5, eg5, hf⟩ := hf
  refine mp_4 C h dX12_strongest_2 (fun H locs h => ?_)
  rw [← eg5] at h
  clear eg5
  refine lv_aload_n hx hb dX12_strongest_5 rfl (lv_at hl 0 rfl) ?_
  replace hf := bndv_some hf
  obtain ⟨g6, hc, hf⟩ := hf
  refine m_callVv [] C h cv_X12_480 (qX12_laysLooks hc) rfl ⟨rfl, rfl⟩ ⟨Nat.le_of_ble_eq_true rfl, Nat.le_of_ble_eq_true rfl⟩ (m_recv C h) hl.1 rfl (Nat.le_of_ble_eq_true rfl) ⟨Nat.le_refl _, Nat.le_refl _⟩ dX12_strongest_6 (fun H locs h => ?_)
  clear hc
  refine lv_iconst (v := (0 : Int32)) hx hb dX12_strongest_9 (by decide) ?_
  refine lv_istore_n (lv' := [(1, .int (0 : Int32)), (0, .ref (ad 48))]) hx hb dX12_strongest_10 rfl hl (by decide) rfl (fun ls hl => ?_)
  refine lv_iconst (v := (1 : Int32)) hx hb dX12_strongest_11 (by decide) ?_
  refine lv_istore_n (lv' := [(2, .int (1 : Int32)), (1, .int (0 : Int32)), (0, .ref (ad 48))]) hx hb dX12_strongest_12 rfl hl (by decide) rfl (fun ls hl => ?_)
  exact wX12_strongest_13 C fuel g6 (0 : Int32) (1 : Int32) hf H locs ls h (lv_sub hl [2, 1, 0] rfl)

set_option maxHeartbeats 4000000 in
set_option maxRecDepth 100000 in
theorem wX12_aimsBehindOne_2 (C : MCx p s m args meth c A RX12 cX12_aimsBehindOne 4 none D cs)  {g' : MS}  : ∀ (n : Nat) (g : MS) (y1 : Int32) (y2 : Int32) (y3 : Int32), fX12_aimsBehindOne_2 n g y1 y2 y3 = some g' → ∀ (H : Heap) (locs : List Loc) (ls : Array Slot), MH D (MW cs ad g) A s H locs → lv_has ls 4 [(0, .ref (ad 48)), (1, .int y1), (2, .int y2), (3, .int y3)] → W p l e (rM 3) s m args below meth c H locs 0 0 (MQ below (GPost D none (MW cs ad g') A) args s 0 0 A) (F0 m 2 ls []) := by
  have hx := C.1
  have hb := C.2.1
  intro n
  induction n with
  | zero =>
    intro g y1 y2 y3 hf
    exact absurd hf (by simp [fX12_aimsBehindOne_2])
  | succ n ih =>
    intro g y1 y2 y3 hf H locs ls h hl
    rw [fX12_aimsBehindOne_2] at hf
    refine lv_iload_n hx hb dX12_aimsBehindOne_2 rfl (lv_at hl 3 rfl) ?_
    refine lv_aload_n hx hb dX12_aimsBehindOne_3 rfl (lv_at hl 0 rfl) ?_
    replace hf := bndc_some hf
    obtain ⟨x1, g2, hc, hf⟩ := hf
    refine m_callVi [] C h cv_X12_254 (qX12_size hc) rfl ⟨rfl, rfl⟩ ⟨Nat.le_of_ble_eq_true rfl, Nat.le_of_ble_eq_true rfl⟩ (m_recv C h) hl.1 rfl (Nat.le_of_ble_eq_true rfl) ⟨Nat.le_refl _, Nat.le_refl _⟩ dX12_aimsBehindOne_4 (fun H locs h => ?_)
    clear hc
    refine lv_icmp_ge (tgt := 32) hx hb dX12_aimsBehindOne_7 (by decide) (fun hq => ?_) (fun hq => ?_)
    · replace hf := if_t hq hf
      clear hq
      refine lv_aload_n hx hb dX12_aimsBehindOne_32 rfl (lv_at hl 0 rfl) ?_
      replace hf := bndv_some hf
      obtain ⟨g3, hc, hf⟩ := hf
      refine m_callVv [] C h cv_X12_426 (qX12_aimsBehind hc) rfl ⟨rfl, rfl⟩ ⟨Nat.le_of_ble_eq_true rfl, Nat.le_of_ble_eq_true rfl⟩ (m_recv C h) hl.1 rfl (Nat.le_of_ble_eq_true rfl) ⟨Nat.le_refl _, Nat.le_refl _⟩ dX12_aimsBehindOne_33 (fun H locs h => ?_)
      clear hc
      refine lv_aload_n hx hb dX12_aimsBehindOne_36 rfl (lv_at hl 0 rfl) ?_
      refine mg_26 C h dX12_aimsBehindOne_37 ?_
      refine lv_iload_n hx hb dX12_aimsBehindOne_40 rfl (lv_at hl 1 rfl) ?_
      refine lv_iconst (v := (0 : Int32)) hx hb dX12_aimsBehindOne_41 (by decide) ?_
      replace hf := chk_some hf
      obtain ⟨hq, hf⟩ := hf
      replace hf := bnd_ex hf
      obtain ⟨g4, eg4, hf⟩ := hf
      refine ms_26 C h hq dX12_aimsBehindOne_42 (fun H locs h => ?_)
      rw [← eg4] at h
      clear hq eg4
      have e1 := Option.some.inj hf
      subst e1
      exact m_vret C h dX12_aimsBehindOne_43
    · replace hf := if_f hq hf
      clear hq
      refine lv_aload_n hx hb dX12_aimsBehindOne_10 rfl (lv_at hl 0 rfl) ?_
      refine mg_26 C h dX12_aimsBehindOne_11 ?_
      refine lv_iload_n hx hb dX12_aimsBehindOne_14 rfl (lv_at hl 3 rfl) ?_
      refine lv_iload_n hx hb dX12_aimsBehindOne_15 rfl (lv_at hl 3 rfl) ?_
      refine lv_iload_n hx hb dX12_aimsBehindOne_16 rfl (lv_at hl 1 rfl) ?_
      refine lv_icmp_ne (tgt := 24) hx hb dX12_aimsBehindOne_17 (by decide) (fun hq => ?_) (fun hq => ?_)
      · replace hf := if_tn hq hf
        clear hq
        refine lv_iconst (v := (0 : Int32)) hx hb dX12_aimsBehindOne_24 (by decide) ?_
        replace hf := chk_some hf
        obtain ⟨hq, hf⟩ := hf
        replace hf := bnd_ex hf
        obtain ⟨g5, eg5, hf⟩ := hf
        refine ms_26 C h hq dX12_aimsBehindOne_25 (fun H locs h => ?_)
        rw [← eg5] at h
        clear hq eg5
        obtain ⟨x6, ex6⟩ : ∃ z : Int32, z = y3 + (1 : Int32) := ⟨_, rfl⟩
        replace hf := bnd_at ex6 hf
        refine lv_iinc (v := x6) (lv' := [(3, .int x6), (0, .ref (ad 48)), (1, .int y1), (2, .int y2)]) hx hb dX12_aimsBehindOne_26 hl (k := 3) rfl (by rw [ex6]; rfl) (by decide) rfl (fun ls hl => ?_)
        clear ex6
        refine lv_goto (tgt := 2) hx hb dX12_aimsBehindOne_29 (by decide) ?_
        exact ih g5 y1 y2 x6 hf H locs ls h (lv_sub hl [1, 2, 3, 0] rfl)
      · replace hf := if_t hq hf
        clear hq
        refine lv_iload_n hx hb dX12_aimsBehindOne_20 rfl (lv_at hl 2 rfl) ?_
        refine lv_goto (tgt := 25) hx hb dX12_aimsBehindOne_21 (by decide) ?_
        replace hf := chk_some hf
        obtain ⟨hq, hf⟩ := hf
        replace hf := bnd_ex hf
        obtain ⟨g7, eg7, hf⟩ := hf
        refine ms_26 C h hq dX12_aimsBehindOne_25 (fun H locs h => ?_)
        rw [← eg7] at h
        clear hq eg7
        obtain ⟨x8, ex8⟩ : ∃ z : Int32, z = y3 + (1 : Int32) := ⟨_, rfl⟩
        replace hf := bnd_at ex8 hf
        refine lv_iinc (v := x8) (lv' := [(3, .int x8), (0, .ref (ad 48)), (1, .int y1), (2, .int y2)]) hx hb dX12_aimsBehindOne_26 hl (k := 3) rfl (by rw [ex8]; rfl) (by decide) rfl (fun ls hl => ?_)
        clear ex8
        refine lv_goto (tgt := 2) hx hb dX12_aimsBehindOne_29 (by decide) ?_
        exact ih g7 y1 y2 x8 hf H locs ls h (lv_sub hl [1, 2, 3, 0] rfl)

set_option maxHeartbeats 4000000 in
set_option maxRecDepth 100000 in
theorem qX12_aimsBehindOne {l : Launch} {D : va_G} {cs : Nat → ClassId} {ad : Nat → Nat} {g' : MS} {g : MS}  {a0 : Int32} {a1 : Int32} (hf : fX12_aimsBehindOne g a0 a1 = some g') : GCon l D cs yX12_aimsBehindOne cX12_aimsBehindOne 4 none (rM 3) 0 0 [.ref (ad 48), .int a0, .int a1] (MW cs ad g) none (MW cs ad g') := by
  refine GCon.of (by decide) (Nat.le_of_ble_eq_true rfl) ?_
  intro p e s m args below meth c A ls H locs C h hl
  have hx := C.1
  have hb := C.2.1
  have C : MCx p s m args meth c A RX12 cX12_aimsBehindOne 4 none D cs := C
  have hl : lv_has ls 4 [(0, .ref (ad 48)), (1, .int a0), (2, .int a1)] := hl
  unfold fX12_aimsBehindOne at hf
  refine lv_iconst (v := (0 : Int32)) hx hb dX12_aimsBehindOne_0 (by decide) ?_
  refine lv_istore_n (lv' := [(3, .int (0 : Int32)), (0, .ref (ad 48)), (1, .int a0), (2, .int a1)]) hx hb dX12_aimsBehindOne_1 rfl hl (by decide) rfl (fun ls hl => ?_)
  exact wX12_aimsBehindOne_2 C fuel g a0 a1 (0 : Int32) hf H locs ls h (lv_sub hl [1, 2, 3, 0] rfl)

set_option maxHeartbeats 4000000 in
set_option maxRecDepth 100000 in
theorem wX12_motion_36 (C : MCx p s m args meth c A RX12 cX12_motion 3 (some .int) D cs)  {r : Int32} {g' : MS}  : ∀ (n : Nat) (g : MS) (y1 : Int32) (y2 : Int32), fX12_motion_36 n g y1 y2 = some (r, g') → ∀ (H : Heap) (locs : List Loc) (ls : Array Slot), MH D (MW cs ad g) A s H locs → lv_has ls 3 [(0, .ref (ad 48)), (1, .int y1), (2, .int y2)] → W p l e (rM 7) s m args below meth c H locs 0 0 (MQ below (GPost D (some (.int r)) (MW cs ad g') A) args s 0 0 A) (F0 m 36 ls []) := by
  have hx := C.1
  have hb := C.2.1
  intro n
  induction n with
  | zero =>
    intro g y1 y2 hf
    exact absurd hf (by simp [fX12_motion_36])
  | succ n ih =>
    intro g y1 y2 hf H locs ls h hl
    rw [fX12_motion_36] at hf
    refine lv_iload_n hx hb dX12_motion_36 rfl (lv_at hl 2 rfl) ?_
    refine lv_bipush (v := (10 : Int32)) hx hb dX12_motion_37 (by decide) ?_
    refine lv_aload_n hx hb dX12_motion_39 rfl (lv_at hl 0 rfl) ?_
    replace hf := bndc_some hf
    obtain ⟨x1, g2, hc, hf⟩ := hf
    refine m_callVi [] C h cv_X12_254 (qX12_size hc) rfl ⟨rfl, rfl⟩ ⟨Nat.le_of_ble_eq_true rfl, Nat.le_of_ble_eq_true rfl⟩ (m_recv C h) hl.1 rfl (Nat.le_of_ble_eq_true rfl) ⟨Nat.le_refl _, Nat.le_refl _⟩ dX12_motion_40 (fun H locs h => ?_)
    clear hc
    refine lv_imul hx hb dX12_motion_43 ?_
    refine lv_icmp_ge (tgt := 95) hx hb dX12_motion_44 (by decide) (fun hq => ?_) (fun hq => ?_)
    · replace hf := if_t hq hf
      clear hq
      refine lv_iconst (v := (-1 : Int32)) hx hb dX12_motion_95 (by decide) ?_
      obtain ⟨e1, e2⟩ := pr_inj hf
      subst e1 e2
      exact m_iret C h dX12_motion_96
    · replace hf := if_f hq hf
      clear hq
      refine lv_aload_n hx hb dX12_motion_47 rfl (lv_at hl 0 rfl) ?_
      refine lv_iload_n hx hb dX12_motion_48 rfl (lv_at hl 2 rfl) ?_
      refine lv_bipush (v := (10 : Int32)) hx hb dX12_motion_49 (by decide) ?_
      replace hf := chk_some hf
      obtain ⟨hq, hf⟩ := hf
      refine lv_idiv hx hb dX12_motion_51 (nz_ne hq) ?_
      clear hq
      refine lv_i2l hx hb dX12_motion_52 rfl ?_
      refine lv_iload_n hx hb dX12_motion_53 rfl (lv_at hl 2 rfl) ?_
      refine lv_bipush (v := (10 : Int32)) hx hb dX12_motion_54 (by decide) ?_
      replace hf := chk_some hf
      obtain ⟨hq, hf⟩ := hf
      refine x_irem hx hb dX12_motion_56 (nz_ne hq) ?_
      clear hq
      refine lv_i2l hx hb dX12_motion_57 rfl ?_
      replace hf := bndc_some hf
      obtain ⟨x3, g4, hc, hf⟩ := hf
      refine m_callVi [.long ((y2 / (10 : Int32)).toInt64), .long ((jrem y2 (10 : Int32)).toInt64)] C h cv_X12_337 (qX12_whyTurn hc) rfl ⟨rfl, rfl⟩ ⟨Nat.le_of_ble_eq_true rfl, Nat.le_of_ble_eq_true rfl⟩ (m_recv C h) hl.1 rfl (Nat.le_of_ble_eq_true rfl) ⟨Nat.le_refl _, Nat.le_refl _⟩ dX12_motion_58 (fun H locs h => ?_)
      clear hc
      refine lv_if_eq (tgt := 67) hx hb dX12_motion_61 (by decide) (fun hq => ?_) (fun hq => ?_)
      · replace hf := if_t hq hf
        clear hq
        refine lv_aload_n hx hb dX12_motion_67 rfl (lv_at hl 0 rfl) ?_
        refine lv_iload_n hx hb dX12_motion_68 rfl (lv_at hl 2 rfl) ?_
        refine lv_bipush (v := (10 : Int32)) hx hb dX12_motion_69 (by decide) ?_
        replace hf := chk_some hf
        obtain ⟨hq, hf⟩ := hf
        refine lv_idiv hx hb dX12_motion_71 (nz_ne hq) ?_
        clear hq
        refine lv_iload_n hx hb dX12_motion_72 rfl (lv_at hl 2 rfl) ?_
        refine lv_bipush (v := (10 : Int32)) hx hb dX12_motion_73 (by decide) ?_
        replace hf := chk_some hf
        obtain ⟨hq, hf⟩ := hf
        refine x_irem hx hb dX12_motion_75 (nz_ne hq) ?_
        clear hq
        replace hf := bndv_some hf
        obtain ⟨g5, hc, hf⟩ := hf
        refine m_callVv [.int (y2 / (10 : Int32)), .int (jrem y2 (10 : Int32))] C h cv_X12_483 (qX12_aimsBehindOne hc) rfl ⟨rfl, rfl⟩ ⟨Nat.le_of_ble_eq_true rfl, Nat.le_of_ble_eq_true rfl⟩ (m_recv C h) hl.1 rfl (Nat.le_of_ble_eq_true rfl) ⟨Nat.le_refl _, Nat.le_refl _⟩ dX12_motion_76 (fun H locs h => ?_)
        clear hc
        refine lv_aload_n hx hb dX12_motion_79 rfl (lv_at hl 0 rfl) ?_
        replace hf := bndc_some hf
        obtain ⟨x6, g7, hc, hf⟩ := hf
        refine m_callVi [] C h cv_X12_313 (qX12_chairBy hc) rfl ⟨rfl, rfl⟩ ⟨Nat.le_of_ble_eq_true rfl, Nat.le_of_ble_eq_true rfl⟩ (m_recv C h) hl.1 rfl (Nat.le_of_ble_eq_true rfl) ⟨Nat.le_refl _, Nat.le_refl _⟩ dX12_motion_80 (fun H locs h => ?_)
        clear hc
        refine lv_iload_n hx hb dX12_motion_83 rfl (lv_at hl 1 rfl) ?_
        refine lv_icmp_ne (tgt := 89) hx hb dX12_motion_84 (by decide) (fun hq => ?_) (fun hq => ?_)
        · replace hf := if_tn hq hf
          clear hq
          obtain ⟨x8, ex8⟩ : ∃ z : Int32, z = y2 + (1 : Int32) := ⟨_, rfl⟩
          replace hf := bnd_at ex8 hf
          refine lv_iinc (v := x8) (lv' := [(2, .int x8), (0, .ref (ad 48)), (1, .int y1)]) hx hb dX12_motion_89 hl (k := 2) rfl (by rw [ex8]; rfl) (by decide) rfl (fun ls hl => ?_)
          clear ex8
          refine lv_goto (tgt := 36) hx hb dX12_motion_92 (by decide) ?_
          exact ih g7 y1 x8 hf H locs ls h (lv_sub hl [1, 2, 0] rfl)
        · replace hf := if_t hq hf
          clear hq
          refine lv_iload_n hx hb dX12_motion_87 rfl (lv_at hl 2 rfl) ?_
          obtain ⟨e1, e2⟩ := pr_inj hf
          subst e1 e2
          exact m_iret C h dX12_motion_88
      · replace hf := if_f hq hf
        clear hq
        refine lv_goto (tgt := 89) hx hb dX12_motion_64 (by decide) ?_
        obtain ⟨x9, ex9⟩ : ∃ z : Int32, z = y2 + (1 : Int32) := ⟨_, rfl⟩
        replace hf := bnd_at ex9 hf
        refine lv_iinc (v := x9) (lv' := [(2, .int x9), (0, .ref (ad 48)), (1, .int y1)]) hx hb dX12_motion_89 hl (k := 2) rfl (by rw [ex9]; rfl) (by decide) rfl (fun ls hl => ?_)
        clear ex9
        refine lv_goto (tgt := 36) hx hb dX12_motion_92 (by decide) ?_
        exact ih g4 y1 x9 hf H locs ls h (lv_sub hl [1, 2, 0] rfl)

set_option maxHeartbeats 4000000 in
set_option maxRecDepth 100000 in
theorem qX12_motion {l : Launch} {D : va_G} {cs : Nat → ClassId} {ad : Nat → Nat} {r : Int32} {g' : MS} {g : MS}  {a0 : Int32} (hf : fX12_motion g a0 = some (r, g')) : GCon l D cs yX12_motion cX12_motion 3 (some .int) (rM 7) 0 0 [.ref (ad 48), .int a0] (MW cs ad g) (some (.int r)) (MW cs ad g') := by
  refine GCon.of (by decide) (Nat.le_of_ble_eq_true rfl) ?_
  intro p e s m args below meth c A ls H locs C h hl
  have hx := C.1
  have hb := C.2.1
  have C : MCx p s m args meth c A RX12 cX12_motion 3 (some .int) D cs := C
  have hl : lv_has ls 3 [(0, .ref (ad 48)), (1, .int a0)] := hl
  unfold fX12_motion at hf
  refine lv_aload_n hx hb dX12_motion_0 rfl (lv_at hl 0 rfl) ?_
  refine lv_iconst (v := (0 : Int32)) hx hb dX12_motion_1 (by decide) ?_
  replace hf := bnd_ex hf
  obtain ⟨g10, eg10, hf⟩ := hf
  refine mp_4 C h dX12_motion_2 (fun H locs h => ?_)
  rw [← eg10] at h
  clear eg10
  refine lv_aload_n hx hb dX12_motion_5 rfl (lv_at hl 0 rfl) ?_
  refine lv_iload_n hx hb dX12_motion_6 rfl (lv_at hl 1 rfl) ?_
  refine lv_i2l hx hb dX12_motion_7 rfl ?_
  replace hf := bndc_some hf
  obtain ⟨x11, g12, hc, hf⟩ := hf
  refine m_callVi [.long a0.toInt64] C h cv_X12_319 (qX12_isMember hc) rfl ⟨rfl, rfl⟩ ⟨Nat.le_of_ble_eq_true rfl, Nat.le_of_ble_eq_true rfl⟩ (m_recv C h) hl.1 rfl (Nat.le_of_ble_eq_true rfl) ⟨Nat.le_refl _, Nat.le_refl _⟩ dX12_motion_8 (fun H locs h => ?_)
  clear hc
  refine lv_if_ne (tgt := 20) hx hb dX12_motion_11 (by decide) (fun hq => ?_) (fun hq => ?_)
  · replace hf := if_tn hq hf
    clear hq
    refine lv_aload_n hx hb dX12_motion_20 rfl (lv_at hl 0 rfl) ?_
    replace hf := bndc_some hf
    obtain ⟨x13, g14, hc, hf⟩ := hf
    refine m_callVi [] C h cv_X12_328 (qX12_chairNow hc) rfl ⟨rfl, rfl⟩ ⟨Nat.le_of_ble_eq_true rfl, Nat.le_of_ble_eq_true rfl⟩ (m_recv C h) hl.1 rfl (Nat.le_of_ble_eq_true rfl) ⟨Nat.le_refl _, Nat.le_refl _⟩ dX12_motion_21 (fun H locs h => ?_)
    clear hc
    refine lv_iload_n hx hb dX12_motion_24 rfl (lv_at hl 1 rfl) ?_
    refine lv_icmp_ne (tgt := 30) hx hb dX12_motion_25 (by decide) (fun hq => ?_) (fun hq => ?_)
    · replace hf := if_tn hq hf
      clear hq
      refine lv_aload_n hx hb dX12_motion_30 rfl (lv_at hl 0 rfl) ?_
      replace hf := bndv_some hf
      obtain ⟨g15, hc, hf⟩ := hf
      refine m_callVv [] C h cv_X12_423 (qX12_laysAlong hc) rfl ⟨rfl, rfl⟩ ⟨Nat.le_of_ble_eq_true rfl, Nat.le_of_ble_eq_true rfl⟩ (m_recv C h) hl.1 rfl (Nat.le_of_ble_eq_true rfl) ⟨Nat.le_refl _, Nat.le_refl _⟩ dX12_motion_31 (fun H locs h => ?_)
      clear hc
      refine lv_iconst (v := (0 : Int32)) hx hb dX12_motion_34 (by decide) ?_
      refine lv_istore_n (lv' := [(2, .int (0 : Int32)), (0, .ref (ad 48)), (1, .int a0)]) hx hb dX12_motion_35 rfl hl (by decide) rfl (fun ls hl => ?_)
      exact wX12_motion_36 C fuel g15 a0 (0 : Int32) hf H locs ls h (lv_sub hl [1, 2, 0] rfl)
    · replace hf := if_t hq hf
      clear hq
      refine lv_iconst (v := (-1 : Int32)) hx hb dX12_motion_28 (by decide) ?_
      obtain ⟨e1, e2⟩ := pr_inj hf
      subst e1 e2
      exact m_iret C h dX12_motion_29
  · replace hf := if_t hq hf
    clear hq
    refine lv_aload_n hx hb dX12_motion_14 rfl (lv_at hl 0 rfl) ?_
    refine lv_iconst (v := (1 : Int32)) hx hb dX12_motion_15 (by decide) ?_
    replace hf := bndc_some hf
    obtain ⟨x16, g17, hc, hf⟩ := hf
    refine m_callVi [.int (1 : Int32)] C h cv_X12_239 (qX12_fails hc) rfl ⟨rfl, rfl⟩ ⟨Nat.le_of_ble_eq_true rfl, Nat.le_of_ble_eq_true rfl⟩ (m_recv C h) hl.1 rfl (Nat.le_of_ble_eq_true rfl) ⟨Nat.le_refl _, Nat.le_refl _⟩ dX12_motion_16 (fun H locs h => ?_)
    clear hc
    obtain ⟨e1, e2⟩ := pr_inj hf
    subst e1 e2
    exact m_iret C h dX12_motion_19

set_option maxHeartbeats 4000000 in
set_option maxRecDepth 100000 in
theorem wX12_helps_64 (C : MCx p s m args meth c A RX12 cX12_helps 3 (some .int) D cs)  {r : Int32} {g' : MS}  : ∀ (g : MS), fX12_helps_64 g = some (r, g') → ∀ (H : Heap) (locs : List Loc) (ls : Array Slot), MH D (MW cs ad g) A s H locs → lv_has ls 3 [(0, .ref (ad 48))] → W p l e (rM 20) s m args below meth c H locs 0 0 (MQ below (GPost D (some (.int r)) (MW cs ad g') A) args s 0 0 A) (F0 m 64 ls []) := by
  have hx := C.1
  have hb := C.2.1
  intro g hf H locs ls h hl
  unfold fX12_helps_64 at hf
  refine lv_aload_n hx hb dX12_helps_64 rfl (lv_at hl 0 rfl) ?_
  refine mg_38 C h dX12_helps_65 ?_
  refine lv_goto (tgt := 78) hx hb dX12_helps_68 (by decide) ?_
  obtain ⟨e1, e2⟩ := pr_inj hf
  subst e1 e2
  exact m_iret C h dX12_helps_78

set_option maxHeartbeats 4000000 in
set_option maxRecDepth 100000 in
theorem wX12_helps_29 (C : MCx p s m args meth c A RX12 cX12_helps 3 (some .int) D cs)  {r : Int32} {g' : MS}  : ∀ (g : MS) (y1 : Int32) (y2 : Int32) (t1 : Int32), fX12_helps_29 g y1 y2 t1 = some (r, g') → ∀ (H : Heap) (locs : List Loc) (ls : Array Slot), MH D (MW cs ad g) A s H locs → lv_has ls 3 [(0, .ref (ad 48)), (1, .int y1), (2, .int y2)] → W p l e (rM 20) s m args below meth c H locs 0 0 (MQ below (GPost D (some (.int r)) (MW cs ad g') A) args s 0 0 A) (F0 m 29 ls [.int t1, .ref (ad 48)]) := by
  have hx := C.1
  have hb := C.2.1
  intro g y1 y2 t1 hf H locs ls h hl
  unfold fX12_helps_29 at hf
  replace hf := bnd_ex hf
  obtain ⟨g1, eg1, hf⟩ := hf
  refine mp_4 C h dX12_helps_29 (fun H locs h => ?_)
  rw [← eg1] at h
  clear eg1
  refine lv_aload_n hx hb dX12_helps_32 rfl (lv_at hl 0 rfl) ?_
  refine mg_4 C h dX12_helps_33 ?_
  refine lv_if_le (tgt := 41) hx hb dX12_helps_36 (by decide) (fun hq => ?_) (fun hq => ?_)
  · replace hf := if_t hq hf
    clear hq
    refine lv_aload_n hx hb dX12_helps_41 rfl (lv_at hl 0 rfl) ?_
    refine lv_iload_n hx hb dX12_helps_42 rfl (lv_at hl 1 rfl) ?_
    replace hf := bnd_ex hf
    obtain ⟨g2, eg2, hf⟩ := hf
    refine mp_34 C h dX12_helps_43 (fun H locs h => ?_)
    rw [← eg2] at h
    clear eg2
    refine lv_aload_n hx hb dX12_helps_46 rfl (lv_at hl 0 rfl) ?_
    refine lv_iconst (v := (5 : Int32)) hx hb dX12_helps_47 (by decide) ?_
    replace hf := bndv_some hf
    obtain ⟨g3, hc, hf⟩ := hf
    refine m_callVv [.int (5 : Int32)] C h cv_X12_474 (qX12_asksRows hc) rfl ⟨rfl, rfl⟩ ⟨Nat.le_of_ble_eq_true rfl, Nat.le_of_ble_eq_true rfl⟩ (m_recv C h) hl.1 rfl (Nat.le_of_ble_eq_true rfl) ⟨Nat.le_refl _, Nat.le_refl _⟩ dX12_helps_48 (fun H locs h => ?_)
    clear hc
    refine lv_aload_n hx hb dX12_helps_51 rfl (lv_at hl 0 rfl) ?_
    refine mg_38 C h dX12_helps_52 ?_
    refine lv_iconst (v := (-1 : Int32)) hx hb dX12_helps_55 (by decide) ?_
    refine lv_icmp_eq (tgt := 64) hx hb dX12_helps_56 (by decide) (fun hq => ?_) (fun hq => ?_)
    · replace hf := if_t hq hf
      clear hq
      exact wX12_helps_64 C g3 hf H locs ls h (lv_sub hl [0] rfl)
    · replace hf := if_f hq hf
      clear hq
      refine lv_iload_n hx hb dX12_helps_59 rfl (lv_at hl 2 rfl) ?_
      refine lv_iconst (v := (1 : Int32)) hx hb dX12_helps_60 (by decide) ?_
      refine lv_icmp_ne (tgt := 71) hx hb dX12_helps_61 (by decide) (fun hq => ?_) (fun hq => ?_)
      · replace hf := if_tn hq hf
        clear hq
        refine lv_aload_n hx hb dX12_helps_71 rfl (lv_at hl 0 rfl) ?_
        refine mg_38 C h dX12_helps_72 ?_
        replace hf := bndv_some hf
        obtain ⟨x4, hc, hf⟩ := hf
        refine m_callSi [.int (g3.1 38)] C h cs_X12_463 (qX12_bits hc) rfl ⟨rfl, rfl⟩ ⟨Nat.le_of_ble_eq_true rfl, Nat.le_of_ble_eq_true rfl⟩ hl.1 rfl (Nat.le_of_ble_eq_true rfl) ⟨Nat.le_refl _, Nat.le_refl _⟩ dX12_helps_75 (fun H locs h => ?_)
        clear hc
        obtain ⟨e1, e2⟩ := pr_inj hf
        subst e1 e2
        exact m_iret C h dX12_helps_78
      · replace hf := if_t hq hf
        clear hq
        exact wX12_helps_64 C g3 hf H locs ls h (lv_sub hl [0] rfl)
  · replace hf := if_f hq hf
    clear hq
    refine lv_iconst (v := (0 : Int32)) hx hb dX12_helps_39 (by decide) ?_
    obtain ⟨e1, e2⟩ := pr_inj hf
    subst e1 e2
    exact m_iret C h dX12_helps_40

set_option maxHeartbeats 4000000 in
set_option maxRecDepth 100000 in
theorem qX12_helps {l : Launch} {D : va_G} {cs : Nat → ClassId} {ad : Nat → Nat} {r : Int32} {g' : MS} {g : MS}  {a0 : Int32} {a1 : Int32} (hf : fX12_helps g a0 a1 = some (r, g')) : GCon l D cs yX12_helps cX12_helps 3 (some .int) (rM 20) 0 0 [.ref (ad 48), .int a0, .int a1] (MW cs ad g) (some (.int r)) (MW cs ad g') := by
  refine GCon.of (by decide) (Nat.le_of_ble_eq_true rfl) ?_
  intro p e s m args below meth c A ls H locs C h hl
  have hx := C.1
  have hb := C.2.1
  have C : MCx p s m args meth c A RX12 cX12_helps 3 (some .int) D cs := C
  have hl : lv_has ls 3 [(0, .ref (ad 48)), (1, .int a0), (2, .int a1)] := hl
  unfold fX12_helps at hf
  refine lv_aload_n hx hb dX12_helps_0 rfl (lv_at hl 0 rfl) ?_
  refine lv_aload_n hx hb dX12_helps_1 rfl (lv_at hl 0 rfl) ?_
  refine lv_iload_n hx hb dX12_helps_2 rfl (lv_at hl 1 rfl) ?_
  refine lv_i2l hx hb dX12_helps_3 rfl ?_
  replace hf := bndc_some hf
  obtain ⟨x5, g6, hc, hf⟩ := hf
  refine m_callVi [.long a0.toInt64] C h cv_X12_319 (qX12_isMember hc) rfl ⟨rfl, rfl⟩ ⟨Nat.le_of_ble_eq_true rfl, Nat.le_of_ble_eq_true rfl⟩ (m_recv C h) hl.1 rfl (Nat.le_of_ble_eq_true rfl) ⟨Nat.le_refl _, Nat.le_refl _⟩ dX12_helps_4 (fun H locs h => ?_)
  clear hc
  refine lv_if_ne (tgt := 14) hx hb dX12_helps_7 (by decide) (fun hq => ?_) (fun hq => ?_)
  · replace hf := if_tn hq hf
    clear hq
    refine lv_iload_n hx hb dX12_helps_14 rfl (lv_at hl 2 rfl) ?_
    refine lv_i2l hx hb dX12_helps_15 rfl ?_
    refine lv_lconst (v := (0 : Int64)) hx hb dX12_helps_16 rfl ?_
    refine lv_lconst (v := (1 : Int64)) hx hb dX12_helps_17 rfl ?_
    replace hf := bndv_some hf
    obtain ⟨x7, hc, hf⟩ := hf
    refine m_callSi [.long a1.toInt64, .long (0 : Int64), .long (1 : Int64)] C h cs_X12_147 (qX12_within hc) rfl ⟨rfl, rfl⟩ ⟨Nat.le_of_ble_eq_true rfl, Nat.le_of_ble_eq_true rfl⟩ hl.1 rfl (Nat.le_of_ble_eq_true rfl) ⟨Nat.le_refl _, Nat.le_refl _⟩ dX12_helps_18 (fun H locs h => ?_)
    clear hc
    refine lv_if_eq (tgt := 28) hx hb dX12_helps_21 (by decide) (fun hq => ?_) (fun hq => ?_)
    · replace hf := if_t hq hf
      clear hq
      refine lv_iconst (v := (2 : Int32)) hx hb dX12_helps_28 (by decide) ?_
      exact wX12_helps_29 C g6 a0 a1 (2 : Int32) hf H locs ls h (lv_sub hl [0, 1, 2] rfl)
    · replace hf := if_f hq hf
      clear hq
      refine lv_iconst (v := (0 : Int32)) hx hb dX12_helps_24 (by decide) ?_
      refine lv_goto (tgt := 29) hx hb dX12_helps_25 (by decide) ?_
      exact wX12_helps_29 C g6 a0 a1 (0 : Int32) hf H locs ls h (lv_sub hl [0, 1, 2] rfl)
  · replace hf := if_t hq hf
    clear hq
    refine lv_iconst (v := (1 : Int32)) hx hb dX12_helps_10 (by decide) ?_
    refine lv_goto (tgt := 29) hx hb dX12_helps_11 (by decide) ?_
    exact wX12_helps_29 C g6 a0 a1 (1 : Int32) hf H locs ls h (lv_sub hl [0, 1, 2] rfl)

set_option maxHeartbeats 4000000 in
set_option maxRecDepth 100000 in
theorem wX12_vetoes_110 (C : MCx p s m args meth c A RX12 cX12_vetoes 4 (some .int) D cs)  {r : Int32} {g' : MS}  {k43 : MS → Int32 → Int32 → Option (Int32 × MS)} (hk43 : ∀ (g : MS) (y2 : Int32) (y3 : Int32), k43 g y2 y3 = some (r, g') → ∀ (H : Heap) (locs : List Loc) (ls : Array Slot), MH D (MW cs ad g) A s H locs → lv_has ls 4 [(0, .ref (ad 48)), (2, .int y2), (3, .int y3)] → W p l e (rM 20) s m args below meth c H locs 0 0 (MQ below (GPost D (some (.int r)) (MW cs ad g') A) args s 0 0 A) (F0 m 43 ls [])) : ∀ (g : MS) (y3 : Int32) (t0 : Int32) (t1 : Int32), fX12_vetoes_110 k43 g y3 t0 t1 = some (r, g') → ∀ (H : Heap) (locs : List Loc) (ls : Array Slot), MH D (MW cs ad g) A s H locs → lv_has ls 4 [(0, .ref (ad 48)), (3, .int y3)] → W p l e (rM 20) s m args below meth c H locs 0 0 (MQ below (GPost D (some (.int r)) (MW cs ad g') A) args s 0 0 A) (F0 m 110 ls [.int t1, .int t0]) := by
  have hx := C.1
  have hb := C.2.1
  intro g y3 t0 t1 hf H locs ls h hl
  unfold fX12_vetoes_110 at hf
  refine lv_ior hx hb dX12_vetoes_110 ?_
  refine lv_topi (fun x1 ex1 => ?_)
  replace hf := bnd_at ex1 hf
  clear ex1
  refine lv_istore_n (lv' := [(2, .int x1), (0, .ref (ad 48)), (3, .int y3)]) hx hb dX12_vetoes_111 rfl hl (by decide) rfl (fun ls hl => ?_)
  obtain ⟨x2, ex2⟩ : ∃ z : Int32, z = y3 + (1 : Int32) := ⟨_, rfl⟩
  replace hf := bnd_at ex2 hf
  refine lv_iinc (v := x2) (lv' := [(3, .int x2), (2, .int x1), (0, .ref (ad 48))]) hx hb dX12_vetoes_112 hl (k := 2) rfl (by rw [ex2]; rfl) (by decide) rfl (fun ls hl => ?_)
  clear ex2
  refine lv_goto (tgt := 43) hx hb dX12_vetoes_115 (by decide) ?_
  exact hk43 g x1 x2 hf H locs ls h (lv_sub hl [2, 1, 0] rfl)

set_option maxHeartbeats 4000000 in
set_option maxRecDepth 100000 in
theorem wX12_vetoes_43 (C : MCx p s m args meth c A RX12 cX12_vetoes 4 (some .int) D cs)  {r : Int32} {g' : MS}  : ∀ (n : Nat) (g : MS) (y2 : Int32) (y3 : Int32), fX12_vetoes_43 n g y2 y3 = some (r, g') → ∀ (H : Heap) (locs : List Loc) (ls : Array Slot), MH D (MW cs ad g) A s H locs → lv_has ls 4 [(0, .ref (ad 48)), (2, .int y2), (3, .int y3)] → W p l e (rM 20) s m args below meth c H locs 0 0 (MQ below (GPost D (some (.int r)) (MW cs ad g') A) args s 0 0 A) (F0 m 43 ls []) := by
  have hx := C.1
  have hb := C.2.1
  intro n
  induction n with
  | zero =>
    intro g y2 y3 hf
    exact absurd hf (by simp [fX12_vetoes_43])
  | succ n ih =>
    intro g y2 y3 hf H locs ls h hl
    rw [fX12_vetoes_43] at hf
    refine lv_iload_n hx hb dX12_vetoes_43 rfl (lv_at hl 2 rfl) ?_
    refine lv_aload_n hx hb dX12_vetoes_44 rfl (lv_at hl 0 rfl) ?_
    replace hf := bndc_some hf
    obtain ⟨x3, g4, hc, hf⟩ := hf
    refine m_callVi [] C h cv_X12_254 (qX12_size hc) rfl ⟨rfl, rfl⟩ ⟨Nat.le_of_ble_eq_true rfl, Nat.le_of_ble_eq_true rfl⟩ (m_recv C h) hl.1 rfl (Nat.le_of_ble_eq_true rfl) ⟨Nat.le_refl _, Nat.le_refl _⟩ dX12_vetoes_45 (fun H locs h => ?_)
    clear hc
    refine lv_icmp_ge (tgt := 118) hx hb dX12_vetoes_48 (by decide) (fun hq => ?_) (fun hq => ?_)
    · replace hf := if_t hq hf
      clear hq
      refine lv_iload_n hx hb dX12_vetoes_118 rfl (lv_at hl 1 rfl) ?_
      obtain ⟨e1, e2⟩ := pr_inj hf
      subst e1 e2
      exact m_iret C h dX12_vetoes_119
    · replace hf := if_f hq hf
      clear hq
      refine lv_aload_n hx hb dX12_vetoes_51 rfl (lv_at hl 0 rfl) ?_
      refine lv_iload_n hx hb dX12_vetoes_52 rfl (lv_at hl 2 rfl) ?_
      replace hf := bndc_some hf
      obtain ⟨x5, g6, hc, hf⟩ := hf
      refine m_callVi [.int y3] C h cv_X12_287 (qX12_isStuck hc) rfl ⟨rfl, rfl⟩ ⟨Nat.le_of_ble_eq_true rfl, Nat.le_of_ble_eq_true rfl⟩ (m_recv C h) hl.1 rfl (Nat.le_of_ble_eq_true rfl) ⟨Nat.le_refl _, Nat.le_refl _⟩ dX12_vetoes_53 (fun H locs h => ?_)
      clear hc
      refine lv_if_eq (tgt := 62) hx hb dX12_vetoes_56 (by decide) (fun hq => ?_) (fun hq => ?_)
      · replace hf := if_t hq hf
        clear hq
        refine lv_aload_n hx hb dX12_vetoes_62 rfl (lv_at hl 0 rfl) ?_
        refine mg_0 C h dX12_vetoes_63 ?_
        refine lv_bipush (v := (18 : Int32)) hx hb dX12_vetoes_66 (by decide) ?_
        refine lv_dup2_11 hx hb dX12_vetoes_68 rfl rfl ?_
        replace hf := chk_some hf
        obtain ⟨hq, hf⟩ := hf
        refine ml_0 C h hq dX12_vetoes_69 ?_
        clear hq
        refine lv_iconst (v := (1 : Int32)) hx hb dX12_vetoes_70 (by decide) ?_
        refine lv_iload_n hx hb dX12_vetoes_71 rfl (lv_at hl 2 rfl) ?_
        refine x_ishl hx hb dX12_vetoes_72 ?_
        refine lv_ior hx hb dX12_vetoes_73 ?_
        replace hf := chk_some hf
        obtain ⟨hq, hf⟩ := hf
        replace hf := bnd_ex hf
        obtain ⟨g7, eg7, hf⟩ := hf
        refine ms_0 C h hq dX12_vetoes_74 (fun H locs h => ?_)
        rw [← eg7] at h
        clear hq eg7
        refine lv_aload_n hx hb dX12_vetoes_75 rfl (lv_at hl 0 rfl) ?_
        refine lv_iconst (v := (1 : Int32)) hx hb dX12_vetoes_76 (by decide) ?_
        replace hf := bndv_some hf
        obtain ⟨g8, hc, hf⟩ := hf
        refine m_callVv [.int (1 : Int32)] C h cv_X12_474 (qX12_asksRows hc) rfl ⟨rfl, rfl⟩ ⟨Nat.le_of_ble_eq_true rfl, Nat.le_of_ble_eq_true rfl⟩ (m_recv C h) hl.1 rfl (Nat.le_of_ble_eq_true rfl) ⟨Nat.le_refl _, Nat.le_refl _⟩ dX12_vetoes_77 (fun H locs h => ?_)
        clear hc
        refine lv_aload_n hx hb dX12_vetoes_80 rfl (lv_at hl 0 rfl) ?_
        refine mg_0 C h dX12_vetoes_81 ?_
        refine lv_bipush (v := (18 : Int32)) hx hb dX12_vetoes_84 (by decide) ?_
        refine lv_dup2_11 hx hb dX12_vetoes_86 rfl rfl ?_
        replace hf := chk_some hf
        obtain ⟨hq, hf⟩ := hf
        refine ml_0 C h hq dX12_vetoes_87 ?_
        clear hq
        refine lv_iconst (v := (1 : Int32)) hx hb dX12_vetoes_88 (by decide) ?_
        refine lv_iload_n hx hb dX12_vetoes_89 rfl (lv_at hl 2 rfl) ?_
        refine x_ishl hx hb dX12_vetoes_90 ?_
        refine lv_iconst (v := (-1 : Int32)) hx hb dX12_vetoes_91 (by decide) ?_
        refine lv_ixor hx hb dX12_vetoes_92 ?_
        refine lv_iand hx hb dX12_vetoes_93 ?_
        replace hf := chk_some hf
        obtain ⟨hq, hf⟩ := hf
        replace hf := bnd_ex hf
        obtain ⟨g9, eg9, hf⟩ := hf
        refine ms_0 C h hq dX12_vetoes_94 (fun H locs h => ?_)
        rw [← eg9] at h
        clear hq eg9
        refine lv_iload_n hx hb dX12_vetoes_95 rfl (lv_at hl 1 rfl) ?_
        refine lv_aload_n hx hb dX12_vetoes_96 rfl (lv_at hl 0 rfl) ?_
        refine mg_35 C h dX12_vetoes_97 ?_
        refine lv_if_ne (tgt := 109) hx hb dX12_vetoes_100 (by decide) (fun hq => ?_) (fun hq => ?_)
        · replace hf := if_tn hq hf
          clear hq
          refine lv_iconst (v := (0 : Int32)) hx hb dX12_vetoes_109 (by decide) ?_
          exact wX12_vetoes_110 C ih g9 y3 y2 (0 : Int32) hf H locs ls h (lv_sub hl [0, 2] rfl)
        · replace hf := if_t hq hf
          clear hq
          refine lv_iconst (v := (1 : Int32)) hx hb dX12_vetoes_103 (by decide) ?_
          refine lv_iload_n hx hb dX12_vetoes_104 rfl (lv_at hl 2 rfl) ?_
          refine x_ishl hx hb dX12_vetoes_105 ?_
          refine lv_goto (tgt := 110) hx hb dX12_vetoes_106 (by decide) ?_
          exact wX12_vetoes_110 C ih g9 y3 y2 (jshl (1 : Int32) y3) hf H locs ls h (lv_sub hl [0, 2] rfl)
      · replace hf := if_f hq hf
        clear hq
        refine lv_goto (tgt := 112) hx hb dX12_vetoes_59 (by decide) ?_
        obtain ⟨x10, ex10⟩ : ∃ z : Int32, z = y3 + (1 : Int32) := ⟨_, rfl⟩
        replace hf := bnd_at ex10 hf
        refine lv_iinc (v := x10) (lv' := [(3, .int x10), (0, .ref (ad 48)), (2, .int y2)]) hx hb dX12_vetoes_112 hl (k := 2) rfl (by rw [ex10]; rfl) (by decide) rfl (fun ls hl => ?_)
        clear ex10
        refine lv_goto (tgt := 43) hx hb dX12_vetoes_115 (by decide) ?_
        exact ih g6 y2 x10 hf H locs ls h (lv_sub hl [1, 2, 0] rfl)

set_option maxHeartbeats 4000000 in
set_option maxRecDepth 100000 in
theorem qX12_vetoes {l : Launch} {D : va_G} {cs : Nat → ClassId} {ad : Nat → Nat} {r : Int32} {g' : MS} {g : MS}  {a0 : Int32} (hf : fX12_vetoes g a0 = some (r, g')) : GCon l D cs yX12_vetoes cX12_vetoes 4 (some .int) (rM 20) 0 0 [.ref (ad 48), .int a0] (MW cs ad g) (some (.int r)) (MW cs ad g') := by
  refine GCon.of (by decide) (Nat.le_of_ble_eq_true rfl) ?_
  intro p e s m args below meth c A ls H locs C h hl
  have hx := C.1
  have hb := C.2.1
  have C : MCx p s m args meth c A RX12 cX12_vetoes 4 (some .int) D cs := C
  have hl : lv_has ls 4 [(0, .ref (ad 48)), (1, .int a0)] := hl
  unfold fX12_vetoes at hf
  refine lv_aload_n hx hb dX12_vetoes_0 rfl (lv_at hl 0 rfl) ?_
  refine lv_iconst (v := (0 : Int32)) hx hb dX12_vetoes_1 (by decide) ?_
  replace hf := bnd_ex hf
  obtain ⟨g11, eg11, hf⟩ := hf
  refine mp_4 C h dX12_vetoes_2 (fun H locs h => ?_)
  rw [← eg11] at h
  clear eg11
  refine lv_aload_n hx hb dX12_vetoes_5 rfl (lv_at hl 0 rfl) ?_
  refine lv_iload_n hx hb dX12_vetoes_6 rfl (lv_at hl 1 rfl) ?_
  refine lv_i2l hx hb dX12_vetoes_7 rfl ?_
  replace hf := bndc_some hf
  obtain ⟨x12, g13, hc, hf⟩ := hf
  refine m_callVi [.long a0.toInt64] C h cv_X12_319 (qX12_isMember hc) rfl ⟨rfl, rfl⟩ ⟨Nat.le_of_ble_eq_true rfl, Nat.le_of_ble_eq_true rfl⟩ (m_recv C h) hl.1 rfl (Nat.le_of_ble_eq_true rfl) ⟨Nat.le_refl _, Nat.le_refl _⟩ dX12_vetoes_8 (fun H locs h => ?_)
  clear hc
  refine lv_if_ne (tgt := 20) hx hb dX12_vetoes_11 (by decide) (fun hq => ?_) (fun hq => ?_)
  · replace hf := if_tn hq hf
    clear hq
    refine lv_aload_n hx hb dX12_vetoes_20 rfl (lv_at hl 0 rfl) ?_
    refine lv_iload_n hx hb dX12_vetoes_21 rfl (lv_at hl 1 rfl) ?_
    replace hf := bnd_ex hf
    obtain ⟨g14, eg14, hf⟩ := hf
    refine mp_34 C h dX12_vetoes_22 (fun H locs h => ?_)
    rw [← eg14] at h
    clear eg14
    refine lv_aload_n hx hb dX12_vetoes_25 rfl (lv_at hl 0 rfl) ?_
    refine lv_iconst (v := (1 : Int32)) hx hb dX12_vetoes_26 (by decide) ?_
    replace hf := bndv_some hf
    obtain ⟨g15, hc, hf⟩ := hf
    refine m_callVv [.int (1 : Int32)] C h cv_X12_474 (qX12_asksRows hc) rfl ⟨rfl, rfl⟩ ⟨Nat.le_of_ble_eq_true rfl, Nat.le_of_ble_eq_true rfl⟩ (m_recv C h) hl.1 rfl (Nat.le_of_ble_eq_true rfl) ⟨Nat.le_refl _, Nat.le_refl _⟩ dX12_vetoes_27 (fun H locs h => ?_)
    clear hc
    refine lv_aload_n hx hb dX12_vetoes_30 rfl (lv_at hl 0 rfl) ?_
    refine mg_35 C h dX12_vetoes_31 ?_
    refine lv_if_ne (tgt := 39) hx hb dX12_vetoes_34 (by decide) (fun hq => ?_) (fun hq => ?_)
    · replace hf := if_tn hq hf
      clear hq
      refine lv_iconst (v := (0 : Int32)) hx hb dX12_vetoes_39 (by decide) ?_
      refine lv_istore_n (lv' := [(2, .int (0 : Int32)), (0, .ref (ad 48)), (1, .int a0)]) hx hb dX12_vetoes_40 rfl hl (by decide) rfl (fun ls hl => ?_)
      refine lv_iconst (v := (0 : Int32)) hx hb dX12_vetoes_41 (by decide) ?_
      refine lv_istore_n (lv' := [(3, .int (0 : Int32)), (2, .int (0 : Int32)), (0, .ref (ad 48)), (1, .int a0)]) hx hb dX12_vetoes_42 rfl hl (by decide) rfl (fun ls hl => ?_)
      exact wX12_vetoes_43 C fuel g15 (0 : Int32) (0 : Int32) hf H locs ls h (lv_sub hl [2, 1, 0] rfl)
    · replace hf := if_t hq hf
      clear hq
      refine lv_iconst (v := (0 : Int32)) hx hb dX12_vetoes_37 (by decide) ?_
      obtain ⟨e1, e2⟩ := pr_inj hf
      subst e1 e2
      exact m_iret C h dX12_vetoes_38
  · replace hf := if_t hq hf
    clear hq
    refine lv_aload_n hx hb dX12_vetoes_14 rfl (lv_at hl 0 rfl) ?_
    refine lv_iconst (v := (1 : Int32)) hx hb dX12_vetoes_15 (by decide) ?_
    replace hf := bndc_some hf
    obtain ⟨x16, g17, hc, hf⟩ := hf
    refine m_callVi [.int (1 : Int32)] C h cv_X12_239 (qX12_fails hc) rfl ⟨rfl, rfl⟩ ⟨Nat.le_of_ble_eq_true rfl, Nat.le_of_ble_eq_true rfl⟩ (m_recv C h) hl.1 rfl (Nat.le_of_ble_eq_true rfl) ⟨Nat.le_refl _, Nat.le_refl _⟩ dX12_vetoes_16 (fun H locs h => ?_)
    clear hc
    obtain ⟨e1, e2⟩ := pr_inj hf
    subst e1 e2
    exact m_iret C h dX12_vetoes_19

set_option maxHeartbeats 4000000 in
set_option maxRecDepth 100000 in
theorem wX12_knees_23 (C : MCx p s m args meth c A RX12 cX12_knees 2 (some .int) D cs)  {r : Int32} {g' : MS}  : ∀ (g : MS) (y1 : Int32), fX12_knees_23 g y1 = some (r, g') → ∀ (H : Heap) (locs : List Loc) (ls : Array Slot), MH D (MW cs ad g) A s H locs → lv_has ls 2 [(0, .ref (ad 48)), (1, .int y1)] → W p l e (rM 20) s m args below meth c H locs 0 0 (MQ below (GPost D (some (.int r)) (MW cs ad g') A) args s 0 0 A) (F0 m 23 ls []) := by
  have hx := C.1
  have hb := C.2.1
  intro g y1 hf H locs ls h hl
  unfold fX12_knees_23 at hf
  refine lv_aload_n hx hb dX12_knees_23 rfl (lv_at hl 0 rfl) ?_
  refine lv_iconst (v := (2 : Int32)) hx hb dX12_knees_24 (by decide) ?_
  replace hf := bndv_some hf
  obtain ⟨g1, hc, hf⟩ := hf
  refine m_callVv [.int (2 : Int32)] C h cv_X12_474 (qX12_asksRows hc) rfl ⟨rfl, rfl⟩ ⟨Nat.le_of_ble_eq_true rfl, Nat.le_of_ble_eq_true rfl⟩ (m_recv C h) hl.1 rfl (Nat.le_of_ble_eq_true rfl) ⟨Nat.le_refl _, Nat.le_refl _⟩ dX12_knees_25 (fun H locs h => ?_)
  clear hc
  refine lv_iload_n hx hb dX12_knees_28 rfl (lv_at hl 1 rfl) ?_
  refine lv_if_ne (tgt := 39) hx hb dX12_knees_29 (by decide) (fun hq => ?_) (fun hq => ?_)
  · replace hf := if_tn hq hf
    clear hq
    refine lv_iload_n hx hb dX12_knees_39 rfl (lv_at hl 1 rfl) ?_
    refine lv_iconst (v := (1 : Int32)) hx hb dX12_knees_40 (by decide) ?_
    refine lv_icmp_ne (tgt := 51) hx hb dX12_knees_41 (by decide) (fun hq => ?_) (fun hq => ?_)
    · replace hf := if_tn hq hf
      clear hq
      refine lv_aload_n hx hb dX12_knees_51 rfl (lv_at hl 0 rfl) ?_
      refine mg_29 C h dX12_knees_52 ?_
      refine lv_iload_n hx hb dX12_knees_55 rfl (lv_at hl 1 rfl) ?_
      refine lv_bipush (v := (10 : Int32)) hx hb dX12_knees_56 (by decide) ?_
      refine lv_isub hx hb dX12_knees_58 ?_
      replace hf := chk_some hf
      obtain ⟨hq, hf⟩ := hf
      refine ml_29 C h hq dX12_knees_59 ?_
      clear hq
      obtain ⟨e1, e2⟩ := pr_inj hf
      subst e1 e2
      exact m_iret C h dX12_knees_60
    · replace hf := if_t hq hf
      clear hq
      refine lv_aload_n hx hb dX12_knees_44 rfl (lv_at hl 0 rfl) ?_
      refine mg_36 C h dX12_knees_45 ?_
      refine lv_goto (tgt := 60) hx hb dX12_knees_48 (by decide) ?_
      obtain ⟨e1, e2⟩ := pr_inj hf
      subst e1 e2
      exact m_iret C h dX12_knees_60
  · replace hf := if_t hq hf
    clear hq
    refine lv_aload_n hx hb dX12_knees_32 rfl (lv_at hl 0 rfl) ?_
    refine mg_37 C h dX12_knees_33 ?_
    refine lv_goto (tgt := 60) hx hb dX12_knees_36 (by decide) ?_
    obtain ⟨e1, e2⟩ := pr_inj hf
    subst e1 e2
    exact m_iret C h dX12_knees_60

set_option maxHeartbeats 4000000 in
set_option maxRecDepth 100000 in
theorem qX12_knees {l : Launch} {D : va_G} {cs : Nat → ClassId} {ad : Nat → Nat} {r : Int32} {g' : MS} {g : MS}  {a0 : Int32} (hf : fX12_knees g a0 = some (r, g')) : GCon l D cs yX12_knees cX12_knees 2 (some .int) (rM 20) 0 0 [.ref (ad 48), .int a0] (MW cs ad g) (some (.int r)) (MW cs ad g') := by
  refine GCon.of (by decide) (Nat.le_of_ble_eq_true rfl) ?_
  intro p e s m args below meth c A ls H locs C h hl
  have hx := C.1
  have hb := C.2.1
  have C : MCx p s m args meth c A RX12 cX12_knees 2 (some .int) D cs := C
  have hl : lv_has ls 2 [(0, .ref (ad 48)), (1, .int a0)] := hl
  unfold fX12_knees at hf
  refine lv_aload_n hx hb dX12_knees_0 rfl (lv_at hl 0 rfl) ?_
  refine lv_iconst (v := (0 : Int32)) hx hb dX12_knees_1 (by decide) ?_
  replace hf := bnd_ex hf
  obtain ⟨g2, eg2, hf⟩ := hf
  refine mp_4 C h dX12_knees_2 (fun H locs h => ?_)
  rw [← eg2] at h
  clear eg2
  refine lv_iload_n hx hb dX12_knees_5 rfl (lv_at hl 1 rfl) ?_
  refine lv_iconst (v := (1 : Int32)) hx hb dX12_knees_6 (by decide) ?_
  refine lv_icmp_eq (tgt := 23) hx hb dX12_knees_7 (by decide) (fun hq => ?_) (fun hq => ?_)
  · replace hf := if_t hq hf
    clear hq
    exact wX12_knees_23 C g2 a0 hf H locs ls h (lv_sub hl [0, 1] rfl)
  · replace hf := if_f hq hf
    clear hq
    refine lv_iload_n hx hb dX12_knees_10 rfl (lv_at hl 1 rfl) ?_
    replace hf := bndv_some hf
    obtain ⟨x3, hc, hf⟩ := hf
    refine m_callSi [.int a0] C h cs_X12_471 (qX12_isWhat hc) rfl ⟨rfl, rfl⟩ ⟨Nat.le_of_ble_eq_true rfl, Nat.le_of_ble_eq_true rfl⟩ hl.1 rfl (Nat.le_of_ble_eq_true rfl) ⟨Nat.le_refl _, Nat.le_refl _⟩ dX12_knees_11 (fun H locs h => ?_)
    clear hc
    refine lv_if_ne (tgt := 23) hx hb dX12_knees_14 (by decide) (fun hq => ?_) (fun hq => ?_)
    · replace hf := if_tn hq hf
      clear hq
      exact wX12_knees_23 C g2 a0 hf H locs ls h (lv_sub hl [0, 1] rfl)
    · replace hf := if_t hq hf
      clear hq
      refine lv_aload_n hx hb dX12_knees_17 rfl (lv_at hl 0 rfl) ?_
      refine lv_iconst (v := (1 : Int32)) hx hb dX12_knees_18 (by decide) ?_
      replace hf := bndc_some hf
      obtain ⟨x4, g5, hc, hf⟩ := hf
      refine m_callVi [.int (1 : Int32)] C h cv_X12_239 (qX12_fails hc) rfl ⟨rfl, rfl⟩ ⟨Nat.le_of_ble_eq_true rfl, Nat.le_of_ble_eq_true rfl⟩ (m_recv C h) hl.1 rfl (Nat.le_of_ble_eq_true rfl) ⟨Nat.le_refl _, Nat.le_refl _⟩ dX12_knees_19 (fun H locs h => ?_)
      clear hc
      obtain ⟨e1, e2⟩ := pr_inj hf
      subst e1 e2
      exact m_iret C h dX12_knees_22

set_option maxHeartbeats 4000000 in
set_option maxRecDepth 100000 in
theorem wX12_laysRound_27 (C : MCx p s m args meth c A RX12 cX12_laysRound 2 none D cs)  {g' : MS}  : ∀ (n : Nat) (g : MS) (y1 : Int32), fX12_laysRound_27 n g y1 = some g' → ∀ (H : Heap) (locs : List Loc) (ls : Array Slot), MH D (MW cs ad g) A s H locs → lv_has ls 2 [(0, .ref (ad 48)), (1, .int y1)] → W p l e (rM 6) s m args below meth c H locs 0 0 (MQ below (GPost D none (MW cs ad g') A) args s 0 0 A) (F0 m 27 ls []) := by
  have hx := C.1
  have hb := C.2.1
  intro n
  induction n with
  | zero =>
    intro g y1 hf
    exact absurd hf (by simp [fX12_laysRound_27])
  | succ n ih =>
    intro g y1 hf H locs ls h hl
    rw [fX12_laysRound_27] at hf
    refine lv_aload_n hx hb dX12_laysRound_27 rfl (lv_at hl 0 rfl) ?_
    refine mg_39 C h dX12_laysRound_28 ?_
    refine lv_aload_n hx hb dX12_laysRound_31 rfl (lv_at hl 0 rfl) ?_
    replace hf := bndc_some hf
    obtain ⟨x1, g2, hc, hf⟩ := hf
    refine m_callVi [] C h cv_X12_460 (qX12_lookCode hc) rfl ⟨rfl, rfl⟩ ⟨Nat.le_of_ble_eq_true rfl, Nat.le_of_ble_eq_true rfl⟩ (m_recv C h) hl.1 rfl (Nat.le_of_ble_eq_true rfl) ⟨Nat.le_refl _, Nat.le_refl _⟩ dX12_laysRound_32 (fun H locs h => ?_)
    clear hc
    replace hf := chk_some hf
    obtain ⟨hq, hf⟩ := hf
    refine ml_39 C h hq dX12_laysRound_35 ?_
    clear hq
    refine lv_iconst (v := (-1 : Int32)) hx hb dX12_laysRound_36 (by decide) ?_
    refine lv_icmp_ne (tgt := 60) hx hb dX12_laysRound_37 (by decide) (fun hq => ?_) (fun hq => ?_)
    · replace hf := if_tn hq hf
      clear hq
      refine lv_aload_n hx hb dX12_laysRound_60 rfl (lv_at hl 0 rfl) ?_
      refine lv_aload_n hx hb dX12_laysRound_61 rfl (lv_at hl 0 rfl) ?_
      refine mg_39 C h dX12_laysRound_62 ?_
      refine lv_aload_n hx hb dX12_laysRound_65 rfl (lv_at hl 0 rfl) ?_
      replace hf := bndc_some hf
      obtain ⟨x3, g4, hc, hf⟩ := hf
      refine m_callVi [] C h cv_X12_460 (qX12_lookCode hc) rfl ⟨rfl, rfl⟩ ⟨Nat.le_of_ble_eq_true rfl, Nat.le_of_ble_eq_true rfl⟩ (m_recv C h) hl.1 rfl (Nat.le_of_ble_eq_true rfl) ⟨Nat.le_refl _, Nat.le_refl _⟩ dX12_laysRound_66 (fun H locs h => ?_)
      clear hc
      replace hf := chk_some hf
      obtain ⟨hq, hf⟩ := hf
      refine ml_39 C h hq dX12_laysRound_69 ?_
      clear hq
      replace hf := bnd_ex hf
      obtain ⟨g5, eg5, hf⟩ := hf
      refine mp_40 C h dX12_laysRound_70 (fun H locs h => ?_)
      rw [← eg5] at h
      clear eg5
      refine lv_aload_n hx hb dX12_laysRound_73 rfl (lv_at hl 0 rfl) ?_
      refine lv_iload_n hx hb dX12_laysRound_74 rfl (lv_at hl 1 rfl) ?_
      refine lv_aload_n hx hb dX12_laysRound_75 rfl (lv_at hl 0 rfl) ?_
      refine mg_40 C h dX12_laysRound_76 ?_
      refine lv_isub hx hb dX12_laysRound_79 ?_
      replace hf := bnd_ex hf
      obtain ⟨g6, eg6, hf⟩ := hf
      refine mp_41 C h dX12_laysRound_80 (fun H locs h => ?_)
      rw [← eg6] at h
      clear eg6
      have e1 := Option.some.inj hf
      subst e1
      exact m_vret C h dX12_laysRound_83
    · replace hf := if_t hq hf
      clear hq
      refine lv_aload_n hx hb dX12_laysRound_40 rfl (lv_at hl 0 rfl) ?_
      refine mg_39 C h dX12_laysRound_41 ?_
      refine lv_aload_n hx hb dX12_laysRound_44 rfl (lv_at hl 0 rfl) ?_
      replace hf := bndc_some hf
      obtain ⟨x7, g8, hc, hf⟩ := hf
      refine m_callVi [] C h cv_X12_460 (qX12_lookCode hc) rfl ⟨rfl, rfl⟩ ⟨Nat.le_of_ble_eq_true rfl, Nat.le_of_ble_eq_true rfl⟩ (m_recv C h) hl.1 rfl (Nat.le_of_ble_eq_true rfl) ⟨Nat.le_refl _, Nat.le_refl _⟩ dX12_laysRound_45 (fun H locs h => ?_)
      clear hc
      refine lv_iload_n hx hb dX12_laysRound_48 rfl (lv_at hl 1 rfl) ?_
      replace hf := chk_some hf
      obtain ⟨hq, hf⟩ := hf
      replace hf := bnd_ex hf
      obtain ⟨g9, eg9, hf⟩ := hf
      refine ms_39 C h hq dX12_laysRound_49 (fun H locs h => ?_)
      rw [← eg9] at h
      clear hq eg9
      refine lv_aload_n hx hb dX12_laysRound_50 rfl (lv_at hl 0 rfl) ?_
      replace hf := bndv_some hf
      obtain ⟨g10, hc, hf⟩ := hf
      refine m_callVv [] C h cv_X12_334 (qX12_minute hc) rfl ⟨rfl, rfl⟩ ⟨Nat.le_of_ble_eq_true rfl, Nat.le_of_ble_eq_true rfl⟩ (m_recv C h) hl.1 rfl (Nat.le_of_ble_eq_true rfl) ⟨Nat.le_refl _, Nat.le_refl _⟩ dX12_laysRound_51 (fun H locs h => ?_)
      clear hc
      obtain ⟨x11, ex11⟩ : ∃ z : Int32, z = y1 + (1 : Int32) := ⟨_, rfl⟩
      replace hf := bnd_at ex11 hf
      refine lv_iinc (v := x11) (lv' := [(1, .int x11), (0, .ref (ad 48))]) hx hb dX12_laysRound_54 hl (k := 1) rfl (by rw [ex11]; rfl) (by decide) rfl (fun ls hl => ?_)
      clear ex11
      refine lv_goto (tgt := 27) hx hb dX12_laysRound_57 (by decide) ?_
      exact ih g10 x11 hf H locs ls h (lv_sub hl [1, 0] rfl)

set_option maxHeartbeats 4000000 in
set_option maxRecDepth 100000 in
theorem wX12_laysRound_2 (C : MCx p s m args meth c A RX12 cX12_laysRound 2 none D cs)  {g' : MS}  : ∀ (n : Nat) (g : MS) (y1 : Int32), fX12_laysRound_2 n g y1 = some g' → ∀ (H : Heap) (locs : List Loc) (ls : Array Slot), MH D (MW cs ad g) A s H locs → lv_has ls 2 [(0, .ref (ad 48)), (1, .int y1)] → W p l e (rM 6) s m args below meth c H locs 0 0 (MQ below (GPost D none (MW cs ad g') A) args s 0 0 A) (F0 m 2 ls []) := by
  have hx := C.1
  have hb := C.2.1
  intro n
  induction n with
  | zero =>
    intro g y1 hf
    exact absurd hf (by simp [fX12_laysRound_2])
  | succ n ih =>
    intro g y1 hf H locs ls h hl
    rw [fX12_laysRound_2] at hf
    refine lv_iload_n hx hb dX12_laysRound_2 rfl (lv_at hl 1 rfl) ?_
    refine lv_ldc hx hb C.2.2.2.1 (C.2.2.2.2.1 _ tb_7_20) dX12_laysRound_3 ?_
    refine lv_icmp_ge (tgt := 21) hx hb dX12_laysRound_5 (by decide) (fun hq => ?_) (fun hq => ?_)
    · replace hf := if_t hq hf
      clear hq
      refine lv_aload_n hx hb dX12_laysRound_21 rfl (lv_at hl 0 rfl) ?_
      replace hf := bndv_some hf
      obtain ⟨g12, hc, hf⟩ := hf
      refine m_callVv [] C h cv_X12_310 (qX12_aimsNow hc) rfl ⟨rfl, rfl⟩ ⟨Nat.le_of_ble_eq_true rfl, Nat.le_of_ble_eq_true rfl⟩ (m_recv C h) hl.1 rfl (Nat.le_of_ble_eq_true rfl) ⟨Nat.le_refl _, Nat.le_refl _⟩ dX12_laysRound_22 (fun H locs h => ?_)
      clear hc
      refine lv_iconst (v := (0 : Int32)) hx hb dX12_laysRound_25 (by decide) ?_
      refine lv_istore_n (lv' := [(1, .int (0 : Int32)), (0, .ref (ad 48))]) hx hb dX12_laysRound_26 rfl hl (by decide) rfl (fun ls hl => ?_)
      exact wX12_laysRound_27 C fuel g12 (0 : Int32) hf H locs ls h (lv_sub hl [1, 0] rfl)
    · replace hf := if_f hq hf
      clear hq
      refine lv_aload_n hx hb dX12_laysRound_8 rfl (lv_at hl 0 rfl) ?_
      refine mg_39 C h dX12_laysRound_9 ?_
      refine lv_iload_n hx hb dX12_laysRound_12 rfl (lv_at hl 1 rfl) ?_
      refine lv_iconst (v := (-1 : Int32)) hx hb dX12_laysRound_13 (by decide) ?_
      replace hf := chk_some hf
      obtain ⟨hq, hf⟩ := hf
      replace hf := bnd_ex hf
      obtain ⟨g13, eg13, hf⟩ := hf
      refine ms_39 C h hq dX12_laysRound_14 (fun H locs h => ?_)
      rw [← eg13] at h
      clear hq eg13
      obtain ⟨x14, ex14⟩ : ∃ z : Int32, z = y1 + (1 : Int32) := ⟨_, rfl⟩
      replace hf := bnd_at ex14 hf
      refine lv_iinc (v := x14) (lv' := [(1, .int x14), (0, .ref (ad 48))]) hx hb dX12_laysRound_15 hl (k := 1) rfl (by rw [ex14]; rfl) (by decide) rfl (fun ls hl => ?_)
      clear ex14
      refine lv_goto (tgt := 2) hx hb dX12_laysRound_18 (by decide) ?_
      exact ih g13 x14 hf H locs ls h (lv_sub hl [1, 0] rfl)

set_option maxHeartbeats 4000000 in
set_option maxRecDepth 100000 in
theorem qX12_laysRound {l : Launch} {D : va_G} {cs : Nat → ClassId} {ad : Nat → Nat} {g' : MS} {g : MS}  (hf : fX12_laysRound g = some g') : GCon l D cs yX12_laysRound cX12_laysRound 2 none (rM 6) 0 0 [.ref (ad 48)] (MW cs ad g) none (MW cs ad g') := by
  refine GCon.of (by decide) (Nat.le_of_ble_eq_true rfl) ?_
  intro p e s m args below meth c A ls H locs C h hl
  have hx := C.1
  have hb := C.2.1
  have C : MCx p s m args meth c A RX12 cX12_laysRound 2 none D cs := C
  have hl : lv_has ls 2 [(0, .ref (ad 48))] := hl
  unfold fX12_laysRound at hf
  refine lv_iconst (v := (0 : Int32)) hx hb dX12_laysRound_0 (by decide) ?_
  refine lv_istore_n (lv' := [(1, .int (0 : Int32)), (0, .ref (ad 48))]) hx hb dX12_laysRound_1 rfl hl (by decide) rfl (fun ls hl => ?_)
  exact wX12_laysRound_2 C fuel g (0 : Int32) hf H locs ls h (lv_sub hl [1, 0] rfl)

set_option maxHeartbeats 4000000 in
set_option maxRecDepth 100000 in
theorem wX12_aimsIn_39 (C : MCx p s m args meth c A RX12 cX12_aimsIn 4 none D cs)  {g' : MS}  : ∀ (n : Nat) (g : MS) (y2 : Int32) (y3 : Int32), fX12_aimsIn_39 n g y2 y3 = some g' → ∀ (H : Heap) (locs : List Loc) (ls : Array Slot), MH D (MW cs ad g) A s H locs → lv_has ls 4 [(0, .ref (ad 48)), (2, .int y2), (3, .int y3)] → W p l e (rM 7) s m args below meth c H locs 0 0 (MQ below (GPost D none (MW cs ad g') A) args s 0 0 A) (F0 m 39 ls []) := by
  have hx := C.1
  have hb := C.2.1
  intro n
  induction n with
  | zero =>
    intro g y2 y3 hf
    exact absurd hf (by simp [fX12_aimsIn_39])
  | succ n ih =>
    intro g y2 y3 hf H locs ls h hl
    rw [fX12_aimsIn_39] at hf
    refine lv_iload_n hx hb dX12_aimsIn_39 rfl (lv_at hl 2 rfl) ?_
    refine lv_iload_n hx hb dX12_aimsIn_40 rfl (lv_at hl 1 rfl) ?_
    refine lv_icmp_ge (tgt := 54) hx hb dX12_aimsIn_41 (by decide) (fun hq => ?_) (fun hq => ?_)
    · replace hf := if_t hq hf
      clear hq
      have e1 := Option.some.inj hf
      subst e1
      exact m_vret C h dX12_aimsIn_54
    · replace hf := if_f hq hf
      clear hq
      refine lv_aload_n hx hb dX12_aimsIn_44 rfl (lv_at hl 0 rfl) ?_
      replace hf := bndv_some hf
      obtain ⟨g1, hc, hf⟩ := hf
      refine m_callVv [] C h cv_X12_334 (qX12_minute hc) rfl ⟨rfl, rfl⟩ ⟨Nat.le_of_ble_eq_true rfl, Nat.le_of_ble_eq_true rfl⟩ (m_recv C h) hl.1 rfl (Nat.le_of_ble_eq_true rfl) ⟨Nat.le_refl _, Nat.le_refl _⟩ dX12_aimsIn_45 (fun H locs h => ?_)
      clear hc
      obtain ⟨x2, ex2⟩ : ∃ z : Int32, z = y3 + (1 : Int32) := ⟨_, rfl⟩
      replace hf := bnd_at ex2 hf
      refine lv_iinc (v := x2) (lv' := [(3, .int x2), (0, .ref (ad 48)), (2, .int y2)]) hx hb dX12_aimsIn_48 hl (k := 2) rfl (by rw [ex2]; rfl) (by decide) rfl (fun ls hl => ?_)
      clear ex2
      refine lv_goto (tgt := 39) hx hb dX12_aimsIn_51 (by decide) ?_
      exact ih g1 y2 x2 hf H locs ls h (lv_sub hl [1, 2, 0] rfl)

set_option maxHeartbeats 4000000 in
set_option maxRecDepth 100000 in
theorem wX12_aimsIn_32 (C : MCx p s m args meth c A RX12 cX12_aimsIn 4 none D cs)  {g' : MS}  : ∀ (g : MS) (t0 : Int32), fX12_aimsIn_32 g t0 = some g' → ∀ (H : Heap) (locs : List Loc) (ls : Array Slot), MH D (MW cs ad g) A s H locs → lv_has ls 4 [(0, .ref (ad 48))] → W p l e (rM 7) s m args below meth c H locs 0 0 (MQ below (GPost D none (MW cs ad g') A) args s 0 0 A) (F0 m 32 ls [.int t0]) := by
  have hx := C.1
  have hb := C.2.1
  intro g t0 hf H locs ls h hl
  unfold fX12_aimsIn_32 at hf
  refine lv_istore_n (lv' := [(2, .int t0), (0, .ref (ad 48))]) hx hb dX12_aimsIn_32 rfl hl (by decide) rfl (fun ls hl => ?_)
  refine lv_aload_n hx hb dX12_aimsIn_33 rfl (lv_at hl 1 rfl) ?_
  replace hf := bndv_some hf
  obtain ⟨g3, hc, hf⟩ := hf
  refine m_callVv [] C h cv_X12_310 (qX12_aimsNow hc) rfl ⟨rfl, rfl⟩ ⟨Nat.le_of_ble_eq_true rfl, Nat.le_of_ble_eq_true rfl⟩ (m_recv C h) hl.1 rfl (Nat.le_of_ble_eq_true rfl) ⟨Nat.le_refl _, Nat.le_refl _⟩ dX12_aimsIn_34 (fun H locs h => ?_)
  clear hc
  refine lv_iconst (v := (0 : Int32)) hx hb dX12_aimsIn_37 (by decide) ?_
  refine lv_istore_n (lv' := [(3, .int (0 : Int32)), (2, .int t0), (0, .ref (ad 48))]) hx hb dX12_aimsIn_38 rfl hl (by decide) rfl (fun ls hl => ?_)
  exact wX12_aimsIn_39 C fuel g3 t0 (0 : Int32) hf H locs ls h (lv_sub hl [2, 1, 0] rfl)

set_option maxHeartbeats 4000000 in
set_option maxRecDepth 100000 in
theorem qX12_aimsIn {l : Launch} {D : va_G} {cs : Nat → ClassId} {ad : Nat → Nat} {g' : MS} {g : MS}  {a0 : Int32} (hf : fX12_aimsIn g a0 = some g') : GCon l D cs yX12_aimsIn cX12_aimsIn 4 none (rM 7) 0 0 [.ref (ad 48), .int a0] (MW cs ad g) none (MW cs ad g') := by
  refine GCon.of (by decide) (Nat.le_of_ble_eq_true rfl) ?_
  intro p e s m args below meth c A ls H locs C h hl
  have hx := C.1
  have hb := C.2.1
  have C : MCx p s m args meth c A RX12 cX12_aimsIn 4 none D cs := C
  have hl : lv_has ls 4 [(0, .ref (ad 48)), (1, .int a0)] := hl
  unfold fX12_aimsIn at hf
  refine lv_aload_n hx hb dX12_aimsIn_0 rfl (lv_at hl 0 rfl) ?_
  replace hf := bndv_some hf
  obtain ⟨g4, hc, hf⟩ := hf
  refine m_callVv [] C h cv_X12_492 (qX12_laysRound hc) rfl ⟨rfl, rfl⟩ ⟨Nat.le_of_ble_eq_true rfl, Nat.le_of_ble_eq_true rfl⟩ (m_recv C h) hl.1 rfl (Nat.le_of_ble_eq_true rfl) ⟨Nat.le_refl _, Nat.le_refl _⟩ dX12_aimsIn_1 (fun H locs h => ?_)
  clear hc
  refine lv_iload_n hx hb dX12_aimsIn_4 rfl (lv_at hl 1 rfl) ?_
  refine lv_aload_n hx hb dX12_aimsIn_5 rfl (lv_at hl 0 rfl) ?_
  refine mg_40 C h dX12_aimsIn_6 ?_
  refine lv_icmp_ge (tgt := 16) hx hb dX12_aimsIn_9 (by decide) (fun hq => ?_) (fun hq => ?_)
  · replace hf := if_t hq hf
    clear hq
    refine lv_aload_n hx hb dX12_aimsIn_16 rfl (lv_at hl 0 rfl) ?_
    refine mg_40 C h dX12_aimsIn_17 ?_
    refine lv_iload_n hx hb dX12_aimsIn_20 rfl (lv_at hl 1 rfl) ?_
    refine lv_aload_n hx hb dX12_aimsIn_21 rfl (lv_at hl 0 rfl) ?_
    refine mg_40 C h dX12_aimsIn_22 ?_
    refine lv_isub hx hb dX12_aimsIn_25 ?_
    refine lv_aload_n hx hb dX12_aimsIn_26 rfl (lv_at hl 0 rfl) ?_
    refine mg_41 C h dX12_aimsIn_27 ?_
    replace hf := chk_some hf
    obtain ⟨hq, hf⟩ := hf
    refine x_irem hx hb dX12_aimsIn_30 (nz_ne hq) ?_
    clear hq
    refine lv_iadd hx hb dX12_aimsIn_31 ?_
    exact wX12_aimsIn_32 C g4 ((g4.1 40) + (jrem (a0 - (g4.1 40)) (g4.1 41))) hf H locs ls h (lv_sub hl [0] rfl)
  · replace hf := if_f hq hf
    clear hq
    refine lv_iload_n hx hb dX12_aimsIn_12 rfl (lv_at hl 1 rfl) ?_
    refine lv_goto (tgt := 32) hx hb dX12_aimsIn_13 (by decide) ?_
    exact wX12_aimsIn_32 C g4 a0 hf H locs ls h (lv_sub hl [0] rfl)

set_option maxHeartbeats 4000000 in
set_option maxRecDepth 100000 in
theorem qX12_settles {l : Launch} {D : va_G} {cs : Nat → ClassId} {ad : Nat → Nat} {r : Int32} {g' : MS} {g : MS}  {a0 : Int32} (hf : fX12_settles g a0 = some (r, g')) : GCon l D cs yX12_settles cX12_settles 2 (some .int) (rM 7) 0 0 [.ref (ad 48), .int a0] (MW cs ad g) (some (.int r)) (MW cs ad g') := by
  refine GCon.of (by decide) (Nat.le_of_ble_eq_true rfl) ?_
  intro p e s m args below meth c A ls H locs C h hl
  have hx := C.1
  have hb := C.2.1
  have C : MCx p s m args meth c A RX12 cX12_settles 2 (some .int) D cs := C
  have hl : lv_has ls 2 [(0, .ref (ad 48)), (1, .int a0)] := hl
  unfold fX12_settles at hf
  refine lv_aload_n hx hb dX12_settles_0 rfl (lv_at hl 0 rfl) ?_
  refine lv_iconst (v := (0 : Int32)) hx hb dX12_settles_1 (by decide) ?_
  replace hf := bnd_ex hf
  obtain ⟨g1, eg1, hf⟩ := hf
  refine mp_4 C h dX12_settles_2 (fun H locs h => ?_)
  rw [← eg1] at h
  clear eg1
  refine lv_iload_n hx hb dX12_settles_5 rfl (lv_at hl 1 rfl) ?_
  refine lv_i2l hx hb dX12_settles_6 rfl ?_
  refine lv_lconst (v := (0 : Int64)) hx hb dX12_settles_7 rfl ?_
  refine lv_lconst (v := (1 : Int64)) hx hb dX12_settles_8 rfl ?_
  replace hf := bndv_some hf
  obtain ⟨x2, hc, hf⟩ := hf
  refine m_callSi [.long a0.toInt64, .long (0 : Int64), .long (1 : Int64)] C h cs_X12_147 (qX12_within hc) rfl ⟨rfl, rfl⟩ ⟨Nat.le_of_ble_eq_true rfl, Nat.le_of_ble_eq_true rfl⟩ hl.1 rfl (Nat.le_of_ble_eq_true rfl) ⟨Nat.le_refl _, Nat.le_refl _⟩ dX12_settles_9 (fun H locs h => ?_)
  clear hc
  refine lv_if_ne (tgt := 21) hx hb dX12_settles_12 (by decide) (fun hq => ?_) (fun hq => ?_)
  · replace hf := if_tn hq hf
    clear hq
    refine lv_aload_n hx hb dX12_settles_21 rfl (lv_at hl 0 rfl) ?_
    replace hf := bndv_some hf
    obtain ⟨g3, hc, hf⟩ := hf
    refine m_callVv [] C h cv_X12_492 (qX12_laysRound hc) rfl ⟨rfl, rfl⟩ ⟨Nat.le_of_ble_eq_true rfl, Nat.le_of_ble_eq_true rfl⟩ (m_recv C h) hl.1 rfl (Nat.le_of_ble_eq_true rfl) ⟨Nat.le_refl _, Nat.le_refl _⟩ dX12_settles_22 (fun H locs h => ?_)
    clear hc
    refine lv_iload_n hx hb dX12_settles_25 rfl (lv_at hl 1 rfl) ?_
    refine lv_if_ne (tgt := 36) hx hb dX12_settles_26 (by decide) (fun hq => ?_) (fun hq => ?_)
    · replace hf := if_tn hq hf
      clear hq
      refine lv_aload_n hx hb dX12_settles_36 rfl (lv_at hl 0 rfl) ?_
      refine mg_41 C h dX12_settles_37 ?_
      obtain ⟨e1, e2⟩ := pr_inj hf
      subst e1 e2
      exact m_iret C h dX12_settles_40
    · replace hf := if_t hq hf
      clear hq
      refine lv_aload_n hx hb dX12_settles_29 rfl (lv_at hl 0 rfl) ?_
      refine mg_40 C h dX12_settles_30 ?_
      refine lv_goto (tgt := 40) hx hb dX12_settles_33 (by decide) ?_
      obtain ⟨e1, e2⟩ := pr_inj hf
      subst e1 e2
      exact m_iret C h dX12_settles_40
  · replace hf := if_t hq hf
    clear hq
    refine lv_aload_n hx hb dX12_settles_15 rfl (lv_at hl 0 rfl) ?_
    refine lv_iconst (v := (1 : Int32)) hx hb dX12_settles_16 (by decide) ?_
    replace hf := bndc_some hf
    obtain ⟨x4, g5, hc, hf⟩ := hf
    refine m_callVi [.int (1 : Int32)] C h cv_X12_239 (qX12_fails hc) rfl ⟨rfl, rfl⟩ ⟨Nat.le_of_ble_eq_true rfl, Nat.le_of_ble_eq_true rfl⟩ (m_recv C h) hl.1 rfl (Nat.le_of_ble_eq_true rfl) ⟨Nat.le_refl _, Nat.le_refl _⟩ dX12_settles_17 (fun H locs h => ?_)
    clear hc
    obtain ⟨e1, e2⟩ := pr_inj hf
    subst e1 e2
    exact m_iret C h dX12_settles_20

set_option maxHeartbeats 4000000 in
set_option maxRecDepth 100000 in
theorem qX12_isFar {l : Launch} {D : va_G} {cs : Nat → ClassId} {r : Int32}  {a0 : Int32} (hf : fX12_isFar a0 = some r) : GCon l D cs yX12_isFar cX12_isFar 1 (some .boolean) (rM 1) 0 0 [.int a0] [] (some (.int r)) [] := by
  refine GCon.of (by decide) (Nat.le_of_ble_eq_true rfl) ?_
  intro p e s m args below meth c A ls H locs C h hl
  have hx := C.1
  have hb := C.2.1
  have C : MCx p s m args meth c A RX12 cX12_isFar 1 (some .boolean) D cs := C
  have hl : lv_has ls 1 [(0, .int a0)] := hl
  unfold fX12_isFar at hf
  refine lv_iload_n hx hb dX12_isFar_0 rfl (lv_at hl 0 rfl) ?_
  refine lv_i2l hx hb dX12_isFar_1 rfl ?_
  refine lv_lconst (v := (0 : Int64)) hx hb dX12_isFar_2 rfl ?_
  refine lv_ldc2 hx hb C.2.2.2.1 (C.2.2.2.2.1 _ tb_60_16) dX12_isFar_3 ?_
  replace hf := bndv_some hf
  obtain ⟨x1, hc, hf⟩ := hf
  refine m_callSi [.long a0.toInt64, .long (0 : Int64), .long (99999 : Int64)] C h cs_X12_147 (qX12_within hc) rfl ⟨rfl, rfl⟩ ⟨Nat.le_of_ble_eq_true rfl, Nat.le_of_ble_eq_true rfl⟩ hl.1 rfl (Nat.le_of_ble_eq_true rfl) ⟨Nat.le_refl _, Nat.le_refl _⟩ dX12_isFar_6 (fun H locs h => ?_)
  clear hc
  replace hf := chk_some hf
  obtain ⟨hq, hf⟩ := hf
  have e1 := Option.some.inj hf
  subst e1
  exact m_zret C h hq dX12_isFar_9

set_option maxHeartbeats 4000000 in
set_option maxRecDepth 100000 in
theorem qX12_chairIn {l : Launch} {D : va_G} {cs : Nat → ClassId} {ad : Nat → Nat} {r : Int32} {g' : MS} {g : MS}  {a0 : Int32} (hf : fX12_chairIn g a0 = some (r, g')) : GCon l D cs yX12_chairIn cX12_chairIn 2 (some .int) (rM 8) 0 0 [.ref (ad 48), .int a0] (MW cs ad g) (some (.int r)) (MW cs ad g') := by
  refine GCon.of (by decide) (Nat.le_of_ble_eq_true rfl) ?_
  intro p e s m args below meth c A ls H locs C h hl
  have hx := C.1
  have hb := C.2.1
  have C : MCx p s m args meth c A RX12 cX12_chairIn 2 (some .int) D cs := C
  have hl : lv_has ls 2 [(0, .ref (ad 48)), (1, .int a0)] := hl
  unfold fX12_chairIn at hf
  refine lv_aload_n hx hb dX12_chairIn_0 rfl (lv_at hl 0 rfl) ?_
  refine lv_iconst (v := (0 : Int32)) hx hb dX12_chairIn_1 (by decide) ?_
  replace hf := bnd_ex hf
  obtain ⟨g1, eg1, hf⟩ := hf
  refine mp_4 C h dX12_chairIn_2 (fun H locs h => ?_)
  rw [← eg1] at h
  clear eg1
  refine lv_iload_n hx hb dX12_chairIn_5 rfl (lv_at hl 1 rfl) ?_
  replace hf := bndv_some hf
  obtain ⟨x2, hc, hf⟩ := hf
  refine m_callSi [.int a0] C h cs_X12_497 (qX12_isFar hc) rfl ⟨rfl, rfl⟩ ⟨Nat.le_of_ble_eq_true rfl, Nat.le_of_ble_eq_true rfl⟩ hl.1 rfl (Nat.le_of_ble_eq_true rfl) ⟨Nat.le_refl _, Nat.le_refl _⟩ dX12_chairIn_6 (fun H locs h => ?_)
  clear hc
  refine lv_if_ne (tgt := 18) hx hb dX12_chairIn_9 (by decide) (fun hq => ?_) (fun hq => ?_)
  · replace hf := if_tn hq hf
    clear hq
    refine lv_aload_n hx hb dX12_chairIn_18 rfl (lv_at hl 0 rfl) ?_
    refine lv_iload_n hx hb dX12_chairIn_19 rfl (lv_at hl 1 rfl) ?_
    replace hf := bndv_some hf
    obtain ⟨g3, hc, hf⟩ := hf
    refine m_callVv [.int a0] C h cv_X12_500 (qX12_aimsIn hc) rfl ⟨rfl, rfl⟩ ⟨Nat.le_of_ble_eq_true rfl, Nat.le_of_ble_eq_true rfl⟩ (m_recv C h) hl.1 rfl (Nat.le_of_ble_eq_true rfl) ⟨Nat.le_refl _, Nat.le_refl _⟩ dX12_chairIn_20 (fun H locs h => ?_)
    clear hc
    refine lv_aload_n hx hb dX12_chairIn_23 rfl (lv_at hl 0 rfl) ?_
    replace hf := bndc_some hf
    obtain ⟨x4, g5, hc, hf⟩ := hf
    refine m_callVi [] C h cv_X12_313 (qX12_chairBy hc) rfl ⟨rfl, rfl⟩ ⟨Nat.le_of_ble_eq_true rfl, Nat.le_of_ble_eq_true rfl⟩ (m_recv C h) hl.1 rfl (Nat.le_of_ble_eq_true rfl) ⟨Nat.le_refl _, Nat.le_refl _⟩ dX12_chairIn_24 (fun H locs h => ?_)
    clear hc
    obtain ⟨e1, e2⟩ := pr_inj hf
    subst e1 e2
    exact m_iret C h dX12_chairIn_27
  · replace hf := if_t hq hf
    clear hq
    refine lv_aload_n hx hb dX12_chairIn_12 rfl (lv_at hl 0 rfl) ?_
    refine lv_iconst (v := (1 : Int32)) hx hb dX12_chairIn_13 (by decide) ?_
    replace hf := bndc_some hf
    obtain ⟨x6, g7, hc, hf⟩ := hf
    refine m_callVi [.int (1 : Int32)] C h cv_X12_239 (qX12_fails hc) rfl ⟨rfl, rfl⟩ ⟨Nat.le_of_ble_eq_true rfl, Nat.le_of_ble_eq_true rfl⟩ (m_recv C h) hl.1 rfl (Nat.le_of_ble_eq_true rfl) ⟨Nat.le_refl _, Nat.le_refl _⟩ dX12_chairIn_14 (fun H locs h => ?_)
    clear hc
    obtain ⟨e1, e2⟩ := pr_inj hf
    subst e1 e2
    exact m_iret C h dX12_chairIn_17

set_option maxHeartbeats 4000000 in
set_option maxRecDepth 100000 in
theorem wX12_aimIn_26 (C : MCx p s m args meth c A RX12 cX12_aimIn 3 (some .int) D cs)  {r : Int32} {g' : MS}  : ∀ (g : MS) (y1 : Int32) (y2 : Int32) (t1 : Int32), fX12_aimIn_26 g y1 y2 t1 = some (r, g') → ∀ (H : Heap) (locs : List Loc) (ls : Array Slot), MH D (MW cs ad g) A s H locs → lv_has ls 3 [(0, .ref (ad 48)), (1, .int y1), (2, .int y2)] → W p l e (rM 8) s m args below meth c H locs 0 0 (MQ below (GPost D (some (.int r)) (MW cs ad g') A) args s 0 0 A) (F0 m 26 ls [.int t1, .ref (ad 48)]) := by
  have hx := C.1
  have hb := C.2.1
  intro g y1 y2 t1 hf H locs ls h hl
  unfold fX12_aimIn_26 at hf
  replace hf := bnd_ex hf
  obtain ⟨g1, eg1, hf⟩ := hf
  refine mp_4 C h dX12_aimIn_26 (fun H locs h => ?_)
  rw [← eg1] at h
  clear eg1
  refine lv_aload_n hx hb dX12_aimIn_29 rfl (lv_at hl 0 rfl) ?_
  refine mg_4 C h dX12_aimIn_30 ?_
  refine lv_if_le (tgt := 38) hx hb dX12_aimIn_33 (by decide) (fun hq => ?_) (fun hq => ?_)
  · replace hf := if_t hq hf
    clear hq
    refine lv_aload_n hx hb dX12_aimIn_38 rfl (lv_at hl 0 rfl) ?_
    refine lv_iload_n hx hb dX12_aimIn_39 rfl (lv_at hl 2 rfl) ?_
    replace hf := bndv_some hf
    obtain ⟨g2, hc, hf⟩ := hf
    refine m_callVv [.int y2] C h cv_X12_500 (qX12_aimsIn hc) rfl ⟨rfl, rfl⟩ ⟨Nat.le_of_ble_eq_true rfl, Nat.le_of_ble_eq_true rfl⟩ (m_recv C h) hl.1 rfl (Nat.le_of_ble_eq_true rfl) ⟨Nat.le_refl _, Nat.le_refl _⟩ dX12_aimIn_40 (fun H locs h => ?_)
    clear hc
    refine lv_aload_n hx hb dX12_aimIn_43 rfl (lv_at hl 0 rfl) ?_
    refine mg_21 C h dX12_aimIn_44 ?_
    refine lv_iload_n hx hb dX12_aimIn_47 rfl (lv_at hl 1 rfl) ?_
    replace hf := chk_some hf
    obtain ⟨hq, hf⟩ := hf
    refine ml_21 C h hq dX12_aimIn_48 ?_
    clear hq
    obtain ⟨e1, e2⟩ := pr_inj hf
    subst e1 e2
    exact m_iret C h dX12_aimIn_49
  · replace hf := if_f hq hf
    clear hq
    refine lv_iconst (v := (0 : Int32)) hx hb dX12_aimIn_36 (by decide) ?_
    obtain ⟨e1, e2⟩ := pr_inj hf
    subst e1 e2
    exact m_iret C h dX12_aimIn_37

set_option maxHeartbeats 4000000 in
set_option maxRecDepth 100000 in
theorem qX12_aimIn {l : Launch} {D : va_G} {cs : Nat → ClassId} {ad : Nat → Nat} {r : Int32} {g' : MS} {g : MS}  {a0 : Int32} {a1 : Int32} (hf : fX12_aimIn g a0 a1 = some (r, g')) : GCon l D cs yX12_aimIn cX12_aimIn 3 (some .int) (rM 8) 0 0 [.ref (ad 48), .int a0, .int a1] (MW cs ad g) (some (.int r)) (MW cs ad g') := by
  refine GCon.of (by decide) (Nat.le_of_ble_eq_true rfl) ?_
  intro p e s m args below meth c A ls H locs C h hl
  have hx := C.1
  have hb := C.2.1
  have C : MCx p s m args meth c A RX12 cX12_aimIn 3 (some .int) D cs := C
  have hl : lv_has ls 3 [(0, .ref (ad 48)), (1, .int a0), (2, .int a1)] := hl
  unfold fX12_aimIn at hf
  refine lv_aload_n hx hb dX12_aimIn_0 rfl (lv_at hl 0 rfl) ?_
  refine lv_aload_n hx hb dX12_aimIn_1 rfl (lv_at hl 0 rfl) ?_
  refine lv_iload_n hx hb dX12_aimIn_2 rfl (lv_at hl 1 rfl) ?_
  refine lv_i2l hx hb dX12_aimIn_3 rfl ?_
  replace hf := bndc_some hf
  obtain ⟨x3, g4, hc, hf⟩ := hf
  refine m_callVi [.long a0.toInt64] C h cv_X12_319 (qX12_isMember hc) rfl ⟨rfl, rfl⟩ ⟨Nat.le_of_ble_eq_true rfl, Nat.le_of_ble_eq_true rfl⟩ (m_recv C h) hl.1 rfl (Nat.le_of_ble_eq_true rfl) ⟨Nat.le_refl _, Nat.le_refl _⟩ dX12_aimIn_4 (fun H locs h => ?_)
  clear hc
  refine lv_if_ne (tgt := 14) hx hb dX12_aimIn_7 (by decide) (fun hq => ?_) (fun hq => ?_)
  · replace hf := if_tn hq hf
    clear hq
    refine lv_iload_n hx hb dX12_aimIn_14 rfl (lv_at hl 2 rfl) ?_
    replace hf := bndv_some hf
    obtain ⟨x5, hc, hf⟩ := hf
    refine m_callSi [.int a1] C h cs_X12_497 (qX12_isFar hc) rfl ⟨rfl, rfl⟩ ⟨Nat.le_of_ble_eq_true rfl, Nat.le_of_ble_eq_true rfl⟩ hl.1 rfl (Nat.le_of_ble_eq_true rfl) ⟨Nat.le_refl _, Nat.le_refl _⟩ dX12_aimIn_15 (fun H locs h => ?_)
    clear hc
    refine lv_if_eq (tgt := 25) hx hb dX12_aimIn_18 (by decide) (fun hq => ?_) (fun hq => ?_)
    · replace hf := if_t hq hf
      clear hq
      refine lv_iconst (v := (2 : Int32)) hx hb dX12_aimIn_25 (by decide) ?_
      exact wX12_aimIn_26 C g4 a0 a1 (2 : Int32) hf H locs ls h (lv_sub hl [0, 1, 2] rfl)
    · replace hf := if_f hq hf
      clear hq
      refine lv_iconst (v := (0 : Int32)) hx hb dX12_aimIn_21 (by decide) ?_
      refine lv_goto (tgt := 26) hx hb dX12_aimIn_22 (by decide) ?_
      exact wX12_aimIn_26 C g4 a0 a1 (0 : Int32) hf H locs ls h (lv_sub hl [0, 1, 2] rfl)
  · replace hf := if_t hq hf
    clear hq
    refine lv_iconst (v := (1 : Int32)) hx hb dX12_aimIn_10 (by decide) ?_
    refine lv_goto (tgt := 26) hx hb dX12_aimIn_11 (by decide) ?_
    exact wX12_aimIn_26 C g4 a0 a1 (1 : Int32) hf H locs ls h (lv_sub hl [0, 1, 2] rfl)

set_option maxHeartbeats 4000000 in
set_option maxRecDepth 100000 in
theorem wX12_reign_72 (C : MCx p s m args meth c A RX12 cX12_reign 5 (some .int) D cs)  {r : Int32} {g' : MS}  {k52 : MS → Int32 → Int32 → Int32 → Int32 → Option (Int32 × MS)} (hk52 : ∀ (g : MS) (y1 : Int32) (y2 : Int32) (y3 : Int32) (y4 : Int32), k52 g y1 y2 y3 y4 = some (r, g') → ∀ (H : Heap) (locs : List Loc) (ls : Array Slot), MH D (MW cs ad g) A s H locs → lv_has ls 5 [(0, .ref (ad 48)), (1, .int y1), (2, .int y2), (3, .int y3), (4, .int y4)] → W p l e (rM 6) s m args below meth c H locs 0 0 (MQ below (GPost D (some (.int r)) (MW cs ad g') A) args s 0 0 A) (F0 m 52 ls [])) : ∀ (g : MS) (y1 : Int32) (y2 : Int32) (y4 : Int32) (t0 : Int32) (t1 : Int32), fX12_reign_72 k52 g y1 y2 y4 t0 t1 = some (r, g') → ∀ (H : Heap) (locs : List Loc) (ls : Array Slot), MH D (MW cs ad g) A s H locs → lv_has ls 5 [(0, .ref (ad 48)), (1, .int y1), (2, .int y2), (4, .int y4)] → W p l e (rM 6) s m args below meth c H locs 0 0 (MQ below (GPost D (some (.int r)) (MW cs ad g') A) args s 0 0 A) (F0 m 72 ls [.int t1, .int t0]) := by
  have hx := C.1
  have hb := C.2.1
  intro g y1 y2 y4 t0 t1 hf H locs ls h hl
  unfold fX12_reign_72 at hf
  refine lv_iadd hx hb dX12_reign_72 ?_
  refine lv_topi (fun x1 ex1 => ?_)
  replace hf := bnd_at ex1 hf
  clear ex1
  refine lv_istore_n (lv' := [(3, .int x1), (0, .ref (ad 48)), (1, .int y1), (2, .int y2), (4, .int y4)]) hx hb dX12_reign_73 rfl hl (by decide) rfl (fun ls hl => ?_)
  refine lv_aload_n hx hb dX12_reign_74 rfl (lv_at hl 1 rfl) ?_
  replace hf := bndv_some hf
  obtain ⟨g2, hc, hf⟩ := hf
  refine m_callVv [] C h cv_X12_334 (qX12_minute hc) rfl ⟨rfl, rfl⟩ ⟨Nat.le_of_ble_eq_true rfl, Nat.le_of_ble_eq_true rfl⟩ (m_recv C h) hl.1 rfl (Nat.le_of_ble_eq_true rfl) ⟨Nat.le_refl _, Nat.le_refl _⟩ dX12_reign_75 (fun H locs h => ?_)
  clear hc
  obtain ⟨x3, ex3⟩ : ∃ z : Int32, z = y4 + (1 : Int32) := ⟨_, rfl⟩
  replace hf := bnd_at ex3 hf
  refine lv_iinc (v := x3) (lv' := [(4, .int x3), (3, .int x1), (0, .ref (ad 48)), (1, .int y1), (2, .int y2)]) hx hb dX12_reign_78 hl (k := 4) rfl (by rw [ex3]; rfl) (by decide) rfl (fun ls hl => ?_)
  clear ex3
  refine lv_goto (tgt := 52) hx hb dX12_reign_81 (by decide) ?_
  exact hk52 g2 y1 y2 x1 x3 hf H locs ls h (lv_sub hl [2, 3, 4, 1, 0] rfl)

set_option maxHeartbeats 4000000 in
set_option maxRecDepth 100000 in
theorem wX12_reign_52 (C : MCx p s m args meth c A RX12 cX12_reign 5 (some .int) D cs)  {r : Int32} {g' : MS}  : ∀ (n : Nat) (g : MS) (y1 : Int32) (y2 : Int32) (y3 : Int32) (y4 : Int32), fX12_reign_52 n g y1 y2 y3 y4 = some (r, g') → ∀ (H : Heap) (locs : List Loc) (ls : Array Slot), MH D (MW cs ad g) A s H locs → lv_has ls 5 [(0, .ref (ad 48)), (1, .int y1), (2, .int y2), (3, .int y3), (4, .int y4)] → W p l e (rM 6) s m args below meth c H locs 0 0 (MQ below (GPost D (some (.int r)) (MW cs ad g') A) args s 0 0 A) (F0 m 52 ls []) := by
  have hx := C.1
  have hb := C.2.1
  intro n
  induction n with
  | zero =>
    intro g y1 y2 y3 y4 hf
    exact absurd hf (by simp [fX12_reign_52])
  | succ n ih =>
    intro g y1 y2 y3 y4 hf H locs ls h hl
    rw [fX12_reign_52] at hf
    refine lv_iload hx hb dX12_reign_52 (lv_at hl 4 rfl) ?_
    refine lv_iload_n hx hb dX12_reign_54 rfl (lv_at hl 2 rfl) ?_
    refine lv_icmp_gt (tgt := 84) hx hb dX12_reign_55 (by decide) (fun hq => ?_) (fun hq => ?_)
    · replace hf := if_t hq hf
      clear hq
      refine lv_iload_n hx hb dX12_reign_84 rfl (lv_at hl 3 rfl) ?_
      obtain ⟨e1, e2⟩ := pr_inj hf
      subst e1 e2
      exact m_iret C h dX12_reign_85
    · replace hf := if_f hq hf
      clear hq
      refine lv_iload_n hx hb dX12_reign_58 rfl (lv_at hl 3 rfl) ?_
      refine lv_aload_n hx hb dX12_reign_59 rfl (lv_at hl 0 rfl) ?_
      replace hf := bndc_some hf
      obtain ⟨x4, g5, hc, hf⟩ := hf
      refine m_callVi [] C h cv_X12_313 (qX12_chairBy hc) rfl ⟨rfl, rfl⟩ ⟨Nat.le_of_ble_eq_true rfl, Nat.le_of_ble_eq_true rfl⟩ (m_recv C h) hl.1 rfl (Nat.le_of_ble_eq_true rfl) ⟨Nat.le_refl _, Nat.le_refl _⟩ dX12_reign_60 (fun H locs h => ?_)
      clear hc
      refine lv_iload_n hx hb dX12_reign_63 rfl (lv_at hl 1 rfl) ?_
      refine lv_icmp_ne (tgt := 71) hx hb dX12_reign_64 (by decide) (fun hq => ?_) (fun hq => ?_)
      · replace hf := if_tn hq hf
        clear hq
        refine lv_iconst (v := (0 : Int32)) hx hb dX12_reign_71 (by decide) ?_
        exact wX12_reign_72 C ih g5 y1 y2 y4 y3 (0 : Int32) hf H locs ls h (lv_sub hl [0, 1, 2, 4] rfl)
      · replace hf := if_t hq hf
        clear hq
        refine lv_iconst (v := (1 : Int32)) hx hb dX12_reign_67 (by decide) ?_
        refine lv_goto (tgt := 72) hx hb dX12_reign_68 (by decide) ?_
        exact wX12_reign_72 C ih g5 y1 y2 y4 y3 (1 : Int32) hf H locs ls h (lv_sub hl [0, 1, 2, 4] rfl)

set_option maxHeartbeats 4000000 in
set_option maxRecDepth 100000 in
theorem wX12_reign_31 (C : MCx p s m args meth c A RX12 cX12_reign 5 (some .int) D cs)  {r : Int32} {g' : MS}  : ∀ (g : MS) (y1 : Int32) (y2 : Int32) (t1 : Int32), fX12_reign_31 g y1 y2 t1 = some (r, g') → ∀ (H : Heap) (locs : List Loc) (ls : Array Slot), MH D (MW cs ad g) A s H locs → lv_has ls 5 [(0, .ref (ad 48)), (1, .int y1), (2, .int y2)] → W p l e (rM 6) s m args below meth c H locs 0 0 (MQ below (GPost D (some (.int r)) (MW cs ad g') A) args s 0 0 A) (F0 m 31 ls [.int t1, .ref (ad 48)]) := by
  have hx := C.1
  have hb := C.2.1
  intro g y1 y2 t1 hf H locs ls h hl
  unfold fX12_reign_31 at hf
  replace hf := bnd_ex hf
  obtain ⟨g6, eg6, hf⟩ := hf
  refine mp_4 C h dX12_reign_31 (fun H locs h => ?_)
  rw [← eg6] at h
  clear eg6
  refine lv_aload_n hx hb dX12_reign_34 rfl (lv_at hl 0 rfl) ?_
  refine mg_4 C h dX12_reign_35 ?_
  refine lv_if_le (tgt := 43) hx hb dX12_reign_38 (by decide) (fun hq => ?_) (fun hq => ?_)
  · replace hf := if_t hq hf
    clear hq
    refine lv_aload_n hx hb dX12_reign_43 rfl (lv_at hl 0 rfl) ?_
    replace hf := bndv_some hf
    obtain ⟨g7, hc, hf⟩ := hf
    refine m_callVv [] C h cv_X12_310 (qX12_aimsNow hc) rfl ⟨rfl, rfl⟩ ⟨Nat.le_of_ble_eq_true rfl, Nat.le_of_ble_eq_true rfl⟩ (m_recv C h) hl.1 rfl (Nat.le_of_ble_eq_true rfl) ⟨Nat.le_refl _, Nat.le_refl _⟩ dX12_reign_44 (fun H locs h => ?_)
    clear hc
    refine lv_iconst (v := (0 : Int32)) hx hb dX12_reign_47 (by decide) ?_
    refine lv_istore_n (lv' := [(3, .int (0 : Int32)), (0, .ref (ad 48)), (1, .int y1), (2, .int y2)]) hx hb dX12_reign_48 rfl hl (by decide) rfl (fun ls hl => ?_)
    refine lv_iconst (v := (0 : Int32)) hx hb dX12_reign_49 (by decide) ?_
    refine lv_istore (lv' := [(4, .int (0 : Int32)), (3, .int (0 : Int32)), (0, .ref (ad 48)), (1, .int y1), (2, .int y2)]) hx hb dX12_reign_50 hl (by decide) rfl (fun ls hl => ?_)
    exact wX12_reign_52 C fuel g7 y1 y2 (0 : Int32) (0 : Int32) hf H locs ls h (lv_sub hl [2, 3, 4, 1, 0] rfl)
  · replace hf := if_f hq hf
    clear hq
    refine lv_iconst (v := (0 : Int32)) hx hb dX12_reign_41 (by decide) ?_
    obtain ⟨e1, e2⟩ := pr_inj hf
    subst e1 e2
    exact m_iret C h dX12_reign_42

set_option maxHeartbeats 4000000 in
set_option maxRecDepth 100000 in
theorem qX12_reign {l : Launch} {D : va_G} {cs : Nat → ClassId} {ad : Nat → Nat} {r : Int32} {g' : MS} {g : MS}  {a0 : Int32} {a1 : Int32} (hf : fX12_reign g a0 a1 = some (r, g')) : GCon l D cs yX12_reign cX12_reign 5 (some .int) (rM 6) 0 0 [.ref (ad 48), .int a0, .int a1] (MW cs ad g) (some (.int r)) (MW cs ad g') := by
  refine GCon.of (by decide) (Nat.le_of_ble_eq_true rfl) ?_
  intro p e s m args below meth c A ls H locs C h hl
  have hx := C.1
  have hb := C.2.1
  have C : MCx p s m args meth c A RX12 cX12_reign 5 (some .int) D cs := C
  have hl : lv_has ls 5 [(0, .ref (ad 48)), (1, .int a0), (2, .int a1)] := hl
  unfold fX12_reign at hf
  refine lv_aload_n hx hb dX12_reign_0 rfl (lv_at hl 0 rfl) ?_
  refine lv_aload_n hx hb dX12_reign_1 rfl (lv_at hl 0 rfl) ?_
  refine lv_iload_n hx hb dX12_reign_2 rfl (lv_at hl 1 rfl) ?_
  refine lv_i2l hx hb dX12_reign_3 rfl ?_
  replace hf := bndc_some hf
  obtain ⟨x8, g9, hc, hf⟩ := hf
  refine m_callVi [.long a0.toInt64] C h cv_X12_319 (qX12_isMember hc) rfl ⟨rfl, rfl⟩ ⟨Nat.le_of_ble_eq_true rfl, Nat.le_of_ble_eq_true rfl⟩ (m_recv C h) hl.1 rfl (Nat.le_of_ble_eq_true rfl) ⟨Nat.le_refl _, Nat.le_refl _⟩ dX12_reign_4 (fun H locs h => ?_)
  clear hc
  refine lv_if_ne (tgt := 14) hx hb dX12_reign_7 (by decide) (fun hq => ?_) (fun hq => ?_)
  · replace hf := if_tn hq hf
    clear hq
    refine lv_iload_n hx hb dX12_reign_14 rfl (lv_at hl 2 rfl) ?_
    refine lv_i2l hx hb dX12_reign_15 rfl ?_
    refine lv_lconst (v := (0 : Int64)) hx hb dX12_reign_16 rfl ?_
    refine lv_ldc2 hx hb C.2.2.2.1 (C.2.2.2.2.1 _ tb_62_0) dX12_reign_17 ?_
    replace hf := bndv_some hf
    obtain ⟨x10, hc, hf⟩ := hf
    refine m_callSi [.long a1.toInt64, .long (0 : Int64), .long (9999 : Int64)] C h cs_X12_147 (qX12_within hc) rfl ⟨rfl, rfl⟩ ⟨Nat.le_of_ble_eq_true rfl, Nat.le_of_ble_eq_true rfl⟩ hl.1 rfl (Nat.le_of_ble_eq_true rfl) ⟨Nat.le_refl _, Nat.le_refl _⟩ dX12_reign_20 (fun H locs h => ?_)
    clear hc
    refine lv_if_eq (tgt := 30) hx hb dX12_reign_23 (by decide) (fun hq => ?_) (fun hq => ?_)
    · replace hf := if_t hq hf
      clear hq
      refine lv_iconst (v := (2 : Int32)) hx hb dX12_reign_30 (by decide) ?_
      exact wX12_reign_31 C g9 a0 a1 (2 : Int32) hf H locs ls h (lv_sub hl [0, 1, 2] rfl)
    · replace hf := if_f hq hf
      clear hq
      refine lv_iconst (v := (0 : Int32)) hx hb dX12_reign_26 (by decide) ?_
      refine lv_goto (tgt := 31) hx hb dX12_reign_27 (by decide) ?_
      exact wX12_reign_31 C g9 a0 a1 (0 : Int32) hf H locs ls h (lv_sub hl [0, 1, 2] rfl)
  · replace hf := if_t hq hf
    clear hq
    refine lv_iconst (v := (1 : Int32)) hx hb dX12_reign_10 (by decide) ?_
    refine lv_goto (tgt := 31) hx hb dX12_reign_11 (by decide) ?_
    exact wX12_reign_31 C g9 a0 a1 (1 : Int32) hf H locs ls h (lv_sub hl [0, 1, 2] rfl)

set_option maxHeartbeats 4000000 in
set_option maxRecDepth 100000 in
theorem wX12_first_30 (C : MCx p s m args meth c A RX12 cX12_first 3 (some .int) D cs)  {r : Int32} {g' : MS}  : ∀ (n : Nat) (g : MS) (y1 : Int32) (y2 : Int32), fX12_first_30 n g y1 y2 = some (r, g') → ∀ (H : Heap) (locs : List Loc) (ls : Array Slot), MH D (MW cs ad g) A s H locs → lv_has ls 3 [(0, .ref (ad 48)), (1, .int y1), (2, .int y2)] → W p l e (rM 7) s m args below meth c H locs 0 0 (MQ below (GPost D (some (.int r)) (MW cs ad g') A) args s 0 0 A) (F0 m 30 ls []) := by
  have hx := C.1
  have hb := C.2.1
  intro n
  induction n with
  | zero =>
    intro g y1 y2 hf
    exact absurd hf (by simp [fX12_first_30])
  | succ n ih =>
    intro g y1 y2 hf H locs ls h hl
    rw [fX12_first_30] at hf
    refine lv_iload_n hx hb dX12_first_30 rfl (lv_at hl 2 rfl) ?_
    refine lv_aload_n hx hb dX12_first_31 rfl (lv_at hl 0 rfl) ?_
    refine mg_40 C h dX12_first_32 ?_
    refine lv_aload_n hx hb dX12_first_35 rfl (lv_at hl 0 rfl) ?_
    refine mg_41 C h dX12_first_36 ?_
    refine lv_iadd hx hb dX12_first_39 ?_
    refine lv_icmp_ge (tgt := 63) hx hb dX12_first_40 (by decide) (fun hq => ?_) (fun hq => ?_)
    · replace hf := if_t hq hf
      clear hq
      refine lv_iconst (v := (-1 : Int32)) hx hb dX12_first_63 (by decide) ?_
      obtain ⟨e1, e2⟩ := pr_inj hf
      subst e1 e2
      exact m_iret C h dX12_first_64
    · replace hf := if_f hq hf
      clear hq
      refine lv_aload_n hx hb dX12_first_43 rfl (lv_at hl 0 rfl) ?_
      replace hf := bndc_some hf
      obtain ⟨x1, g2, hc, hf⟩ := hf
      refine m_callVi [] C h cv_X12_313 (qX12_chairBy hc) rfl ⟨rfl, rfl⟩ ⟨Nat.le_of_ble_eq_true rfl, Nat.le_of_ble_eq_true rfl⟩ (m_recv C h) hl.1 rfl (Nat.le_of_ble_eq_true rfl) ⟨Nat.le_refl _, Nat.le_refl _⟩ dX12_first_44 (fun H locs h => ?_)
      clear hc
      refine lv_iload_n hx hb dX12_first_47 rfl (lv_at hl 1 rfl) ?_
      refine lv_icmp_ne (tgt := 53) hx hb dX12_first_48 (by decide) (fun hq => ?_) (fun hq => ?_)
      · replace hf := if_tn hq hf
        clear hq
        refine lv_aload_n hx hb dX12_first_53 rfl (lv_at hl 0 rfl) ?_
        replace hf := bndv_some hf
        obtain ⟨g3, hc, hf⟩ := hf
        refine m_callVv [] C h cv_X12_334 (qX12_minute hc) rfl ⟨rfl, rfl⟩ ⟨Nat.le_of_ble_eq_true rfl, Nat.le_of_ble_eq_true rfl⟩ (m_recv C h) hl.1 rfl (Nat.le_of_ble_eq_true rfl) ⟨Nat.le_refl _, Nat.le_refl _⟩ dX12_first_54 (fun H locs h => ?_)
        clear hc
        obtain ⟨x4, ex4⟩ : ∃ z : Int32, z = y2 + (1 : Int32) := ⟨_, rfl⟩
        replace hf := bnd_at ex4 hf
        refine lv_iinc (v := x4) (lv' := [(2, .int x4), (0, .ref (ad 48)), (1, .int y1)]) hx hb dX12_first_57 hl (k := 2) rfl (by rw [ex4]; rfl) (by decide) rfl (fun ls hl => ?_)
        clear ex4
        refine lv_goto (tgt := 30) hx hb dX12_first_60 (by decide) ?_
        exact ih g3 y1 x4 hf H locs ls h (lv_sub hl [1, 2, 0] rfl)
      · replace hf := if_t hq hf
        clear hq
        refine lv_iload_n hx hb dX12_first_51 rfl (lv_at hl 2 rfl) ?_
        obtain ⟨e1, e2⟩ := pr_inj hf
        subst e1 e2
        exact m_iret C h dX12_first_52

set_option maxHeartbeats 4000000 in
set_option maxRecDepth 100000 in
theorem qX12_first {l : Launch} {D : va_G} {cs : Nat → ClassId} {ad : Nat → Nat} {r : Int32} {g' : MS} {g : MS}  {a0 : Int32} (hf : fX12_first g a0 = some (r, g')) : GCon l D cs yX12_first cX12_first 3 (some .int) (rM 7) 0 0 [.ref (ad 48), .int a0] (MW cs ad g) (some (.int r)) (MW cs ad g') := by
  refine GCon.of (by decide) (Nat.le_of_ble_eq_true rfl) ?_
  intro p e s m args below meth c A ls H locs C h hl
  have hx := C.1
  have hb := C.2.1
  have C : MCx p s m args meth c A RX12 cX12_first 3 (some .int) D cs := C
  have hl : lv_has ls 3 [(0, .ref (ad 48)), (1, .int a0)] := hl
  unfold fX12_first at hf
  refine lv_aload_n hx hb dX12_first_0 rfl (lv_at hl 0 rfl) ?_
  refine lv_iconst (v := (0 : Int32)) hx hb dX12_first_1 (by decide) ?_
  replace hf := bnd_ex hf
  obtain ⟨g5, eg5, hf⟩ := hf
  refine mp_4 C h dX12_first_2 (fun H locs h => ?_)
  rw [← eg5] at h
  clear eg5
  refine lv_aload_n hx hb dX12_first_5 rfl (lv_at hl 0 rfl) ?_
  refine lv_iload_n hx hb dX12_first_6 rfl (lv_at hl 1 rfl) ?_
  refine lv_i2l hx hb dX12_first_7 rfl ?_
  replace hf := bndc_some hf
  obtain ⟨x6, g7, hc, hf⟩ := hf
  refine m_callVi [.long a0.toInt64] C h cv_X12_319 (qX12_isMember hc) rfl ⟨rfl, rfl⟩ ⟨Nat.le_of_ble_eq_true rfl, Nat.le_of_ble_eq_true rfl⟩ (m_recv C h) hl.1 rfl (Nat.le_of_ble_eq_true rfl) ⟨Nat.le_refl _, Nat.le_refl _⟩ dX12_first_8 (fun H locs h => ?_)
  clear hc
  refine lv_if_ne (tgt := 20) hx hb dX12_first_11 (by decide) (fun hq => ?_) (fun hq => ?_)
  · replace hf := if_tn hq hf
    clear hq
    refine lv_aload_n hx hb dX12_first_20 rfl (lv_at hl 0 rfl) ?_
    replace hf := bndv_some hf
    obtain ⟨g8, hc, hf⟩ := hf
    refine m_callVv [] C h cv_X12_492 (qX12_laysRound hc) rfl ⟨rfl, rfl⟩ ⟨Nat.le_of_ble_eq_true rfl, Nat.le_of_ble_eq_true rfl⟩ (m_recv C h) hl.1 rfl (Nat.le_of_ble_eq_true rfl) ⟨Nat.le_refl _, Nat.le_refl _⟩ dX12_first_21 (fun H locs h => ?_)
    clear hc
    refine lv_aload_n hx hb dX12_first_24 rfl (lv_at hl 0 rfl) ?_
    replace hf := bndv_some hf
    obtain ⟨g9, hc, hf⟩ := hf
    refine m_callVv [] C h cv_X12_310 (qX12_aimsNow hc) rfl ⟨rfl, rfl⟩ ⟨Nat.le_of_ble_eq_true rfl, Nat.le_of_ble_eq_true rfl⟩ (m_recv C h) hl.1 rfl (Nat.le_of_ble_eq_true rfl) ⟨Nat.le_refl _, Nat.le_refl _⟩ dX12_first_25 (fun H locs h => ?_)
    clear hc
    refine lv_iconst (v := (0 : Int32)) hx hb dX12_first_28 (by decide) ?_
    refine lv_istore_n (lv' := [(2, .int (0 : Int32)), (0, .ref (ad 48)), (1, .int a0)]) hx hb dX12_first_29 rfl hl (by decide) rfl (fun ls hl => ?_)
    exact wX12_first_30 C fuel g9 a0 (0 : Int32) hf H locs ls h (lv_sub hl [1, 2, 0] rfl)
  · replace hf := if_t hq hf
    clear hq
    refine lv_aload_n hx hb dX12_first_14 rfl (lv_at hl 0 rfl) ?_
    refine lv_iconst (v := (1 : Int32)) hx hb dX12_first_15 (by decide) ?_
    replace hf := bndc_some hf
    obtain ⟨x10, g11, hc, hf⟩ := hf
    refine m_callVi [.int (1 : Int32)] C h cv_X12_239 (qX12_fails hc) rfl ⟨rfl, rfl⟩ ⟨Nat.le_of_ble_eq_true rfl, Nat.le_of_ble_eq_true rfl⟩ (m_recv C h) hl.1 rfl (Nat.le_of_ble_eq_true rfl) ⟨Nat.le_refl _, Nat.le_refl _⟩ dX12_first_16 (fun H locs h => ?_)
    clear hc
    obtain ⟨e1, e2⟩ := pr_inj hf
    subst e1 e2
    exact m_iret C h dX12_first_19

set_option maxHeartbeats 4000000 in
set_option maxRecDepth 100000 in
theorem wX12_laysSeen_77 (C : MCx p s m args meth c A RX12 cX12_laysSeen 4 none D cs)  {g' : MS}  {k11 : MS → Int32 → Int32 → Option (MS)} (hk11 : ∀ (g : MS) (y1 : Int32) (y2 : Int32), k11 g y1 y2 = some g' → ∀ (H : Heap) (locs : List Loc) (ls : Array Slot), MH D (MW cs ad g) A s H locs → lv_has ls 4 [(0, .ref (ad 48)), (1, .int y1), (2, .int y2)] → W p l e (rM 7) s m args below meth c H locs 0 0 (MQ below (GPost D none (MW cs ad g') A) args s 0 0 A) (F0 m 11 ls [])) : ∀ (n : Nat) (g : MS) (y1 : Int32) (y2 : Int32) (y3 : Int32), fX12_laysSeen_77 k11 n g y1 y2 y3 = some g' → ∀ (H : Heap) (locs : List Loc) (ls : Array Slot), MH D (MW cs ad g) A s H locs → lv_has ls 4 [(0, .ref (ad 48)), (1, .int y1), (2, .int y2), (3, .int y3)] → W p l e (rM 7) s m args below meth c H locs 0 0 (MQ below (GPost D none (MW cs ad g') A) args s 0 0 A) (F0 m 77 ls []) := by
  have hx := C.1
  have hb := C.2.1
  intro n
  induction n with
  | zero =>
    intro g y1 y2 y3 hf
    exact absurd hf (by simp [fX12_laysSeen_77])
  | succ n ih =>
    intro g y1 y2 y3 hf H locs ls h hl
    rw [fX12_laysSeen_77] at hf
    refine lv_iload_n hx hb dX12_laysSeen_77 rfl (lv_at hl 3 rfl) ?_
    refine lv_aload_n hx hb dX12_laysSeen_78 rfl (lv_at hl 0 rfl) ?_
    replace hf := bndc_some hf
    obtain ⟨x1, g2, hc, hf⟩ := hf
    refine m_callVi [] C h cv_X12_254 (qX12_size hc) rfl ⟨rfl, rfl⟩ ⟨Nat.le_of_ble_eq_true rfl, Nat.le_of_ble_eq_true rfl⟩ (m_recv C h) hl.1 rfl (Nat.le_of_ble_eq_true rfl) ⟨Nat.le_refl _, Nat.le_refl _⟩ dX12_laysSeen_79 (fun H locs h => ?_)
    clear hc
    refine lv_icmp_ge (tgt := 111) hx hb dX12_laysSeen_82 (by decide) (fun hq => ?_) (fun hq => ?_)
    · replace hf := if_t hq hf
      clear hq
      refine lv_aload_n hx hb dX12_laysSeen_111 rfl (lv_at hl 0 rfl) ?_
      refine lv_dup hx hb dX12_laysSeen_112 rfl ?_
      refine mg_44 C h dX12_laysSeen_113 ?_
      refine lv_iconst (v := (1 : Int32)) hx hb dX12_laysSeen_116 (by decide) ?_
      refine lv_iadd hx hb dX12_laysSeen_117 ?_
      replace hf := bnd_ex hf
      obtain ⟨g3, eg3, hf⟩ := hf
      refine mp_44 C h dX12_laysSeen_118 (fun H locs h => ?_)
      rw [← eg3] at h
      clear eg3
      obtain ⟨x4, ex4⟩ : ∃ z : Int32, z = y2 + (1 : Int32) := ⟨_, rfl⟩
      replace hf := bnd_at ex4 hf
      refine lv_iinc (v := x4) (lv' := [(2, .int x4), (0, .ref (ad 48)), (1, .int y1), (3, .int y3)]) hx hb dX12_laysSeen_121 hl (k := 2) rfl (by rw [ex4]; rfl) (by decide) rfl (fun ls hl => ?_)
      clear ex4
      refine lv_goto (tgt := 11) hx hb dX12_laysSeen_124 (by decide) ?_
      exact hk11 g3 y1 x4 hf H locs ls h (lv_sub hl [1, 2, 0] rfl)
    · replace hf := if_f hq hf
      clear hq
      refine lv_aload_n hx hb dX12_laysSeen_85 rfl (lv_at hl 0 rfl) ?_
      refine mg_43 C h dX12_laysSeen_86 ?_
      refine lv_bipush (v := (6 : Int32)) hx hb dX12_laysSeen_89 (by decide) ?_
      refine lv_aload_n hx hb dX12_laysSeen_91 rfl (lv_at hl 0 rfl) ?_
      refine mg_44 C h dX12_laysSeen_92 ?_
      refine lv_imul hx hb dX12_laysSeen_95 ?_
      refine lv_iload_n hx hb dX12_laysSeen_96 rfl (lv_at hl 3 rfl) ?_
      refine lv_iadd hx hb dX12_laysSeen_97 ?_
      refine lv_aload_n hx hb dX12_laysSeen_98 rfl (lv_at hl 0 rfl) ?_
      refine mg_21 C h dX12_laysSeen_99 ?_
      refine lv_iload_n hx hb dX12_laysSeen_102 rfl (lv_at hl 3 rfl) ?_
      replace hf := chk_some hf
      obtain ⟨hq, hf⟩ := hf
      refine ml_21 C h hq dX12_laysSeen_103 ?_
      clear hq
      replace hf := chk_some hf
      obtain ⟨hq, hf⟩ := hf
      replace hf := bnd_ex hf
      obtain ⟨g5, eg5, hf⟩ := hf
      refine ms_43 C h hq dX12_laysSeen_104 (fun H locs h => ?_)
      rw [← eg5] at h
      clear hq eg5
      obtain ⟨x6, ex6⟩ : ∃ z : Int32, z = y3 + (1 : Int32) := ⟨_, rfl⟩
      replace hf := bnd_at ex6 hf
      refine lv_iinc (v := x6) (lv' := [(3, .int x6), (0, .ref (ad 48)), (1, .int y1), (2, .int y2)]) hx hb dX12_laysSeen_105 hl (k := 3) rfl (by rw [ex6]; rfl) (by decide) rfl (fun ls hl => ?_)
      clear ex6
      refine lv_goto (tgt := 77) hx hb dX12_laysSeen_108 (by decide) ?_
      exact ih g5 y1 y2 x6 hf H locs ls h (lv_sub hl [1, 2, 3, 0] rfl)

set_option maxHeartbeats 4000000 in
set_option maxRecDepth 100000 in
theorem wX12_laysSeen_11 (C : MCx p s m args meth c A RX12 cX12_laysSeen 4 none D cs)  {g' : MS}  : ∀ (n : Nat) (g : MS) (y1 : Int32) (y2 : Int32), fX12_laysSeen_11 n g y1 y2 = some g' → ∀ (H : Heap) (locs : List Loc) (ls : Array Slot), MH D (MW cs ad g) A s H locs → lv_has ls 4 [(0, .ref (ad 48)), (1, .int y1), (2, .int y2)] → W p l e (rM 7) s m args below meth c H locs 0 0 (MQ below (GPost D none (MW cs ad g') A) args s 0 0 A) (F0 m 11 ls []) := by
  have hx := C.1
  have hb := C.2.1
  intro n
  induction n with
  | zero =>
    intro g y1 y2 hf
    exact absurd hf (by simp [fX12_laysSeen_11])
  | succ n ih =>
    intro g y1 y2 hf H locs ls h hl
    rw [fX12_laysSeen_11] at hf
    refine lv_iload_n hx hb dX12_laysSeen_11 rfl (lv_at hl 2 rfl) ?_
    refine lv_bipush (v := (10 : Int32)) hx hb dX12_laysSeen_12 (by decide) ?_
    refine lv_aload_n hx hb dX12_laysSeen_14 rfl (lv_at hl 0 rfl) ?_
    replace hf := bndc_some hf
    obtain ⟨x7, g8, hc, hf⟩ := hf
    refine m_callVi [] C h cv_X12_254 (qX12_size hc) rfl ⟨rfl, rfl⟩ ⟨Nat.le_of_ble_eq_true rfl, Nat.le_of_ble_eq_true rfl⟩ (m_recv C h) hl.1 rfl (Nat.le_of_ble_eq_true rfl) ⟨Nat.le_refl _, Nat.le_refl _⟩ dX12_laysSeen_15 (fun H locs h => ?_)
    clear hc
    refine lv_imul hx hb dX12_laysSeen_18 ?_
    refine lv_icmp_ge (tgt := 127) hx hb dX12_laysSeen_19 (by decide) (fun hq => ?_) (fun hq => ?_)
    · replace hf := if_t hq hf
      clear hq
      have e1 := Option.some.inj hf
      subst e1
      exact m_vret C h dX12_laysSeen_127
    · replace hf := if_f hq hf
      clear hq
      refine lv_aload_n hx hb dX12_laysSeen_22 rfl (lv_at hl 0 rfl) ?_
      refine lv_iload_n hx hb dX12_laysSeen_23 rfl (lv_at hl 2 rfl) ?_
      refine lv_bipush (v := (10 : Int32)) hx hb dX12_laysSeen_24 (by decide) ?_
      replace hf := chk_some hf
      obtain ⟨hq, hf⟩ := hf
      refine lv_idiv hx hb dX12_laysSeen_26 (nz_ne hq) ?_
      clear hq
      refine lv_i2l hx hb dX12_laysSeen_27 rfl ?_
      refine lv_iload_n hx hb dX12_laysSeen_28 rfl (lv_at hl 2 rfl) ?_
      refine lv_bipush (v := (10 : Int32)) hx hb dX12_laysSeen_29 (by decide) ?_
      replace hf := chk_some hf
      obtain ⟨hq, hf⟩ := hf
      refine x_irem hx hb dX12_laysSeen_31 (nz_ne hq) ?_
      clear hq
      refine lv_i2l hx hb dX12_laysSeen_32 rfl ?_
      replace hf := bndc_some hf
      obtain ⟨x9, g10, hc, hf⟩ := hf
      refine m_callVi [.long ((y2 / (10 : Int32)).toInt64), .long ((jrem y2 (10 : Int32)).toInt64)] C h cv_X12_337 (qX12_whyTurn hc) rfl ⟨rfl, rfl⟩ ⟨Nat.le_of_ble_eq_true rfl, Nat.le_of_ble_eq_true rfl⟩ (m_recv C h) hl.1 rfl (Nat.le_of_ble_eq_true rfl) ⟨Nat.le_refl _, Nat.le_refl _⟩ dX12_laysSeen_33 (fun H locs h => ?_)
      clear hc
      refine lv_if_eq (tgt := 42) hx hb dX12_laysSeen_36 (by decide) (fun hq => ?_) (fun hq => ?_)
      · replace hf := if_t hq hf
        clear hq
        refine lv_aload_n hx hb dX12_laysSeen_42 rfl (lv_at hl 0 rfl) ?_
        refine lv_iload_n hx hb dX12_laysSeen_43 rfl (lv_at hl 2 rfl) ?_
        refine lv_bipush (v := (10 : Int32)) hx hb dX12_laysSeen_44 (by decide) ?_
        replace hf := chk_some hf
        obtain ⟨hq, hf⟩ := hf
        refine lv_idiv hx hb dX12_laysSeen_46 (nz_ne hq) ?_
        clear hq
        refine lv_iload_n hx hb dX12_laysSeen_47 rfl (lv_at hl 2 rfl) ?_
        refine lv_bipush (v := (10 : Int32)) hx hb dX12_laysSeen_48 (by decide) ?_
        replace hf := chk_some hf
        obtain ⟨hq, hf⟩ := hf
        refine x_irem hx hb dX12_laysSeen_50 (nz_ne hq) ?_
        clear hq
        replace hf := bndv_some hf
        obtain ⟨g11, hc, hf⟩ := hf
        refine m_callVv [.int (y2 / (10 : Int32)), .int (jrem y2 (10 : Int32))] C h cv_X12_483 (qX12_aimsBehindOne hc) rfl ⟨rfl, rfl⟩ ⟨Nat.le_of_ble_eq_true rfl, Nat.le_of_ble_eq_true rfl⟩ (m_recv C h) hl.1 rfl (Nat.le_of_ble_eq_true rfl) ⟨Nat.le_refl _, Nat.le_refl _⟩ dX12_laysSeen_51 (fun H locs h => ?_)
        clear hc
        refine lv_aload_n hx hb dX12_laysSeen_54 rfl (lv_at hl 0 rfl) ?_
        refine lv_iload_n hx hb dX12_laysSeen_55 rfl (lv_at hl 1 rfl) ?_
        replace hf := bndc_some hf
        obtain ⟨x12, g13, hc, hf⟩ := hf
        refine m_callVi [.int y1] C h cv_X12_432 (qX12_looksSo hc) rfl ⟨rfl, rfl⟩ ⟨Nat.le_of_ble_eq_true rfl, Nat.le_of_ble_eq_true rfl⟩ (m_recv C h) hl.1 rfl (Nat.le_of_ble_eq_true rfl) ⟨Nat.le_refl _, Nat.le_refl _⟩ dX12_laysSeen_56 (fun H locs h => ?_)
        clear hc
        refine lv_if_ne (tgt := 65) hx hb dX12_laysSeen_59 (by decide) (fun hq => ?_) (fun hq => ?_)
        · replace hf := if_tn hq hf
          clear hq
          refine lv_aload_n hx hb dX12_laysSeen_65 rfl (lv_at hl 0 rfl) ?_
          refine mg_42 C h dX12_laysSeen_66 ?_
          refine lv_aload_n hx hb dX12_laysSeen_69 rfl (lv_at hl 0 rfl) ?_
          refine mg_44 C h dX12_laysSeen_70 ?_
          refine lv_iload_n hx hb dX12_laysSeen_73 rfl (lv_at hl 2 rfl) ?_
          replace hf := chk_some hf
          obtain ⟨hq, hf⟩ := hf
          replace hf := bnd_ex hf
          obtain ⟨g14, eg14, hf⟩ := hf
          refine ms_42 C h hq dX12_laysSeen_74 (fun H locs h => ?_)
          rw [← eg14] at h
          clear hq eg14
          refine lv_iconst (v := (0 : Int32)) hx hb dX12_laysSeen_75 (by decide) ?_
          refine lv_istore_n (lv' := [(3, .int (0 : Int32)), (0, .ref (ad 48)), (1, .int y1), (2, .int y2)]) hx hb dX12_laysSeen_76 rfl hl (by decide) rfl (fun ls hl => ?_)
          exact wX12_laysSeen_77 C ih fuel g14 y1 y2 (0 : Int32) hf H locs ls h (lv_sub hl [1, 2, 3, 0] rfl)
        · replace hf := if_t hq hf
          clear hq
          refine lv_goto (tgt := 121) hx hb dX12_laysSeen_62 (by decide) ?_
          obtain ⟨x15, ex15⟩ : ∃ z : Int32, z = y2 + (1 : Int32) := ⟨_, rfl⟩
          replace hf := bnd_at ex15 hf
          refine lv_iinc (v := x15) (lv' := [(2, .int x15), (0, .ref (ad 48)), (1, .int y1)]) hx hb dX12_laysSeen_121 hl (k := 2) rfl (by rw [ex15]; rfl) (by decide) rfl (fun ls hl => ?_)
          clear ex15
          refine lv_goto (tgt := 11) hx hb dX12_laysSeen_124 (by decide) ?_
          exact ih g13 y1 x15 hf H locs ls h (lv_sub hl [1, 2, 0] rfl)
      · replace hf := if_f hq hf
        clear hq
        refine lv_goto (tgt := 121) hx hb dX12_laysSeen_39 (by decide) ?_
        obtain ⟨x16, ex16⟩ : ∃ z : Int32, z = y2 + (1 : Int32) := ⟨_, rfl⟩
        replace hf := bnd_at ex16 hf
        refine lv_iinc (v := x16) (lv' := [(2, .int x16), (0, .ref (ad 48)), (1, .int y1)]) hx hb dX12_laysSeen_121 hl (k := 2) rfl (by rw [ex16]; rfl) (by decide) rfl (fun ls hl => ?_)
        clear ex16
        refine lv_goto (tgt := 11) hx hb dX12_laysSeen_124 (by decide) ?_
        exact ih g10 y1 x16 hf H locs ls h (lv_sub hl [1, 2, 0] rfl)

set_option maxHeartbeats 4000000 in
set_option maxRecDepth 100000 in
theorem qX12_laysSeen {l : Launch} {D : va_G} {cs : Nat → ClassId} {ad : Nat → Nat} {g' : MS} {g : MS}  {a0 : Int32} (hf : fX12_laysSeen g a0 = some g') : GCon l D cs yX12_laysSeen cX12_laysSeen 4 none (rM 7) 0 0 [.ref (ad 48), .int a0] (MW cs ad g) none (MW cs ad g') := by
  refine GCon.of (by decide) (Nat.le_of_ble_eq_true rfl) ?_
  intro p e s m args below meth c A ls H locs C h hl
  have hx := C.1
  have hb := C.2.1
  have C : MCx p s m args meth c A RX12 cX12_laysSeen 4 none D cs := C
  have hl : lv_has ls 4 [(0, .ref (ad 48)), (1, .int a0)] := hl
  unfold fX12_laysSeen at hf
  refine lv_aload_n hx hb dX12_laysSeen_0 rfl (lv_at hl 0 rfl) ?_
  refine lv_iconst (v := (0 : Int32)) hx hb dX12_laysSeen_1 (by decide) ?_
  replace hf := bnd_ex hf
  obtain ⟨g17, eg17, hf⟩ := hf
  refine mp_44 C h dX12_laysSeen_2 (fun H locs h => ?_)
  rw [← eg17] at h
  clear eg17
  refine lv_aload_n hx hb dX12_laysSeen_5 rfl (lv_at hl 0 rfl) ?_
  replace hf := bndv_some hf
  obtain ⟨g18, hc, hf⟩ := hf
  refine m_callVv [] C h cv_X12_423 (qX12_laysAlong hc) rfl ⟨rfl, rfl⟩ ⟨Nat.le_of_ble_eq_true rfl, Nat.le_of_ble_eq_true rfl⟩ (m_recv C h) hl.1 rfl (Nat.le_of_ble_eq_true rfl) ⟨Nat.le_refl _, Nat.le_refl _⟩ dX12_laysSeen_6 (fun H locs h => ?_)
  clear hc
  refine lv_iconst (v := (0 : Int32)) hx hb dX12_laysSeen_9 (by decide) ?_
  refine lv_istore_n (lv' := [(2, .int (0 : Int32)), (0, .ref (ad 48)), (1, .int a0)]) hx hb dX12_laysSeen_10 rfl hl (by decide) rfl (fun ls hl => ?_)
  exact wX12_laysSeen_11 C fuel g18 a0 (0 : Int32) hf H locs ls h (lv_sub hl [1, 2, 0] rfl)

set_option maxHeartbeats 4000000 in
set_option maxRecDepth 100000 in
theorem qX12_seen {l : Launch} {D : va_G} {cs : Nat → ClassId} {ad : Nat → Nat} {r : Int32} {g' : MS} {g : MS}  {a0 : Int32} (hf : fX12_seen g a0 = some (r, g')) : GCon l D cs yX12_seen cX12_seen 2 (some .int) (rM 8) 0 0 [.ref (ad 48), .int a0] (MW cs ad g) (some (.int r)) (MW cs ad g') := by
  refine GCon.of (by decide) (Nat.le_of_ble_eq_true rfl) ?_
  intro p e s m args below meth c A ls H locs C h hl
  have hx := C.1
  have hb := C.2.1
  have C : MCx p s m args meth c A RX12 cX12_seen 2 (some .int) D cs := C
  have hl : lv_has ls 2 [(0, .ref (ad 48)), (1, .int a0)] := hl
  unfold fX12_seen at hf
  refine lv_aload_n hx hb dX12_seen_0 rfl (lv_at hl 0 rfl) ?_
  refine lv_aload_n hx hb dX12_seen_1 rfl (lv_at hl 0 rfl) ?_
  refine lv_iload_n hx hb dX12_seen_2 rfl (lv_at hl 1 rfl) ?_
  replace hf := bndc_some hf
  obtain ⟨x1, g2, hc, hf⟩ := hf
  refine m_callVi [.int a0] C h cv_X12_468 (qX12_lookFault hc) rfl ⟨rfl, rfl⟩ ⟨Nat.le_of_ble_eq_true rfl, Nat.le_of_ble_eq_true rfl⟩ (m_recv C h) hl.1 rfl (Nat.le_of_ble_eq_true rfl) ⟨Nat.le_refl _, Nat.le_refl _⟩ dX12_seen_3 (fun H locs h => ?_)
  clear hc
  replace hf := bnd_ex hf
  obtain ⟨g3, eg3, hf⟩ := hf
  refine mp_4 C h dX12_seen_6 (fun H locs h => ?_)
  rw [← eg3] at h
  clear eg3
  refine lv_aload_n hx hb dX12_seen_9 rfl (lv_at hl 0 rfl) ?_
  refine mg_4 C h dX12_seen_10 ?_
  refine lv_if_le (tgt := 18) hx hb dX12_seen_13 (by decide) (fun hq => ?_) (fun hq => ?_)
  · replace hf := if_t hq hf
    clear hq
    refine lv_aload_n hx hb dX12_seen_18 rfl (lv_at hl 0 rfl) ?_
    refine lv_iload_n hx hb dX12_seen_19 rfl (lv_at hl 1 rfl) ?_
    replace hf := bndv_some hf
    obtain ⟨g4, hc, hf⟩ := hf
    refine m_callVv [.int a0] C h cv_X12_508 (qX12_laysSeen hc) rfl ⟨rfl, rfl⟩ ⟨Nat.le_of_ble_eq_true rfl, Nat.le_of_ble_eq_true rfl⟩ (m_recv C h) hl.1 rfl (Nat.le_of_ble_eq_true rfl) ⟨Nat.le_refl _, Nat.le_refl _⟩ dX12_seen_20 (fun H locs h => ?_)
    clear hc
    refine lv_aload_n hx hb dX12_seen_23 rfl (lv_at hl 0 rfl) ?_
    refine mg_44 C h dX12_seen_24 ?_
    obtain ⟨e1, e2⟩ := pr_inj hf
    subst e1 e2
    exact m_iret C h dX12_seen_27
  · replace hf := if_f hq hf
    clear hq
    refine lv_iconst (v := (0 : Int32)) hx hb dX12_seen_16 (by decide) ?_
    obtain ⟨e1, e2⟩ := pr_inj hf
    subst e1 e2
    exact m_iret C h dX12_seen_17

set_option maxHeartbeats 4000000 in
set_option maxRecDepth 100000 in
theorem wX12_seenAt_25 (C : MCx p s m args meth c A RX12 cX12_seenAt 3 (some .int) D cs)  {r : Int32} {g' : MS}  : ∀ (g : MS) (y1 : Int32) (y2 : Int32), fX12_seenAt_25 g y1 y2 = some (r, g') → ∀ (H : Heap) (locs : List Loc) (ls : Array Slot), MH D (MW cs ad g) A s H locs → lv_has ls 3 [(0, .ref (ad 48)), (1, .int y1), (2, .int y2)] → W p l e (rM 8) s m args below meth c H locs 0 0 (MQ below (GPost D (some (.int r)) (MW cs ad g') A) args s 0 0 A) (F0 m 25 ls []) := by
  have hx := C.1
  have hb := C.2.1
  intro g y1 y2 hf H locs ls h hl
  unfold fX12_seenAt_25 at hf
  refine lv_aload_n hx hb dX12_seenAt_25 rfl (lv_at hl 0 rfl) ?_
  refine mg_4 C h dX12_seenAt_26 ?_
  refine lv_if_le (tgt := 34) hx hb dX12_seenAt_29 (by decide) (fun hq => ?_) (fun hq => ?_)
  · replace hf := if_t hq hf
    clear hq
    refine lv_aload_n hx hb dX12_seenAt_34 rfl (lv_at hl 0 rfl) ?_
    refine lv_iload_n hx hb dX12_seenAt_35 rfl (lv_at hl 1 rfl) ?_
    replace hf := bndv_some hf
    obtain ⟨g1, hc, hf⟩ := hf
    refine m_callVv [.int y1] C h cv_X12_508 (qX12_laysSeen hc) rfl ⟨rfl, rfl⟩ ⟨Nat.le_of_ble_eq_true rfl, Nat.le_of_ble_eq_true rfl⟩ (m_recv C h) hl.1 rfl (Nat.le_of_ble_eq_true rfl) ⟨Nat.le_refl _, Nat.le_refl _⟩ dX12_seenAt_36 (fun H locs h => ?_)
    clear hc
    refine lv_iload_n hx hb dX12_seenAt_39 rfl (lv_at hl 2 rfl) ?_
    refine lv_aload_n hx hb dX12_seenAt_40 rfl (lv_at hl 0 rfl) ?_
    refine mg_44 C h dX12_seenAt_41 ?_
    refine lv_icmp_ge (tgt := 56) hx hb dX12_seenAt_44 (by decide) (fun hq => ?_) (fun hq => ?_)
    · replace hf := if_t hq hf
      clear hq
      refine lv_iconst (v := (-1 : Int32)) hx hb dX12_seenAt_56 (by decide) ?_
      obtain ⟨e1, e2⟩ := pr_inj hf
      subst e1 e2
      exact m_iret C h dX12_seenAt_57
    · replace hf := if_f hq hf
      clear hq
      refine lv_aload_n hx hb dX12_seenAt_47 rfl (lv_at hl 0 rfl) ?_
      refine mg_42 C h dX12_seenAt_48 ?_
      refine lv_iload_n hx hb dX12_seenAt_51 rfl (lv_at hl 2 rfl) ?_
      replace hf := chk_some hf
      obtain ⟨hq, hf⟩ := hf
      refine ml_42 C h hq dX12_seenAt_52 ?_
      clear hq
      refine lv_goto (tgt := 57) hx hb dX12_seenAt_53 (by decide) ?_
      obtain ⟨e1, e2⟩ := pr_inj hf
      subst e1 e2
      exact m_iret C h dX12_seenAt_57
  · replace hf := if_f hq hf
    clear hq
    refine lv_iconst (v := (0 : Int32)) hx hb dX12_seenAt_32 (by decide) ?_
    obtain ⟨e1, e2⟩ := pr_inj hf
    subst e1 e2
    exact m_iret C h dX12_seenAt_33

set_option maxHeartbeats 4000000 in
set_option maxRecDepth 100000 in
theorem qX12_seenAt {l : Launch} {D : va_G} {cs : Nat → ClassId} {ad : Nat → Nat} {r : Int32} {g' : MS} {g : MS}  {a0 : Int32} {a1 : Int32} (hf : fX12_seenAt g a0 a1 = some (r, g')) : GCon l D cs yX12_seenAt cX12_seenAt 3 (some .int) (rM 8) 0 0 [.ref (ad 48), .int a0, .int a1] (MW cs ad g) (some (.int r)) (MW cs ad g') := by
  refine GCon.of (by decide) (Nat.le_of_ble_eq_true rfl) ?_
  intro p e s m args below meth c A ls H locs C h hl
  have hx := C.1
  have hb := C.2.1
  have C : MCx p s m args meth c A RX12 cX12_seenAt 3 (some .int) D cs := C
  have hl : lv_has ls 3 [(0, .ref (ad 48)), (1, .int a0), (2, .int a1)] := hl
  unfold fX12_seenAt at hf
  refine lv_aload_n hx hb dX12_seenAt_0 rfl (lv_at hl 0 rfl) ?_
  refine lv_aload_n hx hb dX12_seenAt_1 rfl (lv_at hl 0 rfl) ?_
  refine lv_iload_n hx hb dX12_seenAt_2 rfl (lv_at hl 1 rfl) ?_
  replace hf := bndc_some hf
  obtain ⟨x2, g3, hc, hf⟩ := hf
  refine m_callVi [.int a0] C h cv_X12_468 (qX12_lookFault hc) rfl ⟨rfl, rfl⟩ ⟨Nat.le_of_ble_eq_true rfl, Nat.le_of_ble_eq_true rfl⟩ (m_recv C h) hl.1 rfl (Nat.le_of_ble_eq_true rfl) ⟨Nat.le_refl _, Nat.le_refl _⟩ dX12_seenAt_3 (fun H locs h => ?_)
  clear hc
  replace hf := bnd_ex hf
  obtain ⟨g4, eg4, hf⟩ := hf
  refine mp_4 C h dX12_seenAt_6 (fun H locs h => ?_)
  rw [← eg4] at h
  clear eg4
  refine lv_aload_n hx hb dX12_seenAt_9 rfl (lv_at hl 0 rfl) ?_
  refine mg_4 C h dX12_seenAt_10 ?_
  refine lv_if_ne (tgt := 25) hx hb dX12_seenAt_13 (by decide) (fun hq => ?_) (fun hq => ?_)
  · replace hf := if_tn hq hf
    clear hq
    exact wX12_seenAt_25 C g4 a0 a1 hf H locs ls h (lv_sub hl [0, 1, 2] rfl)
  · replace hf := if_t hq hf
    clear hq
    refine lv_iload_n hx hb dX12_seenAt_16 rfl (lv_at hl 2 rfl) ?_
    refine lv_if_ge (tgt := 25) hx hb dX12_seenAt_17 (by decide) (fun hq => ?_) (fun hq => ?_)
    · replace hf := if_t hq hf
      clear hq
      exact wX12_seenAt_25 C g4 a0 a1 hf H locs ls h (lv_sub hl [0, 1, 2] rfl)
    · replace hf := if_f hq hf
      clear hq
      refine lv_aload_n hx hb dX12_seenAt_20 rfl (lv_at hl 0 rfl) ?_
      refine lv_iconst (v := (3 : Int32)) hx hb dX12_seenAt_21 (by decide) ?_
      replace hf := bnd_ex hf
      obtain ⟨g5, eg5, hf⟩ := hf
      refine mp_4 C h dX12_seenAt_22 (fun H locs h => ?_)
      rw [← eg5] at h
      clear eg5
      exact wX12_seenAt_25 C g5 a0 a1 hf H locs ls h (lv_sub hl [0, 1, 2] rfl)

set_option maxHeartbeats 4000000 in
set_option maxRecDepth 100000 in
theorem wX12_mostAlike_60 (C : MCx p s m args meth c A RX12 cX12_mostAlike 6 (some .int) D cs)  {r : Int32} {g' : MS}  {k4 : MS → Int32 → Int32 → Int32 → Option (Int32 × MS)} (hk4 : ∀ (g : MS) (y1 : Int32) (y2 : Int32) (y3 : Int32), k4 g y1 y2 y3 = some (r, g') → ∀ (H : Heap) (locs : List Loc) (ls : Array Slot), MH D (MW cs ad g) A s H locs → lv_has ls 6 [(0, .ref (ad 48)), (1, .int y1), (2, .int y2), (3, .int y3)] → W p l e (rM 1) s m args below meth c H locs 0 0 (MQ below (GPost D (some (.int r)) (MW cs ad g') A) args s 0 0 A) (F0 m 4 ls [])) {k18 : MS → Int32 → Int32 → Int32 → Int32 → Int32 → Option (Int32 × MS)} (hk18 : ∀ (g : MS) (y1 : Int32) (y2 : Int32) (y3 : Int32) (y4 : Int32) (y5 : Int32), k18 g y1 y2 y3 y4 y5 = some (r, g') → ∀ (H : Heap) (locs : List Loc) (ls : Array Slot), MH D (MW cs ad g) A s H locs → lv_has ls 6 [(0, .ref (ad 48)), (1, .int y1), (2, .int y2), (3, .int y3), (4, .int y4), (5, .int y5)] → W p l e (rM 1) s m args below meth c H locs 0 0 (MQ below (GPost D (some (.int r)) (MW cs ad g') A) args s 0 0 A) (F0 m 18 ls [])) : ∀ (g : MS) (y1 : Int32) (y2 : Int32) (y3 : Int32) (y5 : Int32) (t0 : Int32) (t1 : Int32), fX12_mostAlike_60 k4 k18 g y1 y2 y3 y5 t0 t1 = some (r, g') → ∀ (H : Heap) (locs : List Loc) (ls : Array Slot), MH D (MW cs ad g) A s H locs → lv_has ls 6 [(0, .ref (ad 48)), (1, .int y1), (2, .int y2), (3, .int y3), (5, .int y5)] → W p l e (rM 1) s m args below meth c H locs 0 0 (MQ below (GPost D (some (.int r)) (MW cs ad g') A) args s 0 0 A) (F0 m 60 ls [.int t1, .int t0]) := by
  have hx := C.1
  have hb := C.2.1
  intro g y1 y2 y3 y5 t0 t1 hf H locs ls h hl
  unfold fX12_mostAlike_60 at hf
  refine lv_iadd hx hb dX12_mostAlike_60 ?_
  refine lv_topi (fun x1 ex1 => ?_)
  replace hf := bnd_at ex1 hf
  clear ex1
  refine lv_istore (lv' := [(4, .int x1), (0, .ref (ad 48)), (1, .int y1), (2, .int y2), (3, .int y3), (5, .int y5)]) hx hb dX12_mostAlike_61 hl (by decide) rfl (fun ls hl => ?_)
  obtain ⟨x2, ex2⟩ : ∃ z : Int32, z = y5 + (1 : Int32) := ⟨_, rfl⟩
  replace hf := bnd_at ex2 hf
  refine lv_iinc (v := x2) (lv' := [(5, .int x2), (4, .int x1), (0, .ref (ad 48)), (1, .int y1), (2, .int y2), (3, .int y3)]) hx hb dX12_mostAlike_63 hl (k := 5) rfl (by rw [ex2]; rfl) (by decide) rfl (fun ls hl => ?_)
  clear ex2
  refine lv_goto (tgt := 18) hx hb dX12_mostAlike_66 (by decide) ?_
  exact hk18 g y1 y2 y3 x1 x2 hf H locs ls h (lv_sub hl [2, 3, 4, 5, 1, 0] rfl)

set_option maxHeartbeats 4000000 in
set_option maxRecDepth 100000 in
theorem wX12_mostAlike_18 (C : MCx p s m args meth c A RX12 cX12_mostAlike 6 (some .int) D cs)  {r : Int32} {g' : MS}  {k4 : MS → Int32 → Int32 → Int32 → Option (Int32 × MS)} (hk4 : ∀ (g : MS) (y1 : Int32) (y2 : Int32) (y3 : Int32), k4 g y1 y2 y3 = some (r, g') → ∀ (H : Heap) (locs : List Loc) (ls : Array Slot), MH D (MW cs ad g) A s H locs → lv_has ls 6 [(0, .ref (ad 48)), (1, .int y1), (2, .int y2), (3, .int y3)] → W p l e (rM 1) s m args below meth c H locs 0 0 (MQ below (GPost D (some (.int r)) (MW cs ad g') A) args s 0 0 A) (F0 m 4 ls [])) : ∀ (n : Nat) (g : MS) (y1 : Int32) (y2 : Int32) (y3 : Int32) (y4 : Int32) (y5 : Int32), fX12_mostAlike_18 k4 n g y1 y2 y3 y4 y5 = some (r, g') → ∀ (H : Heap) (locs : List Loc) (ls : Array Slot), MH D (MW cs ad g) A s H locs → lv_has ls 6 [(0, .ref (ad 48)), (1, .int y1), (2, .int y2), (3, .int y3), (4, .int y4), (5, .int y5)] → W p l e (rM 1) s m args below meth c H locs 0 0 (MQ below (GPost D (some (.int r)) (MW cs ad g') A) args s 0 0 A) (F0 m 18 ls []) := by
  have hx := C.1
  have hb := C.2.1
  intro n
  induction n with
  | zero =>
    intro g y1 y2 y3 y4 y5 hf
    exact absurd hf (by simp [fX12_mostAlike_18])
  | succ n ih =>
    intro g y1 y2 y3 y4 y5 hf H locs ls h hl
    rw [fX12_mostAlike_18] at hf
    refine lv_iload hx hb dX12_mostAlike_18 (lv_at hl 5 rfl) ?_
    refine lv_aload_n hx hb dX12_mostAlike_20 rfl (lv_at hl 0 rfl) ?_
    refine mg_44 C h dX12_mostAlike_21 ?_
    refine lv_icmp_ge (tgt := 69) hx hb dX12_mostAlike_24 (by decide) (fun hq => ?_) (fun hq => ?_)
    · replace hf := if_t hq hf
      clear hq
      refine lv_iload_n hx hb dX12_mostAlike_69 rfl (lv_at hl 2 rfl) ?_
      refine lv_iload hx hb dX12_mostAlike_70 (lv_at hl 4 rfl) ?_
      refine x_max tb_29_21 C hl.1 (Nat.le_of_ble_eq_true rfl) (Nat.le_of_ble_eq_true rfl) (Nat.le_refl _) (Nat.le_refl _) dX12_mostAlike_72 ?_
      refine lv_topi (fun x3 ex3 => ?_)
      replace hf := bnd_at ex3 hf
      clear ex3
      refine lv_istore_n (lv' := [(2, .int x3), (0, .ref (ad 48)), (1, .int y1), (3, .int y3), (4, .int y4), (5, .int y5)]) hx hb dX12_mostAlike_75 rfl hl (by decide) rfl (fun ls hl => ?_)
      obtain ⟨x4, ex4⟩ : ∃ z : Int32, z = y3 + (1 : Int32) := ⟨_, rfl⟩
      replace hf := bnd_at ex4 hf
      refine lv_iinc (v := x4) (lv' := [(3, .int x4), (2, .int x3), (0, .ref (ad 48)), (1, .int y1), (4, .int y4), (5, .int y5)]) hx hb dX12_mostAlike_76 hl (k := 3) rfl (by rw [ex4]; rfl) (by decide) rfl (fun ls hl => ?_)
      clear ex4
      refine lv_goto (tgt := 4) hx hb dX12_mostAlike_79 (by decide) ?_
      exact hk4 g y1 x3 x4 hf H locs ls h (lv_sub hl [2, 3, 1, 0] rfl)
    · replace hf := if_f hq hf
      clear hq
      refine lv_iload hx hb dX12_mostAlike_27 (lv_at hl 4 rfl) ?_
      refine lv_aload_n hx hb dX12_mostAlike_29 rfl (lv_at hl 0 rfl) ?_
      refine mg_43 C h dX12_mostAlike_30 ?_
      refine lv_bipush (v := (6 : Int32)) hx hb dX12_mostAlike_33 (by decide) ?_
      refine lv_iload hx hb dX12_mostAlike_35 (lv_at hl 5 rfl) ?_
      refine lv_imul hx hb dX12_mostAlike_37 ?_
      refine lv_iload_n hx hb dX12_mostAlike_38 rfl (lv_at hl 1 rfl) ?_
      refine lv_iadd hx hb dX12_mostAlike_39 ?_
      replace hf := chk_some hf
      obtain ⟨hq, hf⟩ := hf
      refine ml_43 C h hq dX12_mostAlike_40 ?_
      clear hq
      refine lv_aload_n hx hb dX12_mostAlike_41 rfl (lv_at hl 0 rfl) ?_
      refine mg_43 C h dX12_mostAlike_42 ?_
      refine lv_bipush (v := (6 : Int32)) hx hb dX12_mostAlike_45 (by decide) ?_
      refine lv_iload_n hx hb dX12_mostAlike_47 rfl (lv_at hl 3 rfl) ?_
      refine lv_imul hx hb dX12_mostAlike_48 ?_
      refine lv_iload_n hx hb dX12_mostAlike_49 rfl (lv_at hl 1 rfl) ?_
      refine lv_iadd hx hb dX12_mostAlike_50 ?_
      replace hf := chk_some hf
      obtain ⟨hq, hf⟩ := hf
      refine ml_43 C h hq dX12_mostAlike_51 ?_
      clear hq
      refine lv_icmp_ne (tgt := 59) hx hb dX12_mostAlike_52 (by decide) (fun hq => ?_) (fun hq => ?_)
      · replace hf := if_tn hq hf
        clear hq
        refine lv_iconst (v := (0 : Int32)) hx hb dX12_mostAlike_59 (by decide) ?_
        exact wX12_mostAlike_60 C hk4 ih g y1 y2 y3 y5 y4 (0 : Int32) hf H locs ls h (lv_sub hl [0, 1, 2, 3, 5] rfl)
      · replace hf := if_t hq hf
        clear hq
        refine lv_iconst (v := (1 : Int32)) hx hb dX12_mostAlike_55 (by decide) ?_
        refine lv_goto (tgt := 60) hx hb dX12_mostAlike_56 (by decide) ?_
        exact wX12_mostAlike_60 C hk4 ih g y1 y2 y3 y5 y4 (1 : Int32) hf H locs ls h (lv_sub hl [0, 1, 2, 3, 5] rfl)

set_option maxHeartbeats 4000000 in
set_option maxRecDepth 100000 in
theorem wX12_mostAlike_4 (C : MCx p s m args meth c A RX12 cX12_mostAlike 6 (some .int) D cs)  {r : Int32} {g' : MS}  : ∀ (n : Nat) (g : MS) (y1 : Int32) (y2 : Int32) (y3 : Int32), fX12_mostAlike_4 n g y1 y2 y3 = some (r, g') → ∀ (H : Heap) (locs : List Loc) (ls : Array Slot), MH D (MW cs ad g) A s H locs → lv_has ls 6 [(0, .ref (ad 48)), (1, .int y1), (2, .int y2), (3, .int y3)] → W p l e (rM 1) s m args below meth c H locs 0 0 (MQ below (GPost D (some (.int r)) (MW cs ad g') A) args s 0 0 A) (F0 m 4 ls []) := by
  have hx := C.1
  have hb := C.2.1
  intro n
  induction n with
  | zero =>
    intro g y1 y2 y3 hf
    exact absurd hf (by simp [fX12_mostAlike_4])
  | succ n ih =>
    intro g y1 y2 y3 hf H locs ls h hl
    rw [fX12_mostAlike_4] at hf
    refine lv_iload_n hx hb dX12_mostAlike_4 rfl (lv_at hl 3 rfl) ?_
    refine lv_aload_n hx hb dX12_mostAlike_5 rfl (lv_at hl 0 rfl) ?_
    refine mg_44 C h dX12_mostAlike_6 ?_
    refine lv_icmp_ge (tgt := 82) hx hb dX12_mostAlike_9 (by decide) (fun hq => ?_) (fun hq => ?_)
    · replace hf := if_t hq hf
      clear hq
      refine lv_iload_n hx hb dX12_mostAlike_82 rfl (lv_at hl 2 rfl) ?_
      obtain ⟨e1, e2⟩ := pr_inj hf
      subst e1 e2
      exact m_iret C h dX12_mostAlike_83
    · replace hf := if_f hq hf
      clear hq
      refine lv_iconst (v := (0 : Int32)) hx hb dX12_mostAlike_12 (by decide) ?_
      refine lv_istore (lv' := [(4, .int (0 : Int32)), (0, .ref (ad 48)), (1, .int y1), (2, .int y2), (3, .int y3)]) hx hb dX12_mostAlike_13 hl (by decide) rfl (fun ls hl => ?_)
      refine lv_iconst (v := (0 : Int32)) hx hb dX12_mostAlike_15 (by decide) ?_
      refine lv_istore (lv' := [(5, .int (0 : Int32)), (4, .int (0 : Int32)), (0, .ref (ad 48)), (1, .int y1), (2, .int y2), (3, .int y3)]) hx hb dX12_mostAlike_16 hl (by decide) rfl (fun ls hl => ?_)
      exact wX12_mostAlike_18 C ih fuel g y1 y2 y3 (0 : Int32) (0 : Int32) hf H locs ls h (lv_sub hl [2, 3, 4, 5, 1, 0] rfl)

set_option maxHeartbeats 4000000 in
set_option maxRecDepth 100000 in
theorem qX12_mostAlike {l : Launch} {D : va_G} {cs : Nat → ClassId} {ad : Nat → Nat} {r : Int32} {g' : MS} {g : MS}  {a0 : Int32} (hf : fX12_mostAlike g a0 = some (r, g')) : GCon l D cs yX12_mostAlike cX12_mostAlike 6 (some .int) (rM 1) 0 0 [.ref (ad 48), .int a0] (MW cs ad g) (some (.int r)) (MW cs ad g') := by
  refine GCon.of (by decide) (Nat.le_of_ble_eq_true rfl) ?_
  intro p e s m args below meth c A ls H locs C h hl
  have hx := C.1
  have hb := C.2.1
  have C : MCx p s m args meth c A RX12 cX12_mostAlike 6 (some .int) D cs := C
  have hl : lv_has ls 6 [(0, .ref (ad 48)), (1, .int a0)] := hl
  unfold fX12_mostAlike at hf
  refine lv_iconst (v := (0 : Int32)) hx hb dX12_mostAlike_0 (by decide) ?_
  refine lv_istore_n (lv' := [(2, .int (0 : Int32)), (0, .ref (ad 48)), (1, .int a0)]) hx hb dX12_mostAlike_1 rfl hl (by decide) rfl (fun ls hl => ?_)
  refine lv_iconst (v := (0 : Int32)) hx hb dX12_mostAlike_2 (by decide) ?_
  refine lv_istore_n (lv' := [(3, .int (0 : Int32)), (2, .int (0 : Int32)), (0, .ref (ad 48)), (1, .int a0)]) hx hb dX12_mostAlike_3 rfl hl (by decide) rfl (fun ls hl => ?_)
  exact wX12_mostAlike_4 C fuel g a0 (0 : Int32) (0 : Int32) hf H locs ls h (lv_sub hl [2, 3, 1, 0] rfl)

set_option maxHeartbeats 4000000 in
set_option maxRecDepth 100000 in
theorem wX12_ask_32 (C : MCx p s m args meth c A RX12 cX12_ask 5 (some .int) D cs)  {r : Int32} {g' : MS}  : ∀ (n : Nat) (g : MS) (y1 : Int32) (y2 : Int32) (y3 : Int32) (y4 : Int32), fX12_ask_32 n g y1 y2 y3 y4 = some (r, g') → ∀ (H : Heap) (locs : List Loc) (ls : Array Slot), MH D (MW cs ad g) A s H locs → lv_has ls 5 [(0, .ref (ad 48)), (1, .int y1), (2, .int y2), (3, .int y3), (4, .int y4)] → W p l e (rM 8) s m args below meth c H locs 0 0 (MQ below (GPost D (some (.int r)) (MW cs ad g') A) args s 0 0 A) (F0 m 32 ls []) := by
  have hx := C.1
  have hb := C.2.1
  intro n
  induction n with
  | zero =>
    intro g y1 y2 y3 y4 hf
    exact absurd hf (by simp [fX12_ask_32])
  | succ n ih =>
    intro g y1 y2 y3 y4 hf H locs ls h hl
    rw [fX12_ask_32] at hf
    refine lv_iload hx hb dX12_ask_32 (lv_at hl 4 rfl) ?_
    refine lv_aload_n hx hb dX12_ask_34 rfl (lv_at hl 0 rfl) ?_
    replace hf := bndc_some hf
    obtain ⟨x1, g2, hc, hf⟩ := hf
    refine m_callVi [] C h cv_X12_254 (qX12_size hc) rfl ⟨rfl, rfl⟩ ⟨Nat.le_of_ble_eq_true rfl, Nat.le_of_ble_eq_true rfl⟩ (m_recv C h) hl.1 rfl (Nat.le_of_ble_eq_true rfl) ⟨Nat.le_refl _, Nat.le_refl _⟩ dX12_ask_35 (fun H locs h => ?_)
    clear hc
    refine lv_icmp_ge (tgt := 96) hx hb dX12_ask_38 (by decide) (fun hq => ?_) (fun hq => ?_)
    · replace hf := if_t hq hf
      clear hq
      refine lv_iload_n hx hb dX12_ask_96 rfl (lv_at hl 2 rfl) ?_
      obtain ⟨e1, e2⟩ := pr_inj hf
      subst e1 e2
      exact m_iret C h dX12_ask_97
    · replace hf := if_f hq hf
      clear hq
      refine lv_aload_n hx hb dX12_ask_41 rfl (lv_at hl 0 rfl) ?_
      refine mg_44 C h dX12_ask_42 ?_
      refine lv_if_le (tgt := 96) hx hb dX12_ask_45 (by decide) (fun hq => ?_) (fun hq => ?_)
      · replace hf := if_t hq hf
        clear hq
        refine lv_iload_n hx hb dX12_ask_96 rfl (lv_at hl 2 rfl) ?_
        obtain ⟨e1, e2⟩ := pr_inj hf
        subst e1 e2
        exact m_iret C h dX12_ask_97
      · replace hf := if_f hq hf
        clear hq
        refine lv_aload_n hx hb dX12_ask_48 rfl (lv_at hl 0 rfl) ?_
        refine mg_47 C h dX12_ask_49 ?_
        refine lv_bipush (v := (30 : Int32)) hx hb dX12_ask_52 (by decide) ?_
        refine lv_iload_n hx hb dX12_ask_54 rfl (lv_at hl 1 rfl) ?_
        refine lv_imul hx hb dX12_ask_55 ?_
        refine lv_iload hx hb dX12_ask_56 (lv_at hl 4 rfl) ?_
        refine lv_iadd hx hb dX12_ask_58 ?_
        replace hf := chk_some hf
        obtain ⟨hq, hf⟩ := hf
        refine ml_47 C h hq dX12_ask_59 ?_
        clear hq
        refine lv_ldc2 hx hb C.2.2.2.1 (C.2.2.2.2.1 _ tb_40_21) dX12_ask_60 ?_
        refine W.lcmp hx hb dX12_ask_63 ?_
        refine lv_if_ne (tgt := 90) hx hb dX12_ask_64 (by decide) (fun hq => ?_) (fun hq => ?_)
        · replace hf := if_tn hq hf
          clear hq
          obtain ⟨x3, ex3⟩ : ∃ z : Int32, z = y4 + (1 : Int32) := ⟨_, rfl⟩
          replace hf := bnd_at ex3 hf
          refine lv_iinc (v := x3) (lv' := [(4, .int x3), (0, .ref (ad 48)), (1, .int y1), (2, .int y2), (3, .int y3)]) hx hb dX12_ask_90 hl (k := 4) rfl (by rw [ex3]; rfl) (by decide) rfl (fun ls hl => ?_)
          clear ex3
          refine lv_goto (tgt := 32) hx hb dX12_ask_93 (by decide) ?_
          exact ih g2 y1 y2 y3 x3 hf H locs ls h (lv_sub hl [1, 2, 3, 4, 0] rfl)
        · replace hf := if_t hq hf
          clear hq
          refine lv_aload_n hx hb dX12_ask_67 rfl (lv_at hl 0 rfl) ?_
          refine lv_iload hx hb dX12_ask_68 (lv_at hl 4 rfl) ?_
          replace hf := bndc_some hf
          obtain ⟨x4, g5, hc, hf⟩ := hf
          refine m_callVi [.int y4] C h cv_X12_511 (qX12_mostAlike hc) rfl ⟨rfl, rfl⟩ ⟨Nat.le_of_ble_eq_true rfl, Nat.le_of_ble_eq_true rfl⟩ (m_recv C h) hl.1 rfl (Nat.le_of_ble_eq_true rfl) ⟨Nat.le_refl _, Nat.le_refl _⟩ dX12_ask_70 (fun H locs h => ?_)
          clear hc
          refine lv_iload_n hx hb dX12_ask_73 rfl (lv_at hl 3 rfl) ?_
          refine lv_icmp_lt (tgt := 80) hx hb dX12_ask_74 (by decide) (fun hq => ?_) (fun hq => ?_)
          · replace hf := if_t hq hf
            clear hq
            refine lv_iload hx hb dX12_ask_80 (lv_at hl 4 rfl) ?_
            refine lv_istore_n (lv' := [(2, .int y4), (0, .ref (ad 48)), (1, .int y1), (3, .int y3), (4, .int y4)]) hx hb dX12_ask_82 rfl hl (by decide) rfl (fun ls hl => ?_)
            refine lv_aload_n hx hb dX12_ask_83 rfl (lv_at hl 1 rfl) ?_
            refine lv_iload hx hb dX12_ask_84 (lv_at hl 4 rfl) ?_
            replace hf := bndc_some hf
            obtain ⟨x6, g7, hc, hf⟩ := hf
            refine m_callVi [.int y4] C h cv_X12_511 (qX12_mostAlike hc) rfl ⟨rfl, rfl⟩ ⟨Nat.le_of_ble_eq_true rfl, Nat.le_of_ble_eq_true rfl⟩ (m_recv C h) hl.1 rfl (Nat.le_of_ble_eq_true rfl) ⟨Nat.le_refl _, Nat.le_refl _⟩ dX12_ask_86 (fun H locs h => ?_)
            clear hc
            refine lv_istore_n (lv' := [(3, .int x6), (2, .int y4), (0, .ref (ad 48)), (1, .int y1), (4, .int y4)]) hx hb dX12_ask_89 rfl hl (by decide) rfl (fun ls hl => ?_)
            obtain ⟨x8, ex8⟩ : ∃ z : Int32, z = y4 + (1 : Int32) := ⟨_, rfl⟩
            replace hf := bnd_at ex8 hf
            refine lv_iinc (v := x8) (lv' := [(4, .int x8), (3, .int x6), (2, .int y4), (0, .ref (ad 48)), (1, .int y1)]) hx hb dX12_ask_90 hl (k := 4) rfl (by rw [ex8]; rfl) (by decide) rfl (fun ls hl => ?_)
            clear ex8
            refine lv_goto (tgt := 32) hx hb dX12_ask_93 (by decide) ?_
            exact ih g7 y1 y4 x6 x8 hf H locs ls h (lv_sub hl [3, 4, 2, 1, 0] rfl)
          · replace hf := if_f hq hf
            clear hq
            refine lv_goto (tgt := 90) hx hb dX12_ask_77 (by decide) ?_
            obtain ⟨x9, ex9⟩ : ∃ z : Int32, z = y4 + (1 : Int32) := ⟨_, rfl⟩
            replace hf := bnd_at ex9 hf
            refine lv_iinc (v := x9) (lv' := [(4, .int x9), (0, .ref (ad 48)), (1, .int y1), (2, .int y2), (3, .int y3)]) hx hb dX12_ask_90 hl (k := 4) rfl (by rw [ex9]; rfl) (by decide) rfl (fun ls hl => ?_)
            clear ex9
            refine lv_goto (tgt := 32) hx hb dX12_ask_93 (by decide) ?_
            exact ih g5 y1 y2 y3 x9 hf H locs ls h (lv_sub hl [1, 2, 3, 4, 0] rfl)

set_option maxHeartbeats 4000000 in
set_option maxRecDepth 100000 in
theorem qX12_ask {l : Launch} {D : va_G} {cs : Nat → ClassId} {ad : Nat → Nat} {r : Int32} {g' : MS} {g : MS}  {a0 : Int32} (hf : fX12_ask g a0 = some (r, g')) : GCon l D cs yX12_ask cX12_ask 5 (some .int) (rM 8) 0 0 [.ref (ad 48), .int a0] (MW cs ad g) (some (.int r)) (MW cs ad g') := by
  refine GCon.of (by decide) (Nat.le_of_ble_eq_true rfl) ?_
  intro p e s m args below meth c A ls H locs C h hl
  have hx := C.1
  have hb := C.2.1
  have C : MCx p s m args meth c A RX12 cX12_ask 5 (some .int) D cs := C
  have hl : lv_has ls 5 [(0, .ref (ad 48)), (1, .int a0)] := hl
  unfold fX12_ask at hf
  refine lv_aload_n hx hb dX12_ask_0 rfl (lv_at hl 0 rfl) ?_
  refine lv_aload_n hx hb dX12_ask_1 rfl (lv_at hl 0 rfl) ?_
  refine lv_iload_n hx hb dX12_ask_2 rfl (lv_at hl 1 rfl) ?_
  replace hf := bndc_some hf
  obtain ⟨x10, g11, hc, hf⟩ := hf
  refine m_callVi [.int a0] C h cv_X12_468 (qX12_lookFault hc) rfl ⟨rfl, rfl⟩ ⟨Nat.le_of_ble_eq_true rfl, Nat.le_of_ble_eq_true rfl⟩ (m_recv C h) hl.1 rfl (Nat.le_of_ble_eq_true rfl) ⟨Nat.le_refl _, Nat.le_refl _⟩ dX12_ask_3 (fun H locs h => ?_)
  clear hc
  replace hf := bnd_ex hf
  obtain ⟨g12, eg12, hf⟩ := hf
  refine mp_4 C h dX12_ask_6 (fun H locs h => ?_)
  rw [← eg12] at h
  clear eg12
  refine lv_aload_n hx hb dX12_ask_9 rfl (lv_at hl 0 rfl) ?_
  refine mg_4 C h dX12_ask_10 ?_
  refine lv_if_le (tgt := 18) hx hb dX12_ask_13 (by decide) (fun hq => ?_) (fun hq => ?_)
  · replace hf := if_t hq hf
    clear hq
    refine lv_aload_n hx hb dX12_ask_18 rfl (lv_at hl 0 rfl) ?_
    refine lv_iload_n hx hb dX12_ask_19 rfl (lv_at hl 1 rfl) ?_
    replace hf := bndv_some hf
    obtain ⟨g13, hc, hf⟩ := hf
    refine m_callVv [.int a0] C h cv_X12_508 (qX12_laysSeen hc) rfl ⟨rfl, rfl⟩ ⟨Nat.le_of_ble_eq_true rfl, Nat.le_of_ble_eq_true rfl⟩ (m_recv C h) hl.1 rfl (Nat.le_of_ble_eq_true rfl) ⟨Nat.le_refl _, Nat.le_refl _⟩ dX12_ask_20 (fun H locs h => ?_)
    clear hc
    refine lv_iconst (v := (-1 : Int32)) hx hb dX12_ask_23 (by decide) ?_
    refine lv_istore_n (lv' := [(2, .int (-1 : Int32)), (0, .ref (ad 48)), (1, .int a0)]) hx hb dX12_ask_24 rfl hl (by decide) rfl (fun ls hl => ?_)
    refine lv_ldcw hx hb C.2.2.2.1 (C.2.2.2.2.1 _ tb_47_5) dX12_ask_25 ?_
    refine lv_istore_n (lv' := [(3, .int (536870912 : Int32)), (2, .int (-1 : Int32)), (0, .ref (ad 48)), (1, .int a0)]) hx hb dX12_ask_28 rfl hl (by decide) rfl (fun ls hl => ?_)
    refine lv_iconst (v := (0 : Int32)) hx hb dX12_ask_29 (by decide) ?_
    refine lv_istore (lv' := [(4, .int (0 : Int32)), (3, .int (536870912 : Int32)), (2, .int (-1 : Int32)), (0, .ref (ad 48)), (1, .int a0)]) hx hb dX12_ask_30 hl (by decide) rfl (fun ls hl => ?_)
    exact wX12_ask_32 C fuel g13 a0 (-1 : Int32) (536870912 : Int32) (0 : Int32) hf H locs ls h (lv_sub hl [3, 4, 2, 1, 0] rfl)
  · replace hf := if_f hq hf
    clear hq
    refine lv_iconst (v := (0 : Int32)) hx hb dX12_ask_16 (by decide) ?_
    obtain ⟨e1, e2⟩ := pr_inj hf
    subst e1 e2
    exact m_iret C h dX12_ask_17

set_option maxHeartbeats 4000000 in
set_option maxRecDepth 100000 in
theorem wX12_loose_26 (C : MCx p s m args meth c A RX12 cX12_loose 3 (some .int) D cs)  {r : Int32} {g' : MS}  {k4 : MS → Int32 → Int32 → Option (Int32 × MS)} (hk4 : ∀ (g : MS) (y1 : Int32) (y2 : Int32), k4 g y1 y2 = some (r, g') → ∀ (H : Heap) (locs : List Loc) (ls : Array Slot), MH D (MW cs ad g) A s H locs → lv_has ls 3 [(0, .ref (ad 48)), (1, .int y1), (2, .int y2)] → W p l e (rM 2) s m args below meth c H locs 0 0 (MQ below (GPost D (some (.int r)) (MW cs ad g') A) args s 0 0 A) (F0 m 4 ls [])) : ∀ (g : MS) (y2 : Int32) (t0 : Int32) (t1 : Int32), fX12_loose_26 k4 g y2 t0 t1 = some (r, g') → ∀ (H : Heap) (locs : List Loc) (ls : Array Slot), MH D (MW cs ad g) A s H locs → lv_has ls 3 [(0, .ref (ad 48)), (2, .int y2)] → W p l e (rM 2) s m args below meth c H locs 0 0 (MQ below (GPost D (some (.int r)) (MW cs ad g') A) args s 0 0 A) (F0 m 26 ls [.int t1, .int t0]) := by
  have hx := C.1
  have hb := C.2.1
  intro g y2 t0 t1 hf H locs ls h hl
  unfold fX12_loose_26 at hf
  refine lv_iadd hx hb dX12_loose_26 ?_
  refine lv_topi (fun x1 ex1 => ?_)
  replace hf := bnd_at ex1 hf
  clear ex1
  refine lv_istore_n (lv' := [(1, .int x1), (0, .ref (ad 48)), (2, .int y2)]) hx hb dX12_loose_27 rfl hl (by decide) rfl (fun ls hl => ?_)
  obtain ⟨x2, ex2⟩ : ∃ z : Int32, z = y2 + (1 : Int32) := ⟨_, rfl⟩
  replace hf := bnd_at ex2 hf
  refine lv_iinc (v := x2) (lv' := [(2, .int x2), (1, .int x1), (0, .ref (ad 48))]) hx hb dX12_loose_28 hl (k := 2) rfl (by rw [ex2]; rfl) (by decide) rfl (fun ls hl => ?_)
  clear ex2
  refine lv_goto (tgt := 4) hx hb dX12_loose_31 (by decide) ?_
  exact hk4 g x1 x2 hf H locs ls h (lv_sub hl [2, 1, 0] rfl)

set_option maxHeartbeats 4000000 in
set_option maxRecDepth 100000 in
theorem wX12_loose_4 (C : MCx p s m args meth c A RX12 cX12_loose 3 (some .int) D cs)  {r : Int32} {g' : MS}  : ∀ (n : Nat) (g : MS) (y1 : Int32) (y2 : Int32), fX12_loose_4 n g y1 y2 = some (r, g') → ∀ (H : Heap) (locs : List Loc) (ls : Array Slot), MH D (MW cs ad g) A s H locs → lv_has ls 3 [(0, .ref (ad 48)), (1, .int y1), (2, .int y2)] → W p l e (rM 2) s m args below meth c H locs 0 0 (MQ below (GPost D (some (.int r)) (MW cs ad g') A) args s 0 0 A) (F0 m 4 ls []) := by
  have hx := C.1
  have hb := C.2.1
  intro n
  induction n with
  | zero =>
    intro g y1 y2 hf
    exact absurd hf (by simp [fX12_loose_4])
  | succ n ih =>
    intro g y1 y2 hf H locs ls h hl
    rw [fX12_loose_4] at hf
    refine lv_iload_n hx hb dX12_loose_4 rfl (lv_at hl 2 rfl) ?_
    refine lv_aload_n hx hb dX12_loose_5 rfl (lv_at hl 0 rfl) ?_
    replace hf := bndc_some hf
    obtain ⟨x3, g4, hc, hf⟩ := hf
    refine m_callVi [] C h cv_X12_254 (qX12_size hc) rfl ⟨rfl, rfl⟩ ⟨Nat.le_of_ble_eq_true rfl, Nat.le_of_ble_eq_true rfl⟩ (m_recv C h) hl.1 rfl (Nat.le_of_ble_eq_true rfl) ⟨Nat.le_refl _, Nat.le_refl _⟩ dX12_loose_6 (fun H locs h => ?_)
    clear hc
    refine lv_icmp_ge (tgt := 34) hx hb dX12_loose_9 (by decide) (fun hq => ?_) (fun hq => ?_)
    · replace hf := if_t hq hf
      clear hq
      refine lv_iload_n hx hb dX12_loose_34 rfl (lv_at hl 1 rfl) ?_
      obtain ⟨e1, e2⟩ := pr_inj hf
      subst e1 e2
      exact m_iret C h dX12_loose_35
    · replace hf := if_f hq hf
      clear hq
      refine lv_iload_n hx hb dX12_loose_12 rfl (lv_at hl 1 rfl) ?_
      refine lv_aload_n hx hb dX12_loose_13 rfl (lv_at hl 0 rfl) ?_
      refine lv_iload_n hx hb dX12_loose_14 rfl (lv_at hl 2 rfl) ?_
      replace hf := bndc_some hf
      obtain ⟨x5, g6, hc, hf⟩ := hf
      refine m_callVi [.int y2] C h cv_X12_287 (qX12_isStuck hc) rfl ⟨rfl, rfl⟩ ⟨Nat.le_of_ble_eq_true rfl, Nat.le_of_ble_eq_true rfl⟩ (m_recv C h) hl.1 rfl (Nat.le_of_ble_eq_true rfl) ⟨Nat.le_refl _, Nat.le_refl _⟩ dX12_loose_15 (fun H locs h => ?_)
      clear hc
      refine lv_if_eq (tgt := 25) hx hb dX12_loose_18 (by decide) (fun hq => ?_) (fun hq => ?_)
      · replace hf := if_t hq hf
        clear hq
        refine lv_iconst (v := (1 : Int32)) hx hb dX12_loose_25 (by decide) ?_
        exact wX12_loose_26 C ih g6 y2 y1 (1 : Int32) hf H locs ls h (lv_sub hl [0, 2] rfl)
      · replace hf := if_f hq hf
        clear hq
        refine lv_iconst (v := (0 : Int32)) hx hb dX12_loose_21 (by decide) ?_
        refine lv_goto (tgt := 26) hx hb dX12_loose_22 (by decide) ?_
        exact wX12_loose_26 C ih g6 y2 y1 (0 : Int32) hf H locs ls h (lv_sub hl [0, 2] rfl)

set_option maxHeartbeats 4000000 in
set_option maxRecDepth 100000 in
theorem qX12_loose {l : Launch} {D : va_G} {cs : Nat → ClassId} {ad : Nat → Nat} {r : Int32} {g' : MS} {g : MS}  (hf : fX12_loose g = some (r, g')) : GCon l D cs yX12_loose cX12_loose 3 (some .int) (rM 2) 0 0 [.ref (ad 48)] (MW cs ad g) (some (.int r)) (MW cs ad g') := by
  refine GCon.of (by decide) (Nat.le_of_ble_eq_true rfl) ?_
  intro p e s m args below meth c A ls H locs C h hl
  have hx := C.1
  have hb := C.2.1
  have C : MCx p s m args meth c A RX12 cX12_loose 3 (some .int) D cs := C
  have hl : lv_has ls 3 [(0, .ref (ad 48))] := hl
  unfold fX12_loose at hf
  refine lv_iconst (v := (0 : Int32)) hx hb dX12_loose_0 (by decide) ?_
  refine lv_istore_n (lv' := [(1, .int (0 : Int32)), (0, .ref (ad 48))]) hx hb dX12_loose_1 rfl hl (by decide) rfl (fun ls hl => ?_)
  refine lv_iconst (v := (0 : Int32)) hx hb dX12_loose_2 (by decide) ?_
  refine lv_istore_n (lv' := [(2, .int (0 : Int32)), (1, .int (0 : Int32)), (0, .ref (ad 48))]) hx hb dX12_loose_3 rfl hl (by decide) rfl (fun ls hl => ?_)
  exact wX12_loose_4 C fuel g (0 : Int32) (0 : Int32) hf H locs ls h (lv_sub hl [2, 1, 0] rfl)
end
