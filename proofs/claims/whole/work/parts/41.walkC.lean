section
variable {p : Program} {l : Launch} {e : Env} {s : State} {m : MethodId} {args : Array Value} {below : List Frame} {meth : Method} {c : Code} {D : va_G} {cs : Nat → ClassId} {ad al adK adV : Nat → Nat} {P : PL} {A : Nat → Prop}
set_option maxHeartbeats 4000000 in
set_option maxRecDepth 100000 in
theorem wX1_kneesIn_4 (C : MCx p s m args meth c A RX1 cX1_kneesIn 5 (some .int) D cs)  {r : Int32}  : ∀ (n : Nat) (y0 : Int32) (y1 : Int32) (y2 : Int32) (y3 : Int32), fX1_kneesIn_4 n y0 y1 y2 y3 = some r → ∀ (H : Heap) (locs : List Loc) (ls : Array Slot), MH D [] A s H locs → lv_has ls 5 [(0, .int y0), (1, .int y1), (2, .int y2), (3, .int y3)] → W p l e (rM 1) s m args below meth c H locs 0 0 (MQ below (GPost D (some (.int r)) [] A) args s 0 0 A) (F0 m 4 ls []) := by
  have hx := C.1
  have hb := C.2.1
  intro n
  induction n with
  | zero =>
    intro y0 y1 y2 y3 hf
    exact absurd hf (by simp [fX1_kneesIn_4])
  | succ n ih =>
    intro y0 y1 y2 y3 hf H locs ls h hl
    rw [fX1_kneesIn_4] at hf
    refine lv_iload_n hx hb dX1_kneesIn_4 rfl (lv_at hl 3 rfl) ?_
    refine lv_iload_n hx hb dX1_kneesIn_5 rfl (lv_at hl 1 rfl) ?_
    refine lv_icmp_ge (tgt := 53) hx hb dX1_kneesIn_6 (by decide) (fun hq => ?_) (fun hq => ?_)
    · replace hf := if_t hq hf
      clear hq
      refine lv_iload_n hx hb dX1_kneesIn_53 rfl (lv_at hl 2 rfl) ?_
      have e1 := Option.some.inj hf
      subst e1
      exact m_iret C h dX1_kneesIn_54
    · replace hf := if_f hq hf
      clear hq
      refine lv_iload_n hx hb dX1_kneesIn_9 rfl (lv_at hl 0 rfl) ?_
      refine lv_iload_n hx hb dX1_kneesIn_10 rfl (lv_at hl 3 rfl) ?_
      replace hf := bndv_some hf
      obtain ⟨x1, hc, hf⟩ := hf
      refine m_callSi [.int y0, .int y3] C h cs_X1_13 (qX1_at hc) rfl ⟨rfl, rfl⟩ ⟨Nat.le_of_ble_eq_true rfl, Nat.le_of_ble_eq_true rfl⟩ hl.1 rfl (Nat.le_of_ble_eq_true rfl) ⟨Nat.le_refl _, Nat.le_refl _⟩ dX1_kneesIn_11 (fun H locs h => ?_)
      clear hc
      refine lv_istore (lv' := [(4, .int x1), (0, .int y0), (1, .int y1), (2, .int y2), (3, .int y3)]) hx hb dX1_kneesIn_14 hl (by decide) rfl (fun ls hl => ?_)
      refine lv_iload hx hb dX1_kneesIn_16 (lv_at hl 0 rfl) ?_
      refine lv_if_eq (tgt := 47) hx hb dX1_kneesIn_18 (by decide) (fun hq => ?_) (fun hq => ?_)
      · replace hf := if_t hq hf
        clear hq
        obtain ⟨x2, ex2⟩ : ∃ z : Int32, z = y3 + (1 : Int32) := ⟨_, rfl⟩
        replace hf := bnd_at ex2 hf
        refine lv_iinc (v := x2) (lv' := [(3, .int x2), (4, .int x1), (0, .int y0), (1, .int y1), (2, .int y2)]) hx hb dX1_kneesIn_47 hl (k := 4) rfl (by rw [ex2]; rfl) (by decide) rfl (fun ls hl => ?_)
        clear ex2
        refine lv_goto (tgt := 4) hx hb dX1_kneesIn_50 (by decide) ?_
        exact ih y0 y1 y2 x2 hf H locs ls h (lv_sub hl [2, 3, 4, 0] rfl)
      · replace hf := if_f hq hf
        clear hq
        refine lv_iload_n hx hb dX1_kneesIn_21 rfl (lv_at hl 4 rfl) ?_
        refine lv_iload hx hb dX1_kneesIn_22 (lv_at hl 0 rfl) ?_
        refine lv_iadd hx hb dX1_kneesIn_24 ?_
        refine lv_iload_n hx hb dX1_kneesIn_25 rfl (lv_at hl 2 rfl) ?_
        refine lv_icmp_ge (tgt := 47) hx hb dX1_kneesIn_26 (by decide) (fun hq => ?_) (fun hq => ?_)
        · replace hf := if_t hq hf
          clear hq
          obtain ⟨x3, ex3⟩ : ∃ z : Int32, z = y3 + (1 : Int32) := ⟨_, rfl⟩
          replace hf := bnd_at ex3 hf
          refine lv_iinc (v := x3) (lv' := [(3, .int x3), (4, .int x1), (0, .int y0), (1, .int y1), (2, .int y2)]) hx hb dX1_kneesIn_47 hl (k := 4) rfl (by rw [ex3]; rfl) (by decide) rfl (fun ls hl => ?_)
          clear ex3
          refine lv_goto (tgt := 4) hx hb dX1_kneesIn_50 (by decide) ?_
          exact ih y0 y1 y2 x3 hf H locs ls h (lv_sub hl [2, 3, 4, 0] rfl)
        · replace hf := if_f hq hf
          clear hq
          refine lv_iload_n hx hb dX1_kneesIn_29 rfl (lv_at hl 1 rfl) ?_
          refine lv_iload_n hx hb dX1_kneesIn_30 rfl (lv_at hl 4 rfl) ?_
          refine lv_iload hx hb dX1_kneesIn_31 (lv_at hl 0 rfl) ?_
          refine lv_iadd hx hb dX1_kneesIn_33 ?_
          replace hf := bndv_some hf
          obtain ⟨x4, hc, hf⟩ := hf
          refine m_callSi [.int y0, .int (y3 + x1)] C h cs_X1_13 (qX1_at hc) rfl ⟨rfl, rfl⟩ ⟨Nat.le_of_ble_eq_true rfl, Nat.le_of_ble_eq_true rfl⟩ hl.1 rfl (Nat.le_of_ble_eq_true rfl) ⟨Nat.le_refl _, Nat.le_refl _⟩ dX1_kneesIn_34 (fun H locs h => ?_)
          clear hc
          refine lv_iload_n hx hb dX1_kneesIn_37 rfl (lv_at hl 2 rfl) ?_
          refine lv_iload hx hb dX1_kneesIn_38 (lv_at hl 0 rfl) ?_
          refine lv_isub hx hb dX1_kneesIn_40 ?_
          refine lv_icmp_ne (tgt := 47) hx hb dX1_kneesIn_41 (by decide) (fun hq => ?_) (fun hq => ?_)
          · replace hf := if_tn hq hf
            clear hq
            obtain ⟨x5, ex5⟩ : ∃ z : Int32, z = y3 + (1 : Int32) := ⟨_, rfl⟩
            replace hf := bnd_at ex5 hf
            refine lv_iinc (v := x5) (lv' := [(3, .int x5), (4, .int x1), (0, .int y0), (1, .int y1), (2, .int y2)]) hx hb dX1_kneesIn_47 hl (k := 4) rfl (by rw [ex5]; rfl) (by decide) rfl (fun ls hl => ?_)
            clear ex5
            refine lv_goto (tgt := 4) hx hb dX1_kneesIn_50 (by decide) ?_
            exact ih y0 y1 y2 x5 hf H locs ls h (lv_sub hl [2, 3, 4, 0] rfl)
          · replace hf := if_t hq hf
            clear hq
            obtain ⟨x6, ex6⟩ : ∃ z : Int32, z = y2 + (1 : Int32) := ⟨_, rfl⟩
            replace hf := bnd_at ex6 hf
            refine lv_iinc (v := x6) (lv' := [(2, .int x6), (4, .int x1), (0, .int y0), (1, .int y1), (3, .int y3)]) hx hb dX1_kneesIn_44 hl (k := 3) rfl (by rw [ex6]; rfl) (by decide) rfl (fun ls hl => ?_)
            clear ex6
            obtain ⟨x7, ex7⟩ : ∃ z : Int32, z = y3 + (1 : Int32) := ⟨_, rfl⟩
            replace hf := bnd_at ex7 hf
            refine lv_iinc (v := x7) (lv' := [(3, .int x7), (2, .int x6), (4, .int x1), (0, .int y0), (1, .int y1)]) hx hb dX1_kneesIn_47 hl (k := 4) rfl (by rw [ex7]; rfl) (by decide) rfl (fun ls hl => ?_)
            clear ex7
            refine lv_goto (tgt := 4) hx hb dX1_kneesIn_50 (by decide) ?_
            exact ih y0 y1 x6 x7 hf H locs ls h (lv_sub hl [3, 4, 1, 0] rfl)

set_option maxHeartbeats 4000000 in
set_option maxRecDepth 100000 in
theorem qX1_kneesIn {l : Launch} {D : va_G} {cs : Nat → ClassId} {r : Int32}  {a0 : Int32} {a1 : Int32} (hf : fX1_kneesIn a0 a1 = some r) : GCon l D cs yX1_kneesIn cX1_kneesIn 5 (some .int) (rM 1) 0 0 [.int a0, .int a1] [] (some (.int r)) [] := by
  refine GCon.of (by decide) (Nat.le_of_ble_eq_true rfl) ?_
  intro p e s m args below meth c A ls H locs C h hl
  have hx := C.1
  have hb := C.2.1
  have C : MCx p s m args meth c A RX1 cX1_kneesIn 5 (some .int) D cs := C
  have hl : lv_has ls 5 [(0, .int a0), (1, .int a1)] := hl
  unfold fX1_kneesIn at hf
  refine lv_iconst (v := (0 : Int32)) hx hb dX1_kneesIn_0 (by decide) ?_
  refine lv_istore_n (lv' := [(2, .int (0 : Int32)), (0, .int a0), (1, .int a1)]) hx hb dX1_kneesIn_1 rfl hl (by decide) rfl (fun ls hl => ?_)
  refine lv_iconst (v := (0 : Int32)) hx hb dX1_kneesIn_2 (by decide) ?_
  refine lv_istore_n (lv' := [(3, .int (0 : Int32)), (2, .int (0 : Int32)), (0, .int a0), (1, .int a1)]) hx hb dX1_kneesIn_3 rfl hl (by decide) rfl (fun ls hl => ?_)
  exact wX1_kneesIn_4 C fuel a0 a1 (0 : Int32) (0 : Int32) hf H locs ls h (lv_sub hl [2, 3, 1, 0] rfl)

set_option maxHeartbeats 4000000 in
set_option maxRecDepth 100000 in
theorem wX2_begin_40 (C : MCx p s m args meth c A RX2 cX2_begin 2 none D cs)  {g' : CS}  : ∀ (g : CS) (t1 : Int32), fX2_begin_40 P g t1 = some g' → ∀ (H : Heap) (locs : List Loc) (ls : Array Slot), MH D (SW cs ad al P g) A s H locs → lv_has ls 2 [(0, .ref (ad 6))] → W p l e (rM 0) s m args below meth c H locs 0 0 (MQ below (GPost D none (SW cs ad al P g') A) args s 0 0 A) (F0 m 40 ls [.int t1, .ref (ad 6)]) := by
  have hx := C.1
  have hb := C.2.1
  intro g t1 hf H locs ls h hl
  unfold fX2_begin_40 at hf
  replace hf := chk_some hf
  obtain ⟨hq, hf⟩ := hf
  replace hf := bnd_ex hf
  obtain ⟨g1, eg1, hf⟩ := hf
  refine xp_X2_10 C h hq tb_15_22 dX2_begin_40 (fun H locs h => ?_)
  rw [← eg1] at h
  clear eg1 hq
  refine lv_aload_n hx hb dX2_begin_43 rfl (lv_at hl 0 rfl) ?_
  refine lv_aload_n hx hb dX2_begin_44 rfl (lv_at hl 0 rfl) ?_
  refine xg_X2 10 C h (by decide) tb_15_22 rfl rfl dX2_begin_45 ?_
  refine lv_if_eq (tgt := 55) hx hb dX2_begin_48 (by decide) (fun hq => ?_) (fun hq => ?_)
  · replace hf := if_t hq hf
    clear hq
    refine lv_iconst (v := (0 : Int32)) hx hb dX2_begin_55 (by decide) ?_
    replace hf := bnd_ex hf
    obtain ⟨g2, eg2, hf⟩ := hf
    refine xp_X2_6 C h tb_15_23 dX2_begin_56 (fun H locs h => ?_)
    rw [← eg2] at h
    clear eg2
    have e1 := Option.some.inj hf
    subst e1
    exact m_vret C h dX2_begin_59
  · replace hf := if_f hq hf
    clear hq
    refine lv_iconst (v := (1 : Int32)) hx hb dX2_begin_51 (by decide) ?_
    refine lv_goto (tgt := 56) hx hb dX2_begin_52 (by decide) ?_
    replace hf := bnd_ex hf
    obtain ⟨g3, eg3, hf⟩ := hf
    refine xp_X2_6 C h tb_15_23 dX2_begin_56 (fun H locs h => ?_)
    rw [← eg3] at h
    clear eg3
    have e1 := Option.some.inj hf
    subst e1
    exact m_vret C h dX2_begin_59

set_option maxHeartbeats 4000000 in
set_option maxRecDepth 100000 in
theorem qX2_begin {l : Launch} {D : va_G} {cs : Nat → ClassId} {ad al : Nat → Nat} {P : PL} {g' : CS} {g : CS}  {a0 : Int32} (hf : fX2_begin P g a0 = some g') : GCon l D cs yX2_begin cX2_begin 2 none (rM 0) 0 0 [.ref (ad 6), .int a0] (SW cs ad al P g) none (SW cs ad al P g') := by
  refine GCon.of (by decide) (Nat.le_of_ble_eq_true rfl) ?_
  intro p e s m args below meth c A ls H locs C h hl
  have hx := C.1
  have hb := C.2.1
  have C : MCx p s m args meth c A RX2 cX2_begin 2 none D cs := C
  have hl : lv_has ls 2 [(0, .ref (ad 6)), (1, .int a0)] := hl
  unfold fX2_begin at hf
  refine lv_aload_n hx hb dX2_begin_0 rfl (lv_at hl 0 rfl) ?_
  refine lv_iload_n hx hb dX2_begin_1 rfl (lv_at hl 1 rfl) ?_
  replace hf := bnd_ex hf
  obtain ⟨g4, eg4, hf⟩ := hf
  refine xp_X2_5 C h tb_15_16 dX2_begin_2 (fun H locs h => ?_)
  rw [← eg4] at h
  clear eg4
  refine lv_aload_n hx hb dX2_begin_5 rfl (lv_at hl 0 rfl) ?_
  refine lv_iconst (v := (0 : Int32)) hx hb dX2_begin_6 (by decide) ?_
  replace hf := bnd_ex hf
  obtain ⟨g5, eg5, hf⟩ := hf
  refine xp_X2_1 C h tb_15_17 dX2_begin_7 (fun H locs h => ?_)
  rw [← eg5] at h
  clear eg5
  refine lv_aload_n hx hb dX2_begin_10 rfl (lv_at hl 0 rfl) ?_
  refine lv_iconst (v := (0 : Int32)) hx hb dX2_begin_11 (by decide) ?_
  replace hf := bnd_ex hf
  obtain ⟨g6, eg6, hf⟩ := hf
  refine xp_X2_4 C h tb_15_18 dX2_begin_12 (fun H locs h => ?_)
  rw [← eg6] at h
  clear eg6
  refine lv_aload_n hx hb dX2_begin_15 rfl (lv_at hl 0 rfl) ?_
  refine lv_iconst (v := (0 : Int32)) hx hb dX2_begin_16 (by decide) ?_
  replace hf := bnd_ex hf
  obtain ⟨g7, eg7, hf⟩ := hf
  refine xp_X2_7 C h tb_15_19 dX2_begin_17 (fun H locs h => ?_)
  rw [← eg7] at h
  clear eg7
  refine lv_aload_n hx hb dX2_begin_20 rfl (lv_at hl 0 rfl) ?_
  refine lv_iconst (v := (0 : Int32)) hx hb dX2_begin_21 (by decide) ?_
  replace hf := bnd_ex hf
  obtain ⟨g8, eg8, hf⟩ := hf
  refine xp_X2_8 C h tb_15_20 dX2_begin_22 (fun H locs h => ?_)
  rw [← eg8] at h
  clear eg8
  refine lv_aload_n hx hb dX2_begin_25 rfl (lv_at hl 0 rfl) ?_
  refine lv_iconst (v := (1 : Int32)) hx hb dX2_begin_26 (by decide) ?_
  replace hf := bnd_ex hf
  obtain ⟨g9, eg9, hf⟩ := hf
  refine xp_X2_9 C h rfl tb_15_21 dX2_begin_27 (fun H locs h => ?_)
  rw [← eg9] at h
  clear eg9
  refine lv_aload_n hx hb dX2_begin_30 rfl (lv_at hl 0 rfl) ?_
  refine lv_iload_n hx hb dX2_begin_31 rfl (lv_at hl 1 rfl) ?_
  refine lv_if_ne (tgt := 39) hx hb dX2_begin_32 (by decide) (fun hq => ?_) (fun hq => ?_)
  · replace hf := if_tn hq hf
    clear hq
    refine lv_iconst (v := (0 : Int32)) hx hb dX2_begin_39 (by decide) ?_
    exact wX2_begin_40 (P := P) C g9 (0 : Int32) hf H locs ls h (lv_sub hl [0] rfl)
  · replace hf := if_t hq hf
    clear hq
    refine lv_iconst (v := (1 : Int32)) hx hb dX2_begin_35 (by decide) ?_
    refine lv_goto (tgt := 40) hx hb dX2_begin_36 (by decide) ?_
    exact wX2_begin_40 (P := P) C g9 (1 : Int32) hf H locs ls h (lv_sub hl [0] rfl)

set_option maxHeartbeats 4000000 in
set_option maxRecDepth 100000 in
theorem qX2_isWhole {l : Launch} {D : va_G} {cs : Nat → ClassId} {ad al : Nat → Nat} {P : PL} {r : Int32} {g' : CS} {g : CS}  (hf : fX2_isWhole P g = some (r, g')) : GCon l D cs yX2_isWhole cX2_isWhole 1 (some .boolean) (rM 0) 0 0 [.ref (ad 6)] (SW cs ad al P g) (some (.int r)) (SW cs ad al P g') := by
  refine GCon.of (by decide) (Nat.le_of_ble_eq_true rfl) ?_
  intro p e s m args below meth c A ls H locs C h hl
  have hx := C.1
  have hb := C.2.1
  have C : MCx p s m args meth c A RX2 cX2_isWhole 1 (some .boolean) D cs := C
  have hl : lv_has ls 1 [(0, .ref (ad 6))] := hl
  unfold fX2_isWhole at hf
  refine lv_aload_n hx hb dX2_isWhole_0 rfl (lv_at hl 0 rfl) ?_
  refine xg_X2 9 C h (by decide) tb_15_21 rfl rfl dX2_isWhole_1 ?_
  refine lv_if_ne (tgt := 26) hx hb dX2_isWhole_4 (by decide) (fun hq => ?_) (fun hq => ?_)
  · replace hf := if_tn hq hf
    clear hq
    refine lv_iconst (v := (0 : Int32)) hx hb dX2_isWhole_26 (by decide) ?_
    obtain ⟨e1, e2⟩ := pr_inj hf
    subst e1 e2
    exact m_zret C h rfl dX2_isWhole_27
  · replace hf := if_t hq hf
    clear hq
    refine lv_aload_n hx hb dX2_isWhole_7 rfl (lv_at hl 0 rfl) ?_
    refine xg_X2 8 C h (by decide) tb_15_20 rfl rfl dX2_isWhole_8 ?_
    refine lv_if_ne (tgt := 26) hx hb dX2_isWhole_11 (by decide) (fun hq => ?_) (fun hq => ?_)
    · replace hf := if_tn hq hf
      clear hq
      refine lv_iconst (v := (0 : Int32)) hx hb dX2_isWhole_26 (by decide) ?_
      obtain ⟨e1, e2⟩ := pr_inj hf
      subst e1 e2
      exact m_zret C h rfl dX2_isWhole_27
    · replace hf := if_t hq hf
      clear hq
      refine lv_aload_n hx hb dX2_isWhole_14 rfl (lv_at hl 0 rfl) ?_
      refine xg_X2 6 C h (by decide) tb_15_23 rfl rfl dX2_isWhole_15 ?_
      refine lv_iconst (v := (1 : Int32)) hx hb dX2_isWhole_18 (by decide) ?_
      refine lv_icmp_eq (tgt := 26) hx hb dX2_isWhole_19 (by decide) (fun hq => ?_) (fun hq => ?_)
      · replace hf := if_t hq hf
        clear hq
        refine lv_iconst (v := (0 : Int32)) hx hb dX2_isWhole_26 (by decide) ?_
        obtain ⟨e1, e2⟩ := pr_inj hf
        subst e1 e2
        exact m_zret C h rfl dX2_isWhole_27
      · replace hf := if_f hq hf
        clear hq
        refine lv_iconst (v := (1 : Int32)) hx hb dX2_isWhole_22 (by decide) ?_
        refine lv_goto (tgt := 27) hx hb dX2_isWhole_23 (by decide) ?_
        obtain ⟨e1, e2⟩ := pr_inj hf
        subst e1 e2
        exact m_zret C h rfl dX2_isWhole_27

set_option maxHeartbeats 4000000 in
set_option maxRecDepth 100000 in
theorem qX2_emit {l : Launch} {D : va_G} {cs : Nat → ClassId} {ad al : Nat → Nat} {P : PL} {g' : CS} {g : CS}  {a0 : Int32} (hf : fX2_emit P g a0 = some g') : GCon l D cs yX2_emit cX2_emit 2 none (rM 0) 0 0 [.ref (ad 6), .int a0] (SW cs ad al P g) none (SW cs ad al P g') := by
  refine GCon.of (by decide) (Nat.le_of_ble_eq_true rfl) ?_
  intro p e s m args below meth c A ls H locs C h hl
  have hx := C.1
  have hb := C.2.1
  have C : MCx p s m args meth c A RX2 cX2_emit 2 none D cs := C
  have hl : lv_has ls 2 [(0, .ref (ad 6)), (1, .int a0)] := hl
  unfold fX2_emit at hf
  refine lv_aload_n hx hb dX2_emit_0 rfl (lv_at hl 0 rfl) ?_
  refine xg_X2 1 C h (by decide) tb_15_17 rfl rfl dX2_emit_1 ?_
  refine lv_sipush (v := (900 : Int32)) hx hb dX2_emit_4 (by decide) ?_
  refine lv_icmp_ge (tgt := 30) hx hb dX2_emit_7 (by decide) (fun hq => ?_) (fun hq => ?_)
  · replace hf := if_t hq hf
    clear hq
    have e1 := Option.some.inj hf
    subst e1
    exact m_vret C h dX2_emit_30
  · replace hf := if_f hq hf
    clear hq
    refine lv_aload_n hx hb dX2_emit_10 rfl (lv_at hl 0 rfl) ?_
    refine xg_X2 0 C h (by decide) tb_4_2 rfl rfl dX2_emit_11 ?_
    refine lv_aload_n hx hb dX2_emit_14 rfl (lv_at hl 0 rfl) ?_
    refine xg_X2 1 C h (by decide) tb_15_17 rfl rfl dX2_emit_15 ?_
    refine lv_iload_n hx hb dX2_emit_18 rfl (lv_at hl 1 rfl) ?_
    replace hf := chk_some hf
    obtain ⟨hq, hf⟩ := hf
    replace hf := bnd_ex hf
    obtain ⟨g1, eg1, hf⟩ := hf
    refine ys_7 C h hq dX2_emit_19 (fun H locs h => ?_)
    rw [← eg1] at h
    clear hq eg1
    refine lv_aload_n hx hb dX2_emit_20 rfl (lv_at hl 0 rfl) ?_
    refine lv_dup hx hb dX2_emit_21 rfl ?_
    refine xg_X2 1 C h (by decide) tb_15_17 rfl rfl dX2_emit_22 ?_
    refine lv_iconst (v := (1 : Int32)) hx hb dX2_emit_25 (by decide) ?_
    refine lv_iadd hx hb dX2_emit_26 ?_
    replace hf := bnd_ex hf
    obtain ⟨g2, eg2, hf⟩ := hf
    refine xp_X2_1 C h tb_15_17 dX2_emit_27 (fun H locs h => ?_)
    rw [← eg2] at h
    clear eg2
    have e1 := Option.some.inj hf
    subst e1
    exact m_vret C h dX2_emit_30

set_option maxHeartbeats 4000000 in
set_option maxRecDepth 100000 in
theorem qX8_signAt {l : Launch} {D : va_G} {cs : Nat → ClassId} {ad al : Nat → Nat} {P : PL} {r : Int32} {g' : CS} {g : CS}  {a0 : Int32} (hf : fX8_signAt P g a0 = some (r, g')) : GCon l D cs yX8_signAt cX8_signAt 2 (some .int) (rM 0) 0 0 [.ref (ad 5), .int a0] (SW cs ad al P g) (some (.int r)) (SW cs ad al P g') := by
  refine GCon.of (by decide) (Nat.le_of_ble_eq_true rfl) ?_
  intro p e s m args below meth c A ls H locs C h hl
  have hx := C.1
  have hb := C.2.1
  have C : MCx p s m args meth c A RX8 cX8_signAt 2 (some .int) D cs := C
  have hl : lv_has ls 2 [(0, .ref (ad 5)), (1, .int a0)] := hl
  unfold fX8_signAt at hf
  refine lv_iload_n hx hb dX8_signAt_0 rfl (lv_at hl 1 rfl) ?_
  refine lv_if_lt (tgt := 25) hx hb dX8_signAt_1 (by decide) (fun hq => ?_) (fun hq => ?_)
  · replace hf := if_t hq hf
    clear hq
    refine lv_iconst (v := (-1 : Int32)) hx hb dX8_signAt_25 (by decide) ?_
    obtain ⟨e1, e2⟩ := pr_inj hf
    subst e1 e2
    exact m_iret C h dX8_signAt_26
  · replace hf := if_f hq hf
    clear hq
    refine lv_iload_n hx hb dX8_signAt_4 rfl (lv_at hl 1 rfl) ?_
    refine lv_aload_n hx hb dX8_signAt_5 rfl (lv_at hl 0 rfl) ?_
    refine xg_X8 1 C h (by decide) tb_10_4 rfl rfl dX8_signAt_6 ?_
    refine lv_icmp_ge (tgt := 25) hx hb dX8_signAt_9 (by decide) (fun hq => ?_) (fun hq => ?_)
    · replace hf := if_t hq hf
      clear hq
      refine lv_iconst (v := (-1 : Int32)) hx hb dX8_signAt_25 (by decide) ?_
      obtain ⟨e1, e2⟩ := pr_inj hf
      subst e1 e2
      exact m_iret C h dX8_signAt_26
    · replace hf := if_f hq hf
      clear hq
      refine lv_aload_n hx hb dX8_signAt_12 rfl (lv_at hl 0 rfl) ?_
      refine xg_X8 0 C h (by decide) tb_3_22 rfl rfl dX8_signAt_13 ?_
      refine lv_iload_n hx hb dX8_signAt_16 rfl (lv_at hl 1 rfl) ?_
      replace hf := chk_some hf
      obtain ⟨hq, hf⟩ := hf
      refine yl_1 C h hq dX8_signAt_17 ?_
      clear hq
      refine lv_sipush (v := (255 : Int32)) hx hb dX8_signAt_18 (by decide) ?_
      refine lv_iand hx hb dX8_signAt_21 ?_
      refine lv_goto (tgt := 26) hx hb dX8_signAt_22 (by decide) ?_
      obtain ⟨e1, e2⟩ := pr_inj hf
      subst e1 e2
      exact m_iret C h dX8_signAt_26

set_option maxHeartbeats 4000000 in
set_option maxRecDepth 100000 in
theorem wX8_isWord_28 (C : MCx p s m args meth c A RX8 cX8_isWord 3 (some .boolean) D cs) (hks : KS adK adV A s s.heap)  {r : Int32} {g' : CS}  : ∀ (n : Nat) (g : CS) (y1 : Nat) (y2 : Int32), y1 < nS → fX8_isWord_28 P n g y1 y2 = some (r, g') → ∀ (H : Heap) (locs : List Loc) (ls : Array Slot), MH D (SW cs ad al P g) A s H locs → lv_has ls 3 [(0, .ref (ad 5)), (1, .ref (adK y1)), (2, .int y2)] → W p l e (rM 4) s m args below meth c H locs 0 0 (MQ below (GPost D (some (.int r)) (SW cs ad al P g') A) args s 0 0 A) (F0 m 28 ls []) := by
  have hx := C.1
  have hb := C.2.1
  intro n
  induction n with
  | zero =>
    intro g y1 y2 hn_y1 hf
    exact absurd hf (by simp [fX8_isWord_28])
  | succ n ih =>
    intro g y1 y2 hn_y1 hf H locs ls h hl
    rw [fX8_isWord_28] at hf
    refine lv_iload_n hx hb dX8_isWord_28 rfl (lv_at hl 2 rfl) ?_
    refine lv_aload_n hx hb dX8_isWord_29 rfl (lv_at hl 1 rfl) ?_
    refine m_callVK0 (r := some (.int (nI (tx y1).length))) [] C hks h cv_X8_57 (qJ_length hn_y1) rfl ⟨rfl, rfl⟩ ⟨Nat.le_of_ble_eq_true rfl, Nat.le_of_ble_eq_true rfl⟩ (hks.recv hn_y1 h) hl.1 rfl (Nat.le_of_ble_eq_true rfl) ⟨Nat.le_refl _, Nat.le_refl _⟩ dX8_isWord_30 (fun H locs h => ?_)
    refine lv_icmp_ge (tgt := 62) hx hb dX8_isWord_33 (by decide) (fun hq => ?_) (fun hq => ?_)
    · replace hf := if_t hq hf
      clear hq
      refine lv_iconst (v := (1 : Int32)) hx hb dX8_isWord_62 (by decide) ?_
      obtain ⟨e1, e2⟩ := pr_inj hf
      subst e1 e2
      exact m_zret C h rfl dX8_isWord_63
    · replace hf := if_f hq hf
      clear hq
      refine lv_aload_n hx hb dX8_isWord_36 rfl (lv_at hl 0 rfl) ?_
      refine lv_aload_n hx hb dX8_isWord_37 rfl (lv_at hl 0 rfl) ?_
      refine xg_X8 4 C h (by decide) tb_10_10 rfl rfl dX8_isWord_38 ?_
      refine lv_iload_n hx hb dX8_isWord_41 rfl (lv_at hl 2 rfl) ?_
      refine lv_iadd hx hb dX8_isWord_42 ?_
      replace hf := bndc_some hf
      obtain ⟨x1, g2, hc, hf⟩ := hf
      refine m_callVi [.int ((g.1 5 4) + y2)] C h cv_X8_31 (qX8_signAt hc) rfl ⟨rfl, rfl⟩ ⟨Nat.le_of_ble_eq_true rfl, Nat.le_of_ble_eq_true rfl⟩ (rv_X8 C h) hl.1 rfl (Nat.le_of_ble_eq_true rfl) ⟨Nat.le_refl _, Nat.le_refl _⟩ dX8_isWord_43 (fun H locs h => ?_)
      clear hc
      refine lv_aload_n hx hb dX8_isWord_46 rfl (lv_at hl 1 rfl) ?_
      refine lv_iload_n hx hb dX8_isWord_47 rfl (lv_at hl 2 rfl) ?_
      replace hf := chk_some hf
      obtain ⟨hq, hf⟩ := hf
      refine m_callVK0 (r := some (.int ((tx y1).getD (ix y2) 0))) [.int y2] C hks h cv_X8_62 (qJ_charAt hn_y1 hq) rfl ⟨rfl, rfl⟩ ⟨Nat.le_of_ble_eq_true rfl, Nat.le_of_ble_eq_true rfl⟩ (hks.recv hn_y1 h) hl.1 rfl (Nat.le_of_ble_eq_true rfl) ⟨Nat.le_refl _, Nat.le_refl _⟩ dX8_isWord_48 (fun H locs h => ?_)
      clear hq
      refine lv_icmp_eq (tgt := 56) hx hb dX8_isWord_51 (by decide) (fun hq => ?_) (fun hq => ?_)
      · replace hf := if_t hq hf
        clear hq
        obtain ⟨x3, ex3⟩ : ∃ z : Int32, z = y2 + (1 : Int32) := ⟨_, rfl⟩
        replace hf := bnd_at ex3 hf
        refine lv_iinc (v := x3) (lv' := [(2, .int x3), (0, .ref (ad 5)), (1, .ref (adK y1))]) hx hb dX8_isWord_56 hl (k := 2) rfl (by rw [ex3]; rfl) (by decide) rfl (fun ls hl => ?_)
        clear ex3
        refine lv_goto (tgt := 28) hx hb dX8_isWord_59 (by decide) ?_
        exact ih g2 y1 x3 hn_y1 hf H locs ls h (lv_sub hl [1, 2, 0] rfl)
      · replace hf := if_f hq hf
        clear hq
        refine lv_iconst (v := (0 : Int32)) hx hb dX8_isWord_54 (by decide) ?_
        obtain ⟨e1, e2⟩ := pr_inj hf
        subst e1 e2
        exact m_zret C h rfl dX8_isWord_55

set_option maxHeartbeats 4000000 in
set_option maxRecDepth 100000 in
theorem qX8_isWord {l : Launch} {D : va_G} {cs : Nat → ClassId} {ad al : Nat → Nat} {P : PL} {adK adV : Nat → Nat} {r : Int32} {g' : CS} {g : CS}  {a0 : Nat} (hn_a0 : a0 < nS) (hf : fX8_isWord P g a0 = some (r, g')) : GConK l D cs adK adV yX8_isWord cX8_isWord 3 (some .boolean) (rM 4) 0 0 [.ref (ad 5), .ref (adK a0)] (SW cs ad al P g) (some (.int r)) (SW cs ad al P g') := by
  refine GConK.of (by decide) (Nat.le_of_ble_eq_true rfl) ?_
  intro p e s m args below meth c A ls H locs C hks h hl
  have hx := C.1
  have hb := C.2.1
  have C : MCx p s m args meth c A RX8 cX8_isWord 3 (some .boolean) D cs := C
  have hl : lv_has ls 3 [(0, .ref (ad 5)), (1, .ref (adK a0))] := hl
  unfold fX8_isWord at hf
  refine lv_aload_n hx hb dX8_isWord_0 rfl (lv_at hl 0 rfl) ?_
  refine xg_X8 3 C h (by decide) tb_10_12 rfl rfl dX8_isWord_1 ?_
  refine lv_iconst (v := (1 : Int32)) hx hb dX8_isWord_4 (by decide) ?_
  refine lv_icmp_ne (tgt := 24) hx hb dX8_isWord_5 (by decide) (fun hq => ?_) (fun hq => ?_)
  · replace hf := if_tn hq hf
    clear hq
    refine lv_iconst (v := (0 : Int32)) hx hb dX8_isWord_24 (by decide) ?_
    obtain ⟨e1, e2⟩ := pr_inj hf
    subst e1 e2
    exact m_zret C h rfl dX8_isWord_25
  · replace hf := if_t hq hf
    clear hq
    refine lv_aload_n hx hb dX8_isWord_8 rfl (lv_at hl 0 rfl) ?_
    refine xg_X8 2 C h (by decide) tb_10_5 rfl rfl dX8_isWord_9 ?_
    refine lv_aload_n hx hb dX8_isWord_12 rfl (lv_at hl 0 rfl) ?_
    refine xg_X8 4 C h (by decide) tb_10_10 rfl rfl dX8_isWord_13 ?_
    refine lv_isub hx hb dX8_isWord_16 ?_
    refine lv_aload_n hx hb dX8_isWord_17 rfl (lv_at hl 1 rfl) ?_
    refine m_callVK0 (r := some (.int (nI (tx a0).length))) [] C hks h cv_X8_57 (qJ_length hn_a0) rfl ⟨rfl, rfl⟩ ⟨Nat.le_of_ble_eq_true rfl, Nat.le_of_ble_eq_true rfl⟩ (hks.recv hn_a0 h) hl.1 rfl (Nat.le_of_ble_eq_true rfl) ⟨Nat.le_refl _, Nat.le_refl _⟩ dX8_isWord_18 (fun H locs h => ?_)
    refine lv_icmp_eq (tgt := 26) hx hb dX8_isWord_21 (by decide) (fun hq => ?_) (fun hq => ?_)
    · replace hf := if_t hq hf
      clear hq
      refine lv_iconst (v := (0 : Int32)) hx hb dX8_isWord_26 (by decide) ?_
      refine lv_istore_n (lv' := [(2, .int (0 : Int32)), (0, .ref (ad 5)), (1, .ref (adK a0))]) hx hb dX8_isWord_27 rfl hl (by decide) rfl (fun ls hl => ?_)
      exact wX8_isWord_28 (P := P) C hks fuel g a0 (0 : Int32) hn_a0 hf H locs ls h (lv_sub hl [1, 2, 0] rfl)
    · replace hf := if_f hq hf
      clear hq
      refine lv_iconst (v := (0 : Int32)) hx hb dX8_isWord_24 (by decide) ?_
      obtain ⟨e1, e2⟩ := pr_inj hf
      subst e1 e2
      exact m_zret C h rfl dX8_isWord_25

set_option maxHeartbeats 4000000 in
set_option maxRecDepth 100000 in
theorem wX2_nameOf_75 (C : MCx p s m args meth c A RX2 cX2_nameOf 2 (some .int) D cs) (hks : KS adK adV A s s.heap)  {r : Int32} {g' : CS}  : ∀ (g : CS), fX2_nameOf_75 P g = some (r, g') → ∀ (H : Heap) (locs : List Loc) (ls : Array Slot), MH D (SW cs ad al P g) A s H locs → lv_has ls 2 [(0, .ref (ad 6)), (1, .ref (ad 5))] → W p l e (rM 5) s m args below meth c H locs 0 0 (MQ below (GPost D (some (.int r)) (SW cs ad al P g') A) args s 0 0 A) (F0 m 75 ls []) := by
  have hx := C.1
  have hb := C.2.1
  intro g hf H locs ls h hl
  unfold fX2_nameOf_75 at hf
  refine lv_aload_n hx hb dX2_nameOf_75 rfl (lv_at hl 0 rfl) ?_
  refine xg_X2 5 C h (by decide) tb_15_16 rfl rfl dX2_nameOf_76 ?_
  refine lv_iconst (v := (2 : Int32)) hx hb dX2_nameOf_79 (by decide) ?_
  refine lv_icmp_ne (tgt := 95) hx hb dX2_nameOf_80 (by decide) (fun hq => ?_) (fun hq => ?_)
  · replace hf := if_tn hq hf
    clear hq
    refine lv_iconst (v := (0 : Int32)) hx hb dX2_nameOf_95 (by decide) ?_
    obtain ⟨e1, e2⟩ := pr_inj hf
    subst e1 e2
    exact m_iret C h dX2_nameOf_96
  · replace hf := if_t hq hf
    clear hq
    refine lv_aload_n hx hb dX2_nameOf_83 rfl (lv_at hl 1 rfl) ?_
    refine va_ldcS (own := RX2) (index := 121) (tx := "votes") (q := adK 12) hx hb C.2.2.2.1 (hks.2.1 12 (by decide)) dX2_nameOf_84 ?_
    replace hf := bndc_some hf
    obtain ⟨x1, g2, hc, hf⟩ := hf
    refine m_callVKi [.ref (adK 12)] C hks h cv_X2_74 (qX8_isWord (by decide) hc) rfl ⟨rfl, rfl⟩ ⟨Nat.le_of_ble_eq_true rfl, Nat.le_of_ble_eq_true rfl⟩ (rv_X8 C h) hl.1 rfl (Nat.le_of_ble_eq_true rfl) ⟨Nat.le_refl _, Nat.le_refl _⟩ dX2_nameOf_86 (fun H locs h => ?_)
    clear hc
    refine lv_if_eq (tgt := 95) hx hb dX2_nameOf_89 (by decide) (fun hq => ?_) (fun hq => ?_)
    · replace hf := if_t hq hf
      clear hq
      refine lv_iconst (v := (0 : Int32)) hx hb dX2_nameOf_95 (by decide) ?_
      obtain ⟨e1, e2⟩ := pr_inj hf
      subst e1 e2
      exact m_iret C h dX2_nameOf_96
    · replace hf := if_f hq hf
      clear hq
      refine lv_bipush (v := (-4 : Int32)) hx hb dX2_nameOf_92 (by decide) ?_
      obtain ⟨e1, e2⟩ := pr_inj hf
      subst e1 e2
      exact m_iret C h dX2_nameOf_94

set_option maxHeartbeats 4000000 in
set_option maxRecDepth 100000 in
theorem wX2_nameOf_59 (C : MCx p s m args meth c A RX2 cX2_nameOf 2 (some .int) D cs) (hks : KS adK adV A s s.heap)  {r : Int32} {g' : CS}  : ∀ (g : CS), fX2_nameOf_59 P g = some (r, g') → ∀ (H : Heap) (locs : List Loc) (ls : Array Slot), MH D (SW cs ad al P g) A s H locs → lv_has ls 2 [(0, .ref (ad 6)), (1, .ref (ad 5))] → W p l e (rM 5) s m args below meth c H locs 0 0 (MQ below (GPost D (some (.int r)) (SW cs ad al P g') A) args s 0 0 A) (F0 m 59 ls []) := by
  have hx := C.1
  have hb := C.2.1
  intro g hf H locs ls h hl
  unfold fX2_nameOf_59 at hf
  refine lv_aload_n hx hb dX2_nameOf_59 rfl (lv_at hl 0 rfl) ?_
  refine xg_X2 5 C h (by decide) tb_15_16 rfl rfl dX2_nameOf_60 ?_
  refine lv_if_ne (tgt := 75) hx hb dX2_nameOf_63 (by decide) (fun hq => ?_) (fun hq => ?_)
  · replace hf := if_tn hq hf
    clear hq
    exact wX2_nameOf_75 (P := P) C hks g hf H locs ls h (lv_sub hl [0, 1] rfl)
  · replace hf := if_t hq hf
    clear hq
    refine lv_aload_n hx hb dX2_nameOf_66 rfl (lv_at hl 1 rfl) ?_
    refine va_ldcS (own := RX2) (index := 119) (tx := "apart") (q := adK 11) hx hb C.2.2.2.1 (hks.2.1 11 (by decide)) dX2_nameOf_67 ?_
    replace hf := bndc_some hf
    obtain ⟨x3, g4, hc, hf⟩ := hf
    refine m_callVKi [.ref (adK 11)] C hks h cv_X2_74 (qX8_isWord (by decide) hc) rfl ⟨rfl, rfl⟩ ⟨Nat.le_of_ble_eq_true rfl, Nat.le_of_ble_eq_true rfl⟩ (rv_X8 C h) hl.1 rfl (Nat.le_of_ble_eq_true rfl) ⟨Nat.le_refl _, Nat.le_refl _⟩ dX2_nameOf_69 (fun H locs h => ?_)
    clear hc
    refine lv_if_ne (tgt := 92) hx hb dX2_nameOf_72 (by decide) (fun hq => ?_) (fun hq => ?_)
    · replace hf := if_tn hq hf
      clear hq
      refine lv_bipush (v := (-4 : Int32)) hx hb dX2_nameOf_92 (by decide) ?_
      obtain ⟨e1, e2⟩ := pr_inj hf
      subst e1 e2
      exact m_iret C h dX2_nameOf_94
    · replace hf := if_t hq hf
      clear hq
      exact wX2_nameOf_75 (P := P) C hks g4 hf H locs ls h (lv_sub hl [0, 1] rfl)

set_option maxHeartbeats 4000000 in
set_option maxRecDepth 100000 in
theorem wX2_nameOf_39 (C : MCx p s m args meth c A RX2 cX2_nameOf 2 (some .int) D cs) (hks : KS adK adV A s s.heap)  {r : Int32} {g' : CS}  : ∀ (g : CS), fX2_nameOf_39 P g = some (r, g') → ∀ (H : Heap) (locs : List Loc) (ls : Array Slot), MH D (SW cs ad al P g) A s H locs → lv_has ls 2 [(0, .ref (ad 6)), (1, .ref (ad 5))] → W p l e (rM 5) s m args below meth c H locs 0 0 (MQ below (GPost D (some (.int r)) (SW cs ad al P g') A) args s 0 0 A) (F0 m 39 ls []) := by
  have hx := C.1
  have hb := C.2.1
  intro g hf H locs ls h hl
  unfold fX2_nameOf_39 at hf
  refine lv_aload_n hx hb dX2_nameOf_39 rfl (lv_at hl 0 rfl) ?_
  refine xg_X2 5 C h (by decide) tb_15_16 rfl rfl dX2_nameOf_40 ?_
  refine lv_iconst (v := (2 : Int32)) hx hb dX2_nameOf_43 (by decide) ?_
  refine lv_icmp_ne (tgt := 59) hx hb dX2_nameOf_44 (by decide) (fun hq => ?_) (fun hq => ?_)
  · replace hf := if_tn hq hf
    clear hq
    exact wX2_nameOf_59 (P := P) C hks g hf H locs ls h (lv_sub hl [0, 1] rfl)
  · replace hf := if_t hq hf
    clear hq
    refine lv_aload_n hx hb dX2_nameOf_47 rfl (lv_at hl 1 rfl) ?_
    refine va_ldcS (own := RX2) (index := 117) (tx := "aim") (q := adK 10) hx hb C.2.2.2.1 (hks.2.1 10 (by decide)) dX2_nameOf_48 ?_
    replace hf := bndc_some hf
    obtain ⟨x5, g6, hc, hf⟩ := hf
    refine m_callVKi [.ref (adK 10)] C hks h cv_X2_74 (qX8_isWord (by decide) hc) rfl ⟨rfl, rfl⟩ ⟨Nat.le_of_ble_eq_true rfl, Nat.le_of_ble_eq_true rfl⟩ (rv_X8 C h) hl.1 rfl (Nat.le_of_ble_eq_true rfl) ⟨Nat.le_refl _, Nat.le_refl _⟩ dX2_nameOf_50 (fun H locs h => ?_)
    clear hc
    refine lv_if_eq (tgt := 59) hx hb dX2_nameOf_53 (by decide) (fun hq => ?_) (fun hq => ?_)
    · replace hf := if_t hq hf
      clear hq
      exact wX2_nameOf_59 (P := P) C hks g6 hf H locs ls h (lv_sub hl [0, 1] rfl)
    · replace hf := if_f hq hf
      clear hq
      refine lv_bipush (v := (-3 : Int32)) hx hb dX2_nameOf_56 (by decide) ?_
      obtain ⟨e1, e2⟩ := pr_inj hf
      subst e1 e2
      exact m_iret C h dX2_nameOf_58

set_option maxHeartbeats 4000000 in
set_option maxRecDepth 100000 in
theorem qX2_nameOf {l : Launch} {D : va_G} {cs : Nat → ClassId} {ad al : Nat → Nat} {P : PL} {adK adV : Nat → Nat} {r : Int32} {g' : CS} {g : CS}  (hf : fX2_nameOf P g = some (r, g')) : GConK l D cs adK adV yX2_nameOf cX2_nameOf 2 (some .int) (rM 5) 0 0 [.ref (ad 6), .ref (ad 5)] (SW cs ad al P g) (some (.int r)) (SW cs ad al P g') := by
  refine GConK.of (by decide) (Nat.le_of_ble_eq_true rfl) ?_
  intro p e s m args below meth c A ls H locs C hks h hl
  have hx := C.1
  have hb := C.2.1
  have C : MCx p s m args meth c A RX2 cX2_nameOf 2 (some .int) D cs := C
  have hl : lv_has ls 2 [(0, .ref (ad 6)), (1, .ref (ad 5))] := hl
  unfold fX2_nameOf at hf
  refine lv_aload_n hx hb dX2_nameOf_0 rfl (lv_at hl 1 rfl) ?_
  refine va_ldcS (own := RX2) (index := 111) (tx := "who") (q := adK 7) hx hb C.2.2.2.1 (hks.2.1 7 (by decide)) dX2_nameOf_1 ?_
  replace hf := bndc_some hf
  obtain ⟨x7, g8, hc, hf⟩ := hf
  refine m_callVKi [.ref (adK 7)] C hks h cv_X2_74 (qX8_isWord (by decide) hc) rfl ⟨rfl, rfl⟩ ⟨Nat.le_of_ble_eq_true rfl, Nat.le_of_ble_eq_true rfl⟩ (rv_X8 C h) hl.1 rfl (Nat.le_of_ble_eq_true rfl) ⟨Nat.le_refl _, Nat.le_refl _⟩ dX2_nameOf_3 (fun H locs h => ?_)
  clear hc
  refine lv_if_eq (tgt := 11) hx hb dX2_nameOf_6 (by decide) (fun hq => ?_) (fun hq => ?_)
  · replace hf := if_t hq hf
    clear hq
    refine lv_aload_n hx hb dX2_nameOf_11 rfl (lv_at hl 1 rfl) ?_
    refine va_ldcS (own := RX2) (index := 113) (tx := "weight") (q := adK 8) hx hb C.2.2.2.1 (hks.2.1 8 (by decide)) dX2_nameOf_12 ?_
    replace hf := bndc_some hf
    obtain ⟨x9, g10, hc, hf⟩ := hf
    refine m_callVKi [.ref (adK 8)] C hks h cv_X2_74 (qX8_isWord (by decide) hc) rfl ⟨rfl, rfl⟩ ⟨Nat.le_of_ble_eq_true rfl, Nat.le_of_ble_eq_true rfl⟩ (rv_X8 C h) hl.1 rfl (Nat.le_of_ble_eq_true rfl) ⟨Nat.le_refl _, Nat.le_refl _⟩ dX2_nameOf_14 (fun H locs h => ?_)
    clear hc
    refine lv_if_eq (tgt := 23) hx hb dX2_nameOf_17 (by decide) (fun hq => ?_) (fun hq => ?_)
    · replace hf := if_t hq hf
      clear hq
      refine lv_aload_n hx hb dX2_nameOf_23 rfl (lv_at hl 0 rfl) ?_
      refine xg_X2 5 C h (by decide) tb_15_16 rfl rfl dX2_nameOf_24 ?_
      refine lv_if_ne (tgt := 39) hx hb dX2_nameOf_27 (by decide) (fun hq => ?_) (fun hq => ?_)
      · replace hf := if_tn hq hf
        clear hq
        exact wX2_nameOf_39 (P := P) C hks g10 hf H locs ls h (lv_sub hl [0, 1] rfl)
      · replace hf := if_t hq hf
        clear hq
        refine lv_aload_n hx hb dX2_nameOf_30 rfl (lv_at hl 1 rfl) ?_
        refine va_ldcS (own := RX2) (index := 115) (tx := "other") (q := adK 9) hx hb C.2.2.2.1 (hks.2.1 9 (by decide)) dX2_nameOf_31 ?_
        replace hf := bndc_some hf
        obtain ⟨x11, g12, hc, hf⟩ := hf
        refine m_callVKi [.ref (adK 9)] C hks h cv_X2_74 (qX8_isWord (by decide) hc) rfl ⟨rfl, rfl⟩ ⟨Nat.le_of_ble_eq_true rfl, Nat.le_of_ble_eq_true rfl⟩ (rv_X8 C h) hl.1 rfl (Nat.le_of_ble_eq_true rfl) ⟨Nat.le_refl _, Nat.le_refl _⟩ dX2_nameOf_33 (fun H locs h => ?_)
        clear hc
        refine lv_if_ne (tgt := 56) hx hb dX2_nameOf_36 (by decide) (fun hq => ?_) (fun hq => ?_)
        · replace hf := if_tn hq hf
          clear hq
          refine lv_bipush (v := (-3 : Int32)) hx hb dX2_nameOf_56 (by decide) ?_
          obtain ⟨e1, e2⟩ := pr_inj hf
          subst e1 e2
          exact m_iret C h dX2_nameOf_58
        · replace hf := if_t hq hf
          clear hq
          exact wX2_nameOf_39 (P := P) C hks g12 hf H locs ls h (lv_sub hl [0, 1] rfl)
    · replace hf := if_f hq hf
      clear hq
      refine lv_bipush (v := (-2 : Int32)) hx hb dX2_nameOf_20 (by decide) ?_
      obtain ⟨e1, e2⟩ := pr_inj hf
      subst e1 e2
      exact m_iret C h dX2_nameOf_22
  · replace hf := if_f hq hf
    clear hq
    refine lv_iconst (v := (-1 : Int32)) hx hb dX2_nameOf_9 (by decide) ?_
    obtain ⟨e1, e2⟩ := pr_inj hf
    subst e1 e2
    exact m_iret C h dX2_nameOf_10

set_option maxHeartbeats 4000000 in
set_option maxRecDepth 100000 in
theorem qX2_push {l : Launch} {D : va_G} {cs : Nat → ClassId} {ad al : Nat → Nat} {P : PL} {g' : CS} {g : CS}  {a0 : Int32} (hf : fX2_push P g a0 = some g') : GCon l D cs yX2_push cX2_push 2 none (rM 0) 0 0 [.ref (ad 6), .int a0] (SW cs ad al P g) none (SW cs ad al P g') := by
  refine GCon.of (by decide) (Nat.le_of_ble_eq_true rfl) ?_
  intro p e s m args below meth c A ls H locs C h hl
  have hx := C.1
  have hb := C.2.1
  have C : MCx p s m args meth c A RX2 cX2_push 2 none D cs := C
  have hl : lv_has ls 2 [(0, .ref (ad 6)), (1, .int a0)] := hl
  unfold fX2_push at hf
  refine lv_aload_n hx hb dX2_push_0 rfl (lv_at hl 0 rfl) ?_
  refine xg_X2 4 C h (by decide) tb_15_18 rfl rfl dX2_push_1 ?_
  refine lv_bipush (v := (64 : Int32)) hx hb dX2_push_4 (by decide) ?_
  refine lv_icmp_ge (tgt := 42) hx hb dX2_push_6 (by decide) (fun hq => ?_) (fun hq => ?_)
  · replace hf := if_t hq hf
    clear hq
    have e1 := Option.some.inj hf
    subst e1
    exact m_vret C h dX2_push_42
  · replace hf := if_f hq hf
    clear hq
    refine lv_aload_n hx hb dX2_push_9 rfl (lv_at hl 0 rfl) ?_
    refine xg_X2 2 C h (by decide) tb_4_3 rfl rfl dX2_push_10 ?_
    refine lv_aload_n hx hb dX2_push_13 rfl (lv_at hl 0 rfl) ?_
    refine xg_X2 4 C h (by decide) tb_15_18 rfl rfl dX2_push_14 ?_
    refine lv_iload_n hx hb dX2_push_17 rfl (lv_at hl 1 rfl) ?_
    replace hf := chk_some hf
    obtain ⟨hq, hf⟩ := hf
    replace hf := bnd_ex hf
    obtain ⟨g1, eg1, hf⟩ := hf
    refine ys_8 C h hq dX2_push_18 (fun H locs h => ?_)
    rw [← eg1] at h
    clear hq eg1
    refine lv_aload_n hx hb dX2_push_19 rfl (lv_at hl 0 rfl) ?_
    refine xg_X2 3 C h (by decide) tb_4_4 rfl rfl dX2_push_20 ?_
    refine lv_aload_n hx hb dX2_push_23 rfl (lv_at hl 0 rfl) ?_
    refine xg_X2 4 C h (by decide) tb_15_18 rfl rfl dX2_push_24 ?_
    refine lv_aload_n hx hb dX2_push_27 rfl (lv_at hl 0 rfl) ?_
    refine xg_X2 6 C h (by decide) tb_15_23 rfl rfl dX2_push_28 ?_
    replace hf := chk_some hf
    obtain ⟨hq, hf⟩ := hf
    replace hf := bnd_ex hf
    obtain ⟨g2, eg2, hf⟩ := hf
    refine ys_9 C h hq dX2_push_31 (fun H locs h => ?_)
    rw [← eg2] at h
    clear hq eg2
    refine lv_aload_n hx hb dX2_push_32 rfl (lv_at hl 0 rfl) ?_
    refine lv_dup hx hb dX2_push_33 rfl ?_
    refine xg_X2 4 C h (by decide) tb_15_18 rfl rfl dX2_push_34 ?_
    refine lv_iconst (v := (1 : Int32)) hx hb dX2_push_37 (by decide) ?_
    refine lv_iadd hx hb dX2_push_38 ?_
    replace hf := bnd_ex hf
    obtain ⟨g3, eg3, hf⟩ := hf
    refine xp_X2_4 C h tb_15_18 dX2_push_39 (fun H locs h => ?_)
    rw [← eg3] at h
    clear eg3
    have e1 := Option.some.inj hf
    subst e1
    exact m_vret C h dX2_push_42

set_option maxHeartbeats 4000000 in
set_option maxRecDepth 100000 in
theorem wX2_open_42 (C : MCx p s m args meth c A RX2 cX2_open 2 (some .int) D cs)  {r : Int32} {g' : CS}  : ∀ (g : CS) (y1 : Int32), fX2_open_42 P g y1 = some (r, g') → ∀ (H : Heap) (locs : List Loc) (ls : Array Slot), MH D (SW cs ad al P g) A s H locs → lv_has ls 2 [(0, .ref (ad 6)), (1, .int y1)] → W p l e (rM 1) s m args below meth c H locs 0 0 (MQ below (GPost D (some (.int r)) (SW cs ad al P g') A) args s 0 0 A) (F0 m 42 ls []) := by
  have hx := C.1
  have hb := C.2.1
  intro g y1 hf H locs ls h hl
  unfold fX2_open_42 at hf
  refine lv_iload_n hx hb dX2_open_42 rfl (lv_at hl 1 rfl) ?_
  refine lv_bipush (v := (-14 : Int32)) hx hb dX2_open_43 (by decide) ?_
  refine lv_icmp_ne (tgt := 58) hx hb dX2_open_45 (by decide) (fun hq => ?_) (fun hq => ?_)
  · replace hf := if_tn hq hf
    clear hq
    refine lv_iconst (v := (0 : Int32)) hx hb dX2_open_58 (by decide) ?_
    obtain ⟨e1, e2⟩ := pr_inj hf
    subst e1 e2
    exact m_iret C h dX2_open_59
  · replace hf := if_t hq hf
    clear hq
    refine lv_aload_n hx hb dX2_open_48 rfl (lv_at hl 0 rfl) ?_
    refine lv_iconst (v := (0 : Int32)) hx hb dX2_open_49 (by decide) ?_
    replace hf := bnd_ex hf
    obtain ⟨g1, eg1, hf⟩ := hf
    refine xp_X2_6 C h tb_15_23 dX2_open_50 (fun H locs h => ?_)
    rw [← eg1] at h
    clear eg1
    refine lv_aload_n hx hb dX2_open_53 rfl (lv_at hl 0 rfl) ?_
    refine lv_iconst (v := (0 : Int32)) hx hb dX2_open_54 (by decide) ?_
    replace hf := bnd_ex hf
    obtain ⟨g2, eg2, hf⟩ := hf
    refine xp_X2_10 C h rfl tb_15_22 dX2_open_55 (fun H locs h => ?_)
    rw [← eg2] at h
    clear eg2
    refine lv_iconst (v := (0 : Int32)) hx hb dX2_open_58 (by decide) ?_
    obtain ⟨e1, e2⟩ := pr_inj hf
    subst e1 e2
    exact m_iret C h dX2_open_59

set_option maxHeartbeats 4000000 in
set_option maxRecDepth 100000 in
theorem qX2_open {l : Launch} {D : va_G} {cs : Nat → ClassId} {ad al : Nat → Nat} {P : PL} {r : Int32} {g' : CS} {g : CS}  {a0 : Int32} (hf : fX2_open P g a0 = some (r, g')) : GCon l D cs yX2_open cX2_open 2 (some .int) (rM 1) 0 0 [.ref (ad 6), .int a0] (SW cs ad al P g) (some (.int r)) (SW cs ad al P g') := by
  refine GCon.of (by decide) (Nat.le_of_ble_eq_true rfl) ?_
  intro p e s m args below meth c A ls H locs C h hl
  have hx := C.1
  have hb := C.2.1
  have C : MCx p s m args meth c A RX2 cX2_open 2 (some .int) D cs := C
  have hl : lv_has ls 2 [(0, .ref (ad 6)), (1, .int a0)] := hl
  unfold fX2_open at hf
  refine lv_aload_n hx hb dX2_open_0 rfl (lv_at hl 0 rfl) ?_
  refine xg_X2 7 C h (by decide) tb_15_19 rfl rfl dX2_open_1 ?_
  refine lv_bipush (v := (6 : Int32)) hx hb dX2_open_4 (by decide) ?_
  refine lv_icmp_lt (tgt := 11) hx hb dX2_open_6 (by decide) (fun hq => ?_) (fun hq => ?_)
  · replace hf := if_t hq hf
    clear hq
    refine lv_aload_n hx hb dX2_open_11 rfl (lv_at hl 0 rfl) ?_
    refine lv_dup hx hb dX2_open_12 rfl ?_
    refine xg_X2 7 C h (by decide) tb_15_19 rfl rfl dX2_open_13 ?_
    refine lv_iconst (v := (1 : Int32)) hx hb dX2_open_16 (by decide) ?_
    refine lv_iadd hx hb dX2_open_17 ?_
    replace hf := bnd_ex hf
    obtain ⟨g3, eg3, hf⟩ := hf
    refine xp_X2_7 C h tb_15_19 dX2_open_18 (fun H locs h => ?_)
    rw [← eg3] at h
    clear eg3
    refine lv_aload_n hx hb dX2_open_21 rfl (lv_at hl 0 rfl) ?_
    refine lv_iload_n hx hb dX2_open_22 rfl (lv_at hl 1 rfl) ?_
    replace hf := bndv_some hf
    obtain ⟨g4, hc, hf⟩ := hf
    refine m_callVv [.int a0] C h cv_X2_88 (qX2_push hc) rfl ⟨rfl, rfl⟩ ⟨Nat.le_of_ble_eq_true rfl, Nat.le_of_ble_eq_true rfl⟩ (rv_X2 C h) hl.1 rfl (Nat.le_of_ble_eq_true rfl) ⟨Nat.le_refl _, Nat.le_refl _⟩ dX2_open_23 (fun H locs h => ?_)
    clear hc
    refine lv_iload_n hx hb dX2_open_26 rfl (lv_at hl 1 rfl) ?_
    refine lv_bipush (v := (-11 : Int32)) hx hb dX2_open_27 (by decide) ?_
    refine lv_icmp_eq (tgt := 42) hx hb dX2_open_29 (by decide) (fun hq => ?_) (fun hq => ?_)
    · replace hf := if_t hq hf
      clear hq
      exact wX2_open_42 (P := P) C g4 a0 hf H locs ls h (lv_sub hl [0, 1] rfl)
    · replace hf := if_f hq hf
      clear hq
      refine lv_aload_n hx hb dX2_open_32 rfl (lv_at hl 0 rfl) ?_
      refine lv_dup hx hb dX2_open_33 rfl ?_
      refine xg_X2 8 C h (by decide) tb_15_20 rfl rfl dX2_open_34 ?_
      refine lv_iconst (v := (1 : Int32)) hx hb dX2_open_37 (by decide) ?_
      refine lv_iadd hx hb dX2_open_38 ?_
      replace hf := bnd_ex hf
      obtain ⟨g5, eg5, hf⟩ := hf
      refine xp_X2_8 C h tb_15_20 dX2_open_39 (fun H locs h => ?_)
      rw [← eg5] at h
      clear eg5
      exact wX2_open_42 (P := P) C g5 a0 hf H locs ls h (lv_sub hl [0, 1] rfl)
  · replace hf := if_f hq hf
    clear hq
    refine lv_iconst (v := (4 : Int32)) hx hb dX2_open_9 (by decide) ?_
    obtain ⟨e1, e2⟩ := pr_inj hf
    subst e1 e2
    exact m_iret C h dX2_open_10

set_option maxHeartbeats 4000000 in
set_option maxRecDepth 100000 in
theorem qX8_isSignOf {l : Launch} {D : va_G} {cs : Nat → ClassId} {ad al : Nat → Nat} {P : PL} {r : Int32} {g' : CS} {g : CS}  {a0 : Int32} (hf : fX8_isSignOf P g a0 = some (r, g')) : GCon l D cs yX8_isSignOf cX8_isSignOf 2 (some .boolean) (rM 0) 0 0 [.ref (ad 5), .int a0] (SW cs ad al P g) (some (.int r)) (SW cs ad al P g') := by
  refine GCon.of (by decide) (Nat.le_of_ble_eq_true rfl) ?_
  intro p e s m args below meth c A ls H locs C h hl
  have hx := C.1
  have hb := C.2.1
  have C : MCx p s m args meth c A RX8 cX8_isSignOf 2 (some .boolean) D cs := C
  have hl : lv_has ls 2 [(0, .ref (ad 5)), (1, .int a0)] := hl
  unfold fX8_isSignOf at hf
  refine lv_aload_n hx hb dX8_isSignOf_0 rfl (lv_at hl 0 rfl) ?_
  refine xg_X8 3 C h (by decide) tb_10_12 rfl rfl dX8_isSignOf_1 ?_
  refine lv_iconst (v := (3 : Int32)) hx hb dX8_isSignOf_4 (by decide) ?_
  refine lv_icmp_ne (tgt := 20) hx hb dX8_isSignOf_5 (by decide) (fun hq => ?_) (fun hq => ?_)
  · replace hf := if_tn hq hf
    clear hq
    refine lv_iconst (v := (0 : Int32)) hx hb dX8_isSignOf_20 (by decide) ?_
    obtain ⟨e1, e2⟩ := pr_inj hf
    subst e1 e2
    exact m_zret C h rfl dX8_isSignOf_21
  · replace hf := if_t hq hf
    clear hq
    refine lv_aload_n hx hb dX8_isSignOf_8 rfl (lv_at hl 0 rfl) ?_
    refine xg_X8 5 C h (by decide) tb_10_11 rfl rfl dX8_isSignOf_9 ?_
    refine lv_iload_n hx hb dX8_isSignOf_12 rfl (lv_at hl 1 rfl) ?_
    refine lv_icmp_ne (tgt := 20) hx hb dX8_isSignOf_13 (by decide) (fun hq => ?_) (fun hq => ?_)
    · replace hf := if_tn hq hf
      clear hq
      refine lv_iconst (v := (0 : Int32)) hx hb dX8_isSignOf_20 (by decide) ?_
      obtain ⟨e1, e2⟩ := pr_inj hf
      subst e1 e2
      exact m_zret C h rfl dX8_isSignOf_21
    · replace hf := if_t hq hf
      clear hq
      refine lv_iconst (v := (1 : Int32)) hx hb dX8_isSignOf_16 (by decide) ?_
      refine lv_goto (tgt := 21) hx hb dX8_isSignOf_17 (by decide) ?_
      obtain ⟨e1, e2⟩ := pr_inj hf
      subst e1 e2
      exact m_zret C h rfl dX8_isSignOf_21

set_option maxHeartbeats 4000000 in
set_option maxRecDepth 100000 in
theorem wX2_takeOperand_87 (C : MCx p s m args meth c A RX2 cX2_takeOperand 3 (some .int) D cs) (hks : KS adK adV A s s.heap)  {r : Int32} {g' : CS}  : ∀ (g : CS), fX2_takeOperand_87 P g = some (r, g') → ∀ (H : Heap) (locs : List Loc) (ls : Array Slot), MH D (SW cs ad al P g) A s H locs → lv_has ls 3 [(0, .ref (ad 6)), (1, .ref (ad 5))] → W p l e (rM 6) s m args below meth c H locs 0 0 (MQ below (GPost D (some (.int r)) (SW cs ad al P g') A) args s 0 0 A) (F0 m 87 ls []) := by
  have hx := C.1
  have hb := C.2.1
  intro g hf H locs ls h hl
  unfold fX2_takeOperand_87 at hf
  refine lv_aload_n hx hb dX2_takeOperand_87 rfl (lv_at hl 1 rfl) ?_
  refine lv_bipush (v := (40 : Int32)) hx hb dX2_takeOperand_88 (by decide) ?_
  replace hf := bndc_some hf
  obtain ⟨x1, g2, hc, hf⟩ := hf
  refine m_callVi [.int (40 : Int32)] C h cv_X2_84 (qX8_isSignOf hc) rfl ⟨rfl, rfl⟩ ⟨Nat.le_of_ble_eq_true rfl, Nat.le_of_ble_eq_true rfl⟩ (rv_X8 C h) hl.1 rfl (Nat.le_of_ble_eq_true rfl) ⟨Nat.le_refl _, Nat.le_refl _⟩ dX2_takeOperand_90 (fun H locs h => ?_)
  clear hc
  refine lv_if_eq (tgt := 105) hx hb dX2_takeOperand_93 (by decide) (fun hq => ?_) (fun hq => ?_)
  · replace hf := if_t hq hf
    clear hq
    refine lv_iconst (v := (2 : Int32)) hx hb dX2_takeOperand_105 (by decide) ?_
    obtain ⟨e1, e2⟩ := pr_inj hf
    subst e1 e2
    exact m_iret C h dX2_takeOperand_106
  · replace hf := if_f hq hf
    clear hq
    refine lv_aload_n hx hb dX2_takeOperand_96 rfl (lv_at hl 0 rfl) ?_
    refine lv_bipush (v := (-14 : Int32)) hx hb dX2_takeOperand_97 (by decide) ?_
    replace hf := bndc_some hf
    obtain ⟨x3, g4, hc, hf⟩ := hf
    refine m_callVi [.int (-14 : Int32)] C h cv_X2_80 (qX2_open hc) rfl ⟨rfl, rfl⟩ ⟨Nat.le_of_ble_eq_true rfl, Nat.le_of_ble_eq_true rfl⟩ (rv_X2 C h) hl.1 rfl (Nat.le_of_ble_eq_true rfl) ⟨Nat.le_refl _, Nat.le_refl _⟩ dX2_takeOperand_99 (fun H locs h => ?_)
    clear hc
    refine lv_goto (tgt := 106) hx hb dX2_takeOperand_102 (by decide) ?_
    obtain ⟨e1, e2⟩ := pr_inj hf
    subst e1 e2
    exact m_iret C h dX2_takeOperand_106

set_option maxHeartbeats 4000000 in
set_option maxRecDepth 100000 in
theorem wX2_takeOperand_64 (C : MCx p s m args meth c A RX2 cX2_takeOperand 3 (some .int) D cs) (hks : KS adK adV A s s.heap)  {r : Int32} {g' : CS}  : ∀ (g : CS), fX2_takeOperand_64 P g = some (r, g') → ∀ (H : Heap) (locs : List Loc) (ls : Array Slot), MH D (SW cs ad al P g) A s H locs → lv_has ls 3 [(0, .ref (ad 6)), (1, .ref (ad 5))] → W p l e (rM 6) s m args below meth c H locs 0 0 (MQ below (GPost D (some (.int r)) (SW cs ad al P g') A) args s 0 0 A) (F0 m 64 ls []) := by
  have hx := C.1
  have hb := C.2.1
  intro g hf H locs ls h hl
  unfold fX2_takeOperand_64 at hf
  refine lv_aload_n hx hb dX2_takeOperand_64 rfl (lv_at hl 0 rfl) ?_
  refine xg_X2 10 C h (by decide) tb_15_22 rfl rfl dX2_takeOperand_65 ?_
  refine lv_if_eq (tgt := 87) hx hb dX2_takeOperand_68 (by decide) (fun hq => ?_) (fun hq => ?_)
  · replace hf := if_t hq hf
    clear hq
    exact wX2_takeOperand_87 (P := P) C hks g hf H locs ls h (lv_sub hl [0, 1] rfl)
  · replace hf := if_f hq hf
    clear hq
    refine lv_aload_n hx hb dX2_takeOperand_71 rfl (lv_at hl 1 rfl) ?_
    refine lv_bipush (v := (91 : Int32)) hx hb dX2_takeOperand_72 (by decide) ?_
    replace hf := bndc_some hf
    obtain ⟨x5, g6, hc, hf⟩ := hf
    refine m_callVi [.int (91 : Int32)] C h cv_X2_84 (qX8_isSignOf hc) rfl ⟨rfl, rfl⟩ ⟨Nat.le_of_ble_eq_true rfl, Nat.le_of_ble_eq_true rfl⟩ (rv_X8 C h) hl.1 rfl (Nat.le_of_ble_eq_true rfl) ⟨Nat.le_refl _, Nat.le_refl _⟩ dX2_takeOperand_74 (fun H locs h => ?_)
    clear hc
    refine lv_if_eq (tgt := 87) hx hb dX2_takeOperand_77 (by decide) (fun hq => ?_) (fun hq => ?_)
    · replace hf := if_t hq hf
      clear hq
      exact wX2_takeOperand_87 (P := P) C hks g6 hf H locs ls h (lv_sub hl [0, 1] rfl)
    · replace hf := if_f hq hf
      clear hq
      refine lv_aload_n hx hb dX2_takeOperand_80 rfl (lv_at hl 0 rfl) ?_
      refine lv_bipush (v := (-15 : Int32)) hx hb dX2_takeOperand_81 (by decide) ?_
      replace hf := bndc_some hf
      obtain ⟨x7, g8, hc, hf⟩ := hf
      refine m_callVi [.int (-15 : Int32)] C h cv_X2_80 (qX2_open hc) rfl ⟨rfl, rfl⟩ ⟨Nat.le_of_ble_eq_true rfl, Nat.le_of_ble_eq_true rfl⟩ (rv_X2 C h) hl.1 rfl (Nat.le_of_ble_eq_true rfl) ⟨Nat.le_refl _, Nat.le_refl _⟩ dX2_takeOperand_83 (fun H locs h => ?_)
      clear hc
      obtain ⟨e1, e2⟩ := pr_inj hf
      subst e1 e2
      exact m_iret C h dX2_takeOperand_86

set_option maxHeartbeats 4000000 in
set_option maxRecDepth 100000 in
theorem wX2_takeOperand_31 (C : MCx p s m args meth c A RX2 cX2_takeOperand 3 (some .int) D cs) (hks : KS adK adV A s s.heap)  {r : Int32} {g' : CS}  : ∀ (g : CS) (t1 : Int32), fX2_takeOperand_31 P g t1 = some (r, g') → ∀ (H : Heap) (locs : List Loc) (ls : Array Slot), MH D (SW cs ad al P g) A s H locs → lv_has ls 3 [(0, .ref (ad 6))] → W p l e (rM 6) s m args below meth c H locs 0 0 (MQ below (GPost D (some (.int r)) (SW cs ad al P g') A) args s 0 0 A) (F0 m 31 ls [.int t1, .ref (ad 6)]) := by
  have hx := C.1
  have hb := C.2.1
  intro g t1 hf H locs ls h hl
  unfold fX2_takeOperand_31 at hf
  replace hf := bndv_some hf
  obtain ⟨g9, hc, hf⟩ := hf
  refine m_callVv [.int t1] C h cv_X2_69 (qX2_emit hc) rfl ⟨rfl, rfl⟩ ⟨Nat.le_of_ble_eq_true rfl, Nat.le_of_ble_eq_true rfl⟩ (rv_X2 C h) hl.1 rfl (Nat.le_of_ble_eq_true rfl) ⟨Nat.le_refl _, Nat.le_refl _⟩ dX2_takeOperand_31 (fun H locs h => ?_)
  clear hc
  refine lv_aload_n hx hb dX2_takeOperand_34 rfl (lv_at hl 0 rfl) ?_
  refine lv_iconst (v := (0 : Int32)) hx hb dX2_takeOperand_35 (by decide) ?_
  replace hf := bnd_ex hf
  obtain ⟨g10, eg10, hf⟩ := hf
  refine xp_X2_9 C h rfl tb_15_21 dX2_takeOperand_36 (fun H locs h => ?_)
  rw [← eg10] at h
  clear eg10
  refine lv_iconst (v := (0 : Int32)) hx hb dX2_takeOperand_39 (by decide) ?_
  obtain ⟨e1, e2⟩ := pr_inj hf
  subst e1 e2
  exact m_iret C h dX2_takeOperand_40

set_option maxHeartbeats 4000000 in
set_option maxRecDepth 100000 in
theorem wX2_takeOperand_18 (C : MCx p s m args meth c A RX2 cX2_takeOperand 3 (some .int) D cs) (hks : KS adK adV A s s.heap)  {r : Int32} {g' : CS}  : ∀ (g : CS) (y2 : Int32), fX2_takeOperand_18 P g y2 = some (r, g') → ∀ (H : Heap) (locs : List Loc) (ls : Array Slot), MH D (SW cs ad al P g) A s H locs → lv_has ls 3 [(0, .ref (ad 6)), (1, .ref (ad 5)), (2, .int y2)] → W p l e (rM 6) s m args below meth c H locs 0 0 (MQ below (GPost D (some (.int r)) (SW cs ad al P g') A) args s 0 0 A) (F0 m 18 ls []) := by
  have hx := C.1
  have hb := C.2.1
  intro g y2 hf H locs ls h hl
  unfold fX2_takeOperand_18 at hf
  refine lv_aload_n hx hb dX2_takeOperand_18 rfl (lv_at hl 0 rfl) ?_
  refine lv_iload_n hx hb dX2_takeOperand_19 rfl (lv_at hl 2 rfl) ?_
  refine lv_if_eq (tgt := 27) hx hb dX2_takeOperand_20 (by decide) (fun hq => ?_) (fun hq => ?_)
  · replace hf := if_t hq hf
    clear hq
    refine lv_aload_n hx hb dX2_takeOperand_27 rfl (lv_at hl 1 rfl) ?_
    refine xg_X8 5 C h (by decide) tb_16_13 rfl rfl dX2_takeOperand_28 ?_
    exact wX2_takeOperand_31 (P := P) C hks g (g.1 5 5) hf H locs ls h (lv_sub hl [0] rfl)
  · replace hf := if_f hq hf
    clear hq
    refine lv_iload_n hx hb dX2_takeOperand_23 rfl (lv_at hl 2 rfl) ?_
    refine lv_goto (tgt := 31) hx hb dX2_takeOperand_24 (by decide) ?_
    exact wX2_takeOperand_31 (P := P) C hks g y2 hf H locs ls h (lv_sub hl [0] rfl)

set_option maxHeartbeats 4000000 in
set_option maxRecDepth 100000 in
theorem qX2_takeOperand {l : Launch} {D : va_G} {cs : Nat → ClassId} {ad al : Nat → Nat} {P : PL} {adK adV : Nat → Nat} {r : Int32} {g' : CS} {g : CS}  (hf : fX2_takeOperand P g = some (r, g')) : GConK l D cs adK adV yX2_takeOperand cX2_takeOperand 3 (some .int) (rM 6) 0 0 [.ref (ad 6), .ref (ad 5)] (SW cs ad al P g) (some (.int r)) (SW cs ad al P g') := by
  refine GConK.of (by decide) (Nat.le_of_ble_eq_true rfl) ?_
  intro p e s m args below meth c A ls H locs C hks h hl
  have hx := C.1
  have hb := C.2.1
  have C : MCx p s m args meth c A RX2 cX2_takeOperand 3 (some .int) D cs := C
  have hl : lv_has ls 3 [(0, .ref (ad 6)), (1, .ref (ad 5))] := hl
  unfold fX2_takeOperand at hf
  refine lv_aload_n hx hb dX2_takeOperand_0 rfl (lv_at hl 0 rfl) ?_
  refine lv_aload_n hx hb dX2_takeOperand_1 rfl (lv_at hl 1 rfl) ?_
  replace hf := bndc_some hf
  obtain ⟨x11, g12, hc, hf⟩ := hf
  refine m_callVKi [.ref (ad 5)] C hks h cv_X2_57 (qX2_nameOf hc) rfl ⟨rfl, rfl⟩ ⟨Nat.le_of_ble_eq_true rfl, Nat.le_of_ble_eq_true rfl⟩ (rv_X2 C h) hl.1 rfl (Nat.le_of_ble_eq_true rfl) ⟨Nat.le_refl _, Nat.le_refl _⟩ dX2_takeOperand_2 (fun H locs h => ?_)
  clear hc
  refine lv_istore_n (lv' := [(2, .int x11), (0, .ref (ad 6)), (1, .ref (ad 5))]) hx hb dX2_takeOperand_5 rfl hl (by decide) rfl (fun ls hl => ?_)
  refine lv_aload_n hx hb dX2_takeOperand_6 rfl (lv_at hl 2 rfl) ?_
  refine xg_X8 3 C h (by decide) tb_16_12 rfl rfl dX2_takeOperand_7 ?_
  refine lv_iconst (v := (2 : Int32)) hx hb dX2_takeOperand_10 (by decide) ?_
  refine lv_icmp_eq (tgt := 18) hx hb dX2_takeOperand_11 (by decide) (fun hq => ?_) (fun hq => ?_)
  · replace hf := if_t hq hf
    clear hq
    exact wX2_takeOperand_18 (P := P) C hks g12 x11 hf H locs ls h (lv_sub hl [1, 2, 0] rfl)
  · replace hf := if_f hq hf
    clear hq
    refine lv_iload_n hx hb dX2_takeOperand_14 rfl (lv_at hl 0 rfl) ?_
    refine lv_if_eq (tgt := 41) hx hb dX2_takeOperand_15 (by decide) (fun hq => ?_) (fun hq => ?_)
    · replace hf := if_t hq hf
      clear hq
      refine lv_aload_n hx hb dX2_takeOperand_41 rfl (lv_at hl 1 rfl) ?_
      refine xg_X2 10 C h (by decide) tb_15_22 rfl rfl dX2_takeOperand_42 ?_
      refine lv_if_eq (tgt := 64) hx hb dX2_takeOperand_45 (by decide) (fun hq => ?_) (fun hq => ?_)
      · replace hf := if_t hq hf
        clear hq
        exact wX2_takeOperand_64 (P := P) C hks g12 hf H locs ls h (lv_sub hl [1, 2] rfl)
      · replace hf := if_f hq hf
        clear hq
        refine lv_aload_n hx hb dX2_takeOperand_48 rfl (lv_at hl 2 rfl) ?_
        refine va_ldcS (own := RX2) (index := 72) (tx := "not") (q := adK 13) hx hb C.2.2.2.1 (hks.2.1 13 (by decide)) dX2_takeOperand_49 ?_
        replace hf := bndc_some hf
        obtain ⟨x13, g14, hc, hf⟩ := hf
        refine m_callVKi [.ref (adK 13)] C hks h cv_X2_74 (qX8_isWord (by decide) hc) rfl ⟨rfl, rfl⟩ ⟨Nat.le_of_ble_eq_true rfl, Nat.le_of_ble_eq_true rfl⟩ (rv_X8 C h) hl.1 rfl (Nat.le_of_ble_eq_true rfl) ⟨Nat.le_refl _, Nat.le_refl _⟩ dX2_takeOperand_51 (fun H locs h => ?_)
        clear hc
        refine lv_if_eq (tgt := 64) hx hb dX2_takeOperand_54 (by decide) (fun hq => ?_) (fun hq => ?_)
        · replace hf := if_t hq hf
          clear hq
          exact wX2_takeOperand_64 (P := P) C hks g14 hf H locs ls h (lv_sub hl [1, 2] rfl)
        · replace hf := if_f hq hf
          clear hq
          refine lv_aload_n hx hb dX2_takeOperand_57 rfl (lv_at hl 1 rfl) ?_
          refine lv_bipush (v := (-11 : Int32)) hx hb dX2_takeOperand_58 (by decide) ?_
          replace hf := bndc_some hf
          obtain ⟨x15, g16, hc, hf⟩ := hf
          refine m_callVi [.int (-11 : Int32)] C h cv_X2_80 (qX2_open hc) rfl ⟨rfl, rfl⟩ ⟨Nat.le_of_ble_eq_true rfl, Nat.le_of_ble_eq_true rfl⟩ (rv_X2 C h) hl.1 rfl (Nat.le_of_ble_eq_true rfl) ⟨Nat.le_refl _, Nat.le_refl _⟩ dX2_takeOperand_60 (fun H locs h => ?_)
          clear hc
          obtain ⟨e1, e2⟩ := pr_inj hf
          subst e1 e2
          exact m_iret C h dX2_takeOperand_63
    · replace hf := if_f hq hf
      clear hq
      exact wX2_takeOperand_18 (P := P) C hks g12 x11 hf H locs ls h (lv_sub hl [1, 2, 0] rfl)

set_option maxHeartbeats 4000000 in
set_option maxRecDepth 100000 in
theorem qX2_bondOf {l : Launch} {D : va_G} {cs : Nat → ClassId} {r : Int32}  {a0 : Int32} (hf : fX2_bondOf a0 = some r) : GCon l D cs yX2_bondOf cX2_bondOf 1 (some .int) (rM 0) 0 0 [.int a0] [] (some (.int r)) [] := by
  refine GCon.of (by decide) (Nat.le_of_ble_eq_true rfl) ?_
  intro p e s m args below meth c A ls H locs C h hl
  have hx := C.1
  have hb := C.2.1
  have C : MCx p s m args meth c A RX2 cX2_bondOf 1 (some .int) D cs := C
  have hl : lv_has ls 1 [(0, .int a0)] := hl
  unfold fX2_bondOf at hf
  refine lv_iload_n hx hb dX2_bondOf_0 rfl (lv_at hl 0 rfl) ?_
  rcases Decidable.em (a0 = (-13 : Int32)) with hq | qm13
  · replace hf := if_t hq hf
    subst hq
    refine lv_tableIn (off := 51) (tgt := 52) hx hb dX2_bondOf_1 (by decide) (by decide) (by decide) (by decide) ?_
    refine lv_iconst (v := (1 : Int32)) hx hb dX2_bondOf_52 (by decide) ?_
    have e1 := Option.some.inj hf
    subst e1
    exact m_iret C h dX2_bondOf_53
  replace hf := if_f qm13 hf
  rcases Decidable.em (a0 = (-12 : Int32)) with hq | qm12
  · replace hf := if_t hq hf
    subst hq
    refine lv_tableIn (off := 53) (tgt := 54) hx hb dX2_bondOf_1 (by decide) (by decide) (by decide) (by decide) ?_
    refine lv_iconst (v := (2 : Int32)) hx hb dX2_bondOf_54 (by decide) ?_
    have e1 := Option.some.inj hf
    subst e1
    exact m_iret C h dX2_bondOf_55
  replace hf := if_f qm12 hf
  rcases Decidable.em (a0 = (-11 : Int32)) with hq | qm11
  · replace hf := if_t hq hf
    subst hq
    refine lv_tableIn (off := 55) (tgt := 56) hx hb dX2_bondOf_1 (by decide) (by decide) (by decide) (by decide) ?_
    refine lv_iconst (v := (3 : Int32)) hx hb dX2_bondOf_56 (by decide) ?_
    have e1 := Option.some.inj hf
    subst e1
    exact m_iret C h dX2_bondOf_57
  replace hf := if_f qm11 hf
  rcases Decidable.em (a0 = (-10 : Int32)) with hq | qm10
  · replace hf := if_t hq hf
    subst hq
    refine lv_tableIn (off := 57) (tgt := 58) hx hb dX2_bondOf_1 (by decide) (by decide) (by decide) (by decide) ?_
    refine lv_iconst (v := (4 : Int32)) hx hb dX2_bondOf_58 (by decide) ?_
    have e1 := Option.some.inj hf
    subst e1
    exact m_iret C h dX2_bondOf_59
  replace hf := if_f qm10 hf
  rcases Decidable.em (a0 = (-9 : Int32)) with hq | qm9
  · replace hf := if_t hq hf
    subst hq
    refine lv_tableIn (off := 57) (tgt := 58) hx hb dX2_bondOf_1 (by decide) (by decide) (by decide) (by decide) ?_
    refine lv_iconst (v := (4 : Int32)) hx hb dX2_bondOf_58 (by decide) ?_
    have e1 := Option.some.inj hf
    subst e1
    exact m_iret C h dX2_bondOf_59
  replace hf := if_f qm9 hf
  rcases Decidable.em (a0 = (-8 : Int32)) with hq | qm8
  · replace hf := if_t hq hf
    subst hq
    refine lv_tableIn (off := 57) (tgt := 58) hx hb dX2_bondOf_1 (by decide) (by decide) (by decide) (by decide) ?_
    refine lv_iconst (v := (4 : Int32)) hx hb dX2_bondOf_58 (by decide) ?_
    have e1 := Option.some.inj hf
    subst e1
    exact m_iret C h dX2_bondOf_59
  replace hf := if_f qm8 hf
  rcases Decidable.em (a0 = (-7 : Int32)) with hq | qm7
  · replace hf := if_t hq hf
    subst hq
    refine lv_tableIn (off := 61) (tgt := 62) hx hb dX2_bondOf_1 (by decide) (by decide) (by decide) (by decide) ?_
    refine lv_bipush (v := (6 : Int32)) hx hb dX2_bondOf_62 (by decide) ?_
    have e1 := Option.some.inj hf
    subst e1
    exact m_iret C h dX2_bondOf_64
  replace hf := if_f qm7 hf
  rcases Decidable.em (a0 = (-6 : Int32)) with hq | qm6
  · replace hf := if_t hq hf
    subst hq
    refine lv_tableIn (off := 59) (tgt := 60) hx hb dX2_bondOf_1 (by decide) (by decide) (by decide) (by decide) ?_
    refine lv_iconst (v := (5 : Int32)) hx hb dX2_bondOf_60 (by decide) ?_
    have e1 := Option.some.inj hf
    subst e1
    exact m_iret C h dX2_bondOf_61
  replace hf := if_f qm6 hf
  rcases Decidable.em (a0 = (-5 : Int32)) with hq | qm5
  · replace hf := if_t hq hf
    subst hq
    refine lv_tableIn (off := 59) (tgt := 60) hx hb dX2_bondOf_1 (by decide) (by decide) (by decide) (by decide) ?_
    refine lv_iconst (v := (5 : Int32)) hx hb dX2_bondOf_60 (by decide) ?_
    have e1 := Option.some.inj hf
    subst e1
    exact m_iret C h dX2_bondOf_61
  replace hf := if_f qm5 hf
  refine lv_tableOut (tgt := 65) hx hb dX2_bondOf_1 (by
      have zm13 := i32_ne qm13
      have zm12 := i32_ne qm12
      have zm11 := i32_ne qm11
      have zm10 := i32_ne qm10
      have zm9 := i32_ne qm9
      have zm8 := i32_ne qm8
      have zm7 := i32_ne qm7
      have zm6 := i32_ne qm6
      have zm5 := i32_ne qm5
      simp only [i32v_m13, i32v_m12, i32v_m11, i32v_m10, i32v_m9, i32v_m8, i32v_m7, i32v_m6, i32v_m5] at zm13 zm12 zm11 zm10 zm9 zm8 zm7 zm6 zm5
      omega) (by decide) ?_
  refine lv_iconst (v := (0 : Int32)) hx hb dX2_bondOf_65 (by decide) ?_
  have e1 := Option.some.inj hf
  subst e1
  exact m_iret C h dX2_bondOf_66

set_option maxHeartbeats 4000000 in
set_option maxRecDepth 100000 in
theorem wX2_unwind_0 (C : MCx p s m args meth c A RX2 cX2_unwind 2 none D cs)  {g' : CS}  : ∀ (n : Nat) (g : CS) (y1 : Int32), fX2_unwind_0 P n g y1 = some g' → ∀ (H : Heap) (locs : List Loc) (ls : Array Slot), MH D (SW cs ad al P g) A s H locs → lv_has ls 2 [(0, .ref (ad 6)), (1, .int y1)] → W p l e (rM 1) s m args below meth c H locs 0 0 (MQ below (GPost D none (SW cs ad al P g') A) args s 0 0 A) (F0 m 0 ls []) := by
  have hx := C.1
  have hb := C.2.1
  intro n
  induction n with
  | zero =>
    intro g y1 hf
    exact absurd hf (by simp [fX2_unwind_0])
  | succ n ih =>
    intro g y1 hf H locs ls h hl
    rw [fX2_unwind_0] at hf
    refine lv_aload_n hx hb dX2_unwind_0 rfl (lv_at hl 0 rfl) ?_
    refine xg_X2 4 C h (by decide) tb_15_18 rfl rfl dX2_unwind_1 ?_
    refine lv_if_le (tgt := 75) hx hb dX2_unwind_4 (by decide) (fun hq => ?_) (fun hq => ?_)
    · replace hf := if_t hq hf
      clear hq
      have e1 := Option.some.inj hf
      subst e1
      exact m_vret C h dX2_unwind_75
    · replace hf := if_f hq hf
      clear hq
      refine lv_aload_n hx hb dX2_unwind_7 rfl (lv_at hl 0 rfl) ?_
      refine xg_X2 2 C h (by decide) tb_4_3 rfl rfl dX2_unwind_8 ?_
      refine lv_aload_n hx hb dX2_unwind_11 rfl (lv_at hl 0 rfl) ?_
      refine xg_X2 4 C h (by decide) tb_15_18 rfl rfl dX2_unwind_12 ?_
      refine lv_iconst (v := (1 : Int32)) hx hb dX2_unwind_15 (by decide) ?_
      refine lv_isub hx hb dX2_unwind_16 ?_
      replace hf := chk_some hf
      obtain ⟨hq, hf⟩ := hf
      refine yl_8 C h hq dX2_unwind_17 ?_
      clear hq
      replace hf := bndv_some hf
      obtain ⟨x1, hc, hf⟩ := hf
      refine m_callSi [.int (g.2.1 8 (ix ((g.1 6 4) - (1 : Int32))))] C h cs_X2_108 (qX2_bondOf hc) rfl ⟨rfl, rfl⟩ ⟨Nat.le_of_ble_eq_true rfl, Nat.le_of_ble_eq_true rfl⟩ hl.1 rfl (Nat.le_of_ble_eq_true rfl) ⟨Nat.le_refl _, Nat.le_refl _⟩ dX2_unwind_18 (fun H locs h => ?_)
      clear hc
      refine lv_iload_n hx hb dX2_unwind_21 rfl (lv_at hl 1 rfl) ?_
      refine lv_icmp_lt (tgt := 75) hx hb dX2_unwind_22 (by decide) (fun hq => ?_) (fun hq => ?_)
      · replace hf := if_t hq hf
        clear hq
        have e1 := Option.some.inj hf
        subst e1
        exact m_vret C h dX2_unwind_75
      · replace hf := if_f hq hf
        clear hq
        refine lv_aload_n hx hb dX2_unwind_25 rfl (lv_at hl 0 rfl) ?_
        refine lv_dup hx hb dX2_unwind_26 rfl ?_
        refine xg_X2 4 C h (by decide) tb_15_18 rfl rfl dX2_unwind_27 ?_
        refine lv_iconst (v := (1 : Int32)) hx hb dX2_unwind_30 (by decide) ?_
        refine lv_isub hx hb dX2_unwind_31 ?_
        replace hf := bnd_ex hf
        obtain ⟨g2, eg2, hf⟩ := hf
        refine xp_X2_4 C h tb_15_18 dX2_unwind_32 (fun H locs h => ?_)
        rw [← eg2] at h
        clear eg2
        refine lv_aload_n hx hb dX2_unwind_35 rfl (lv_at hl 0 rfl) ?_
        refine lv_aload_n hx hb dX2_unwind_36 rfl (lv_at hl 0 rfl) ?_
        refine xg_X2 2 C h (by decide) tb_4_3 rfl rfl dX2_unwind_37 ?_
        refine lv_aload_n hx hb dX2_unwind_40 rfl (lv_at hl 0 rfl) ?_
        refine xg_X2 4 C h (by decide) tb_15_18 rfl rfl dX2_unwind_41 ?_
        replace hf := chk_some hf
        obtain ⟨hq, hf⟩ := hf
        refine yl_8 C h hq dX2_unwind_44 ?_
        clear hq
        replace hf := bndv_some hf
        obtain ⟨g3, hc, hf⟩ := hf
        refine m_callVv [.int (g2.2.1 8 (ix (g2.1 6 4)))] C h cv_X2_69 (qX2_emit hc) rfl ⟨rfl, rfl⟩ ⟨Nat.le_of_ble_eq_true rfl, Nat.le_of_ble_eq_true rfl⟩ (rv_X2 C h) hl.1 rfl (Nat.le_of_ble_eq_true rfl) ⟨Nat.le_refl _, Nat.le_refl _⟩ dX2_unwind_45 (fun H locs h => ?_)
        clear hc
        refine lv_aload_n hx hb dX2_unwind_48 rfl (lv_at hl 0 rfl) ?_
        refine xg_X2 2 C h (by decide) tb_4_3 rfl rfl dX2_unwind_49 ?_
        refine lv_aload_n hx hb dX2_unwind_52 rfl (lv_at hl 0 rfl) ?_
        refine xg_X2 4 C h (by decide) tb_15_18 rfl rfl dX2_unwind_53 ?_
        replace hf := chk_some hf
        obtain ⟨hq, hf⟩ := hf
        refine yl_8 C h hq dX2_unwind_56 ?_
        clear hq
        refine lv_bipush (v := (-11 : Int32)) hx hb dX2_unwind_57 (by decide) ?_
        refine lv_icmp_ne (tgt := 0) hx hb dX2_unwind_59 (by decide) (fun hq => ?_) (fun hq => ?_)
        · replace hf := if_tn hq hf
          clear hq
          exact ih g3 y1 hf H locs ls h (lv_sub hl [0, 1] rfl)
        · replace hf := if_t hq hf
          clear hq
          refine lv_aload_n hx hb dX2_unwind_62 rfl (lv_at hl 0 rfl) ?_
          refine lv_dup hx hb dX2_unwind_63 rfl ?_
          refine xg_X2 7 C h (by decide) tb_15_19 rfl rfl dX2_unwind_64 ?_
          refine lv_iconst (v := (1 : Int32)) hx hb dX2_unwind_67 (by decide) ?_
          refine lv_isub hx hb dX2_unwind_68 ?_
          replace hf := bnd_ex hf
          obtain ⟨g4, eg4, hf⟩ := hf
          refine xp_X2_7 C h tb_15_19 dX2_unwind_69 (fun H locs h => ?_)
          rw [← eg4] at h
          clear eg4
          refine lv_goto (tgt := 0) hx hb dX2_unwind_72 (by decide) ?_
          exact ih g4 y1 hf H locs ls h (lv_sub hl [0, 1] rfl)

set_option maxHeartbeats 4000000 in
set_option maxRecDepth 100000 in
theorem qX2_unwind {l : Launch} {D : va_G} {cs : Nat → ClassId} {ad al : Nat → Nat} {P : PL} {g' : CS} {g : CS}  {a0 : Int32} (hf : fX2_unwind P g a0 = some g') : GCon l D cs yX2_unwind cX2_unwind 2 none (rM 1) 0 0 [.ref (ad 6), .int a0] (SW cs ad al P g) none (SW cs ad al P g') := by
  refine GCon.of (by decide) (Nat.le_of_ble_eq_true rfl) ?_
  intro p e s m args below meth c A ls H locs C h hl
  have hx := C.1
  have hb := C.2.1
  have C : MCx p s m args meth c A RX2 cX2_unwind 2 none D cs := C
  have hl : lv_has ls 2 [(0, .ref (ad 6)), (1, .int a0)] := hl
  unfold fX2_unwind at hf
  exact wX2_unwind_0 (P := P) C fuel g a0 hf H locs ls h (lv_sub hl [0, 1] rfl)

set_option maxHeartbeats 4000000 in
set_option maxRecDepth 100000 in
theorem wX2_close_53 (C : MCx p s m args meth c A RX2 cX2_close 1 none D cs)  {g' : CS}  : ∀ (g : CS), fX2_close_53 P g = some g' → ∀ (H : Heap) (locs : List Loc) (ls : Array Slot), MH D (SW cs ad al P g) A s H locs → lv_has ls 1 [(0, .ref (ad 6))] → W p l e (rM 2) s m args below meth c H locs 0 0 (MQ below (GPost D none (SW cs ad al P g') A) args s 0 0 A) (F0 m 53 ls []) := by
  have hx := C.1
  have hb := C.2.1
  intro g hf H locs ls h hl
  unfold fX2_close_53 at hf
  refine lv_aload_n hx hb dX2_close_53 rfl (lv_at hl 0 rfl) ?_
  refine lv_dup hx hb dX2_close_54 rfl ?_
  refine xg_X2 8 C h (by decide) tb_15_20 rfl rfl dX2_close_55 ?_
  refine lv_iconst (v := (1 : Int32)) hx hb dX2_close_58 (by decide) ?_
  refine lv_isub hx hb dX2_close_59 ?_
  replace hf := bnd_ex hf
  obtain ⟨g1, eg1, hf⟩ := hf
  refine xp_X2_8 C h tb_15_20 dX2_close_60 (fun H locs h => ?_)
  rw [← eg1] at h
  clear eg1
  refine lv_aload_n hx hb dX2_close_63 rfl (lv_at hl 0 rfl) ?_
  refine lv_dup hx hb dX2_close_64 rfl ?_
  refine xg_X2 7 C h (by decide) tb_15_19 rfl rfl dX2_close_65 ?_
  refine lv_iconst (v := (1 : Int32)) hx hb dX2_close_68 (by decide) ?_
  refine lv_isub hx hb dX2_close_69 ?_
  replace hf := bnd_ex hf
  obtain ⟨g2, eg2, hf⟩ := hf
  refine xp_X2_7 C h tb_15_19 dX2_close_70 (fun H locs h => ?_)
  rw [← eg2] at h
  clear eg2
  have e1 := Option.some.inj hf
  subst e1
  exact m_vret C h dX2_close_73

set_option maxHeartbeats 4000000 in
set_option maxRecDepth 100000 in
theorem wX2_close_50 (C : MCx p s m args meth c A RX2 cX2_close 1 none D cs)  {g' : CS}  : ∀ (g : CS) (t1 : Int32), fX2_close_50 P g t1 = some g' → ∀ (H : Heap) (locs : List Loc) (ls : Array Slot), MH D (SW cs ad al P g) A s H locs → lv_has ls 1 [(0, .ref (ad 6))] → W p l e (rM 2) s m args below meth c H locs 0 0 (MQ below (GPost D none (SW cs ad al P g') A) args s 0 0 A) (F0 m 50 ls [.int t1, .ref (ad 6)]) := by
  have hx := C.1
  have hb := C.2.1
  intro g t1 hf H locs ls h hl
  unfold fX2_close_50 at hf
  replace hf := bnd_ex hf
  obtain ⟨g3, eg3, hf⟩ := hf
  refine xp_X2_6 C h tb_15_23 dX2_close_50 (fun H locs h => ?_)
  rw [← eg3] at h
  clear eg3
  exact wX2_close_53 (P := P) C g3 hf H locs ls h (lv_sub hl [0] rfl)

set_option maxHeartbeats 4000000 in
set_option maxRecDepth 100000 in
theorem qX2_close {l : Launch} {D : va_G} {cs : Nat → ClassId} {ad al : Nat → Nat} {P : PL} {g' : CS} {g : CS}  (hf : fX2_close P g = some g') : GCon l D cs yX2_close cX2_close 1 none (rM 2) 0 0 [.ref (ad 6)] (SW cs ad al P g) none (SW cs ad al P g') := by
  refine GCon.of (by decide) (Nat.le_of_ble_eq_true rfl) ?_
  intro p e s m args below meth c A ls H locs C h hl
  have hx := C.1
  have hb := C.2.1
  have C : MCx p s m args meth c A RX2 cX2_close 1 none D cs := C
  have hl : lv_has ls 1 [(0, .ref (ad 6))] := hl
  unfold fX2_close at hf
  refine lv_aload_n hx hb dX2_close_0 rfl (lv_at hl 0 rfl) ?_
  refine lv_iconst (v := (1 : Int32)) hx hb dX2_close_1 (by decide) ?_
  replace hf := bndv_some hf
  obtain ⟨g4, hc, hf⟩ := hf
  refine m_callVv [.int (1 : Int32)] C h cv_X2_47 (qX2_unwind hc) rfl ⟨rfl, rfl⟩ ⟨Nat.le_of_ble_eq_true rfl, Nat.le_of_ble_eq_true rfl⟩ (rv_X2 C h) hl.1 rfl (Nat.le_of_ble_eq_true rfl) ⟨Nat.le_refl _, Nat.le_refl _⟩ dX2_close_2 (fun H locs h => ?_)
  clear hc
  refine lv_aload_n hx hb dX2_close_5 rfl (lv_at hl 0 rfl) ?_
  refine xg_X2 4 C h (by decide) tb_15_18 rfl rfl dX2_close_6 ?_
  refine lv_if_le (tgt := 53) hx hb dX2_close_9 (by decide) (fun hq => ?_) (fun hq => ?_)
  · replace hf := if_t hq hf
    clear hq
    exact wX2_close_53 (P := P) C g4 hf H locs ls h (lv_sub hl [0] rfl)
  · replace hf := if_f hq hf
    clear hq
    refine lv_aload_n hx hb dX2_close_12 rfl (lv_at hl 0 rfl) ?_
    refine lv_dup hx hb dX2_close_13 rfl ?_
    refine xg_X2 4 C h (by decide) tb_15_18 rfl rfl dX2_close_14 ?_
    refine lv_iconst (v := (1 : Int32)) hx hb dX2_close_17 (by decide) ?_
    refine lv_isub hx hb dX2_close_18 ?_
    replace hf := bnd_ex hf
    obtain ⟨g5, eg5, hf⟩ := hf
    refine xp_X2_4 C h tb_15_18 dX2_close_19 (fun H locs h => ?_)
    rw [← eg5] at h
    clear eg5
    refine lv_aload_n hx hb dX2_close_22 rfl (lv_at hl 0 rfl) ?_
    refine lv_aload_n hx hb dX2_close_23 rfl (lv_at hl 0 rfl) ?_
    refine xg_X2 2 C h (by decide) tb_4_3 rfl rfl dX2_close_24 ?_
    refine lv_aload_n hx hb dX2_close_27 rfl (lv_at hl 0 rfl) ?_
    refine xg_X2 4 C h (by decide) tb_15_18 rfl rfl dX2_close_28 ?_
    replace hf := chk_some hf
    obtain ⟨hq, hf⟩ := hf
    refine yl_8 C h hq dX2_close_31 ?_
    clear hq
    refine lv_bipush (v := (-15 : Int32)) hx hb dX2_close_32 (by decide) ?_
    refine lv_icmp_ne (tgt := 41) hx hb dX2_close_34 (by decide) (fun hq => ?_) (fun hq => ?_)
    · replace hf := if_tn hq hf
      clear hq
      refine lv_aload_n hx hb dX2_close_41 rfl (lv_at hl 0 rfl) ?_
      refine xg_X2 3 C h (by decide) tb_4_4 rfl rfl dX2_close_42 ?_
      refine lv_aload_n hx hb dX2_close_45 rfl (lv_at hl 0 rfl) ?_
      refine xg_X2 4 C h (by decide) tb_15_18 rfl rfl dX2_close_46 ?_
      replace hf := chk_some hf
      obtain ⟨hq, hf⟩ := hf
      refine yl_9 C h hq dX2_close_49 ?_
      clear hq
      exact wX2_close_50 (P := P) C g5 (g5.2.1 9 (ix (g5.1 6 4))) hf H locs ls h (lv_sub hl [0] rfl)
    · replace hf := if_t hq hf
      clear hq
      refine lv_iconst (v := (3 : Int32)) hx hb dX2_close_37 (by decide) ?_
      refine lv_goto (tgt := 50) hx hb dX2_close_38 (by decide) ?_
      exact wX2_close_50 (P := P) C g5 (3 : Int32) hf H locs ls h (lv_sub hl [0] rfl)

set_option maxHeartbeats 4000000 in
set_option maxRecDepth 100000 in
theorem wX2_isComparison_18 (C : MCx p s m args meth c A RX2 cX2_isComparison 1 (some .boolean) D cs)  {r : Int32}  : fX2_isComparison_18  = some r → ∀ (H : Heap) (locs : List Loc) (ls : Array Slot), MH D [] A s H locs → lv_has ls 1 [] → W p l e (rM 0) s m args below meth c H locs 0 0 (MQ below (GPost D (some (.int r)) [] A) args s 0 0 A) (F0 m 18 ls []) := by
  have hx := C.1
  have hb := C.2.1
  intro  hf H locs ls h hl
  unfold fX2_isComparison_18 at hf
  refine lv_iconst (v := (1 : Int32)) hx hb dX2_isComparison_18 (by decide) ?_
  refine lv_goto (tgt := 23) hx hb dX2_isComparison_19 (by decide) ?_
  have e1 := Option.some.inj hf
  subst e1
  exact m_zret C h rfl dX2_isComparison_23

set_option maxHeartbeats 4000000 in
set_option maxRecDepth 100000 in
theorem qX2_isComparison {l : Launch} {D : va_G} {cs : Nat → ClassId} {r : Int32}  {a0 : Int32} (hf : fX2_isComparison a0 = some r) : GCon l D cs yX2_isComparison cX2_isComparison 1 (some .boolean) (rM 0) 0 0 [.int a0] [] (some (.int r)) [] := by
  refine GCon.of (by decide) (Nat.le_of_ble_eq_true rfl) ?_
  intro p e s m args below meth c A ls H locs C h hl
  have hx := C.1
  have hb := C.2.1
  have C : MCx p s m args meth c A RX2 cX2_isComparison 1 (some .boolean) D cs := C
  have hl : lv_has ls 1 [(0, .int a0)] := hl
  unfold fX2_isComparison at hf
  refine lv_iload_n hx hb dX2_isComparison_0 rfl (lv_at hl 0 rfl) ?_
  refine lv_bipush (v := (-8 : Int32)) hx hb dX2_isComparison_1 (by decide) ?_
  refine lv_icmp_eq (tgt := 18) hx hb dX2_isComparison_3 (by decide) (fun hq => ?_) (fun hq => ?_)
  · replace hf := if_t hq hf
    clear hq
    exact wX2_isComparison_18 C  hf H locs ls h (lv_sub hl [] rfl)
  · replace hf := if_f hq hf
    clear hq
    refine lv_iload_n hx hb dX2_isComparison_6 rfl (lv_at hl 0 rfl) ?_
    refine lv_bipush (v := (-9 : Int32)) hx hb dX2_isComparison_7 (by decide) ?_
    refine lv_icmp_eq (tgt := 18) hx hb dX2_isComparison_9 (by decide) (fun hq => ?_) (fun hq => ?_)
    · replace hf := if_t hq hf
      clear hq
      exact wX2_isComparison_18 C  hf H locs ls h (lv_sub hl [] rfl)
    · replace hf := if_f hq hf
      clear hq
      refine lv_iload_n hx hb dX2_isComparison_12 rfl (lv_at hl 0 rfl) ?_
      refine lv_bipush (v := (-10 : Int32)) hx hb dX2_isComparison_13 (by decide) ?_
      refine lv_icmp_ne (tgt := 22) hx hb dX2_isComparison_15 (by decide) (fun hq => ?_) (fun hq => ?_)
      · replace hf := if_tn hq hf
        clear hq
        refine lv_iconst (v := (0 : Int32)) hx hb dX2_isComparison_22 (by decide) ?_
        have e1 := Option.some.inj hf
        subst e1
        exact m_zret C h rfl dX2_isComparison_23
      · replace hf := if_t hq hf
        clear hq
        exact wX2_isComparison_18 C  hf H locs ls h (lv_sub hl [] rfl)

set_option maxHeartbeats 4000000 in
set_option maxRecDepth 100000 in
theorem qX2_link {l : Launch} {D : va_G} {cs : Nat → ClassId} {ad al : Nat → Nat} {P : PL} {g' : CS} {g : CS}  {a0 : Int32} (hf : fX2_link P g a0 = some g') : GCon l D cs yX2_link cX2_link 2 none (rM 2) 0 0 [.ref (ad 6), .int a0] (SW cs ad al P g) none (SW cs ad al P g') := by
  refine GCon.of (by decide) (Nat.le_of_ble_eq_true rfl) ?_
  intro p e s m args below meth c A ls H locs C h hl
  have hx := C.1
  have hb := C.2.1
  have C : MCx p s m args meth c A RX2 cX2_link 2 none D cs := C
  have hl : lv_has ls 2 [(0, .ref (ad 6)), (1, .int a0)] := hl
  unfold fX2_link at hf
  refine lv_aload_n hx hb dX2_link_0 rfl (lv_at hl 0 rfl) ?_
  refine lv_iload_n hx hb dX2_link_1 rfl (lv_at hl 1 rfl) ?_
  replace hf := bndv_some hf
  obtain ⟨x1, hc, hf⟩ := hf
  refine m_callSi [.int a0] C h cs_X2_108 (qX2_bondOf hc) rfl ⟨rfl, rfl⟩ ⟨Nat.le_of_ble_eq_true rfl, Nat.le_of_ble_eq_true rfl⟩ hl.1 rfl (Nat.le_of_ble_eq_true rfl) ⟨Nat.le_refl _, Nat.le_refl _⟩ dX2_link_2 (fun H locs h => ?_)
  clear hc
  replace hf := bndv_some hf
  obtain ⟨g2, hc, hf⟩ := hf
  refine m_callVv [.int x1] C h cv_X2_47 (qX2_unwind hc) rfl ⟨rfl, rfl⟩ ⟨Nat.le_of_ble_eq_true rfl, Nat.le_of_ble_eq_true rfl⟩ (rv_X2 C h) hl.1 rfl (Nat.le_of_ble_eq_true rfl) ⟨Nat.le_refl _, Nat.le_refl _⟩ dX2_link_5 (fun H locs h => ?_)
  clear hc
  refine lv_aload_n hx hb dX2_link_8 rfl (lv_at hl 0 rfl) ?_
  refine lv_iload_n hx hb dX2_link_9 rfl (lv_at hl 1 rfl) ?_
  replace hf := bndv_some hf
  obtain ⟨g3, hc, hf⟩ := hf
  refine m_callVv [.int a0] C h cv_X2_88 (qX2_push hc) rfl ⟨rfl, rfl⟩ ⟨Nat.le_of_ble_eq_true rfl, Nat.le_of_ble_eq_true rfl⟩ (rv_X2 C h) hl.1 rfl (Nat.le_of_ble_eq_true rfl) ⟨Nat.le_refl _, Nat.le_refl _⟩ dX2_link_10 (fun H locs h => ?_)
  clear hc
  refine lv_aload_n hx hb dX2_link_13 rfl (lv_at hl 0 rfl) ?_
  refine lv_iconst (v := (1 : Int32)) hx hb dX2_link_14 (by decide) ?_
  replace hf := bnd_ex hf
  obtain ⟨g4, eg4, hf⟩ := hf
  refine xp_X2_9 C h rfl tb_15_21 dX2_link_15 (fun H locs h => ?_)
  rw [← eg4] at h
  clear eg4
  have e1 := Option.some.inj hf
  subst e1
  exact m_vret C h dX2_link_18

set_option maxHeartbeats 4000000 in
set_option maxRecDepth 100000 in
theorem qX2_linkOf {l : Launch} {D : va_G} {cs : Nat → ClassId} {r : Int32}  {a0 : Int32} (hf : fX2_linkOf a0 = some r) : GCon l D cs yX2_linkOf cX2_linkOf 1 (some .int) (rM 0) 0 0 [.int a0] [] (some (.int r)) [] := by
  refine GCon.of (by decide) (Nat.le_of_ble_eq_true rfl) ?_
  intro p e s m args below meth c A ls H locs C h hl
  have hx := C.1
  have hb := C.2.1
  have C : MCx p s m args meth c A RX2 cX2_linkOf 1 (some .int) D cs := C
  have hl : lv_has ls 1 [(0, .int a0)] := hl
  unfold fX2_linkOf at hf
  refine lv_iload_n hx hb dX2_linkOf_0 rfl (lv_at hl 0 rfl) ?_
  rcases Decidable.em (a0 = (42 : Int32)) with hq | q42
  · replace hf := if_t hq hf
    subst hq
    refine lv_lookup (off := 65) (tgt := 66) hx hb dX2_linkOf_1 (by decide) (by decide) (by decide) ?_
    refine lv_bipush (v := (-7 : Int32)) hx hb dX2_linkOf_66 (by decide) ?_
    have e1 := Option.some.inj hf
    subst e1
    exact m_iret C h dX2_linkOf_68
  replace hf := if_f q42 hf
  rcases Decidable.em (a0 = (43 : Int32)) with hq | q43
  · replace hf := if_t hq hf
    subst hq
    refine lv_lookup (off := 59) (tgt := 60) hx hb dX2_linkOf_1 (by decide) (by decide) (by decide) ?_
    refine lv_bipush (v := (-5 : Int32)) hx hb dX2_linkOf_60 (by decide) ?_
    have e1 := Option.some.inj hf
    subst e1
    exact m_iret C h dX2_linkOf_62
  replace hf := if_f q43 hf
  rcases Decidable.em (a0 = (45 : Int32)) with hq | q45
  · replace hf := if_t hq hf
    subst hq
    refine lv_lookup (off := 62) (tgt := 63) hx hb dX2_linkOf_1 (by decide) (by decide) (by decide) ?_
    refine lv_bipush (v := (-6 : Int32)) hx hb dX2_linkOf_63 (by decide) ?_
    have e1 := Option.some.inj hf
    subst e1
    exact m_iret C h dX2_linkOf_65
  replace hf := if_f q45 hf
  rcases Decidable.em (a0 = (60 : Int32)) with hq | q60
  · replace hf := if_t hq hf
    subst hq
    refine lv_lookup (off := 71) (tgt := 72) hx hb dX2_linkOf_1 (by decide) (by decide) (by decide) ?_
    refine lv_bipush (v := (-9 : Int32)) hx hb dX2_linkOf_72 (by decide) ?_
    have e1 := Option.some.inj hf
    subst e1
    exact m_iret C h dX2_linkOf_74
  replace hf := if_f q60 hf
  rcases Decidable.em (a0 = (61 : Int32)) with hq | q61
  · replace hf := if_t hq hf
    subst hq
    refine lv_lookup (off := 68) (tgt := 69) hx hb dX2_linkOf_1 (by decide) (by decide) (by decide) ?_
    refine lv_bipush (v := (-8 : Int32)) hx hb dX2_linkOf_69 (by decide) ?_
    have e1 := Option.some.inj hf
    subst e1
    exact m_iret C h dX2_linkOf_71
  replace hf := if_f q61 hf
  rcases Decidable.em (a0 = (62 : Int32)) with hq | q62
  · replace hf := if_t hq hf
    subst hq
    refine lv_lookup (off := 74) (tgt := 75) hx hb dX2_linkOf_1 (by decide) (by decide) (by decide) ?_
    refine lv_bipush (v := (-10 : Int32)) hx hb dX2_linkOf_75 (by decide) ?_
    have e1 := Option.some.inj hf
    subst e1
    exact m_iret C h dX2_linkOf_77
  replace hf := if_f q62 hf
  refine lv_lookup (off := 77) (tgt := 78) hx hb dX2_linkOf_1 (by decide) (by
      show Op.lookupswitch.offset [(42, 65), (43, 59), (45, 62), (60, 71), (61, 68), (62, 74)] 77 a0.toInt = _
      rw [lv_osw q42 (by decide), lv_osw q43 (by decide), lv_osw q45 (by decide), lv_osw q60 (by decide), lv_osw q61 (by decide), lv_osw q62 (by decide)]
      rfl) (by decide) ?_
  refine lv_iconst (v := (0 : Int32)) hx hb dX2_linkOf_78 (by decide) ?_
  have e1 := Option.some.inj hf
  subst e1
  exact m_iret C h dX2_linkOf_79

set_option maxHeartbeats 4000000 in
set_option maxRecDepth 100000 in
theorem wX2_takeLink_198 (C : MCx p s m args meth c A RX2 cX2_takeLink 5 (some .int) D cs) (hks : KS adK adV A s s.heap)  {r : Int32} {g' : CS}  : ∀ (g : CS) (t1 : Int32), fX2_takeLink_198 P g t1 = some (r, g') → ∀ (H : Heap) (locs : List Loc) (ls : Array Slot), MH D (SW cs ad al P g) A s H locs → lv_has ls 5 [(0, .ref (ad 6))] → W p l e (rM 5) s m args below meth c H locs 0 0 (MQ below (GPost D (some (.int r)) (SW cs ad al P g') A) args s 0 0 A) (F0 m 198 ls [.int t1, .ref (ad 6)]) := by
  have hx := C.1
  have hb := C.2.1
  intro g t1 hf H locs ls h hl
  unfold fX2_takeLink_198 at hf
  replace hf := bnd_ex hf
  obtain ⟨g1, eg1, hf⟩ := hf
  refine xp_X2_6 C h tb_15_23 dX2_takeLink_198 (fun H locs h => ?_)
  rw [← eg1] at h
  clear eg1
  refine lv_aload_n hx hb dX2_takeLink_201 rfl (lv_at hl 0 rfl) ?_
  refine lv_iconst (v := (0 : Int32)) hx hb dX2_takeLink_202 (by decide) ?_
  replace hf := bnd_ex hf
  obtain ⟨g2, eg2, hf⟩ := hf
  refine xp_X2_10 C h rfl tb_15_22 dX2_takeLink_203 (fun H locs h => ?_)
  rw [← eg2] at h
  clear eg2
  refine lv_iconst (v := (0 : Int32)) hx hb dX2_takeLink_206 (by decide) ?_
  obtain ⟨e1, e2⟩ := pr_inj hf
  subst e1 e2
  exact m_iret C h dX2_takeLink_207

set_option maxHeartbeats 4000000 in
set_option maxRecDepth 100000 in
theorem wX2_takeLink_179 (C : MCx p s m args meth c A RX2 cX2_takeLink 5 (some .int) D cs) (hks : KS adK adV A s s.heap)  {r : Int32} {g' : CS}  : ∀ (g : CS) (y3 : Int32) (y4 : Int32), fX2_takeLink_179 P g y3 y4 = some (r, g') → ∀ (H : Heap) (locs : List Loc) (ls : Array Slot), MH D (SW cs ad al P g) A s H locs → lv_has ls 5 [(0, .ref (ad 6)), (3, .int y3), (4, .int y4)] → W p l e (rM 5) s m args below meth c H locs 0 0 (MQ below (GPost D (some (.int r)) (SW cs ad al P g') A) args s 0 0 A) (F0 m 179 ls []) := by
  have hx := C.1
  have hb := C.2.1
  intro g y3 y4 hf H locs ls h hl
  unfold fX2_takeLink_179 at hf
  refine lv_aload_n hx hb dX2_takeLink_179 rfl (lv_at hl 0 rfl) ?_
  refine lv_iload_n hx hb dX2_takeLink_180 rfl (lv_at hl 1 rfl) ?_
  replace hf := bndv_some hf
  obtain ⟨g3, hc, hf⟩ := hf
  refine m_callVv [.int y3] C h cv_X2_95 (qX2_link hc) rfl ⟨rfl, rfl⟩ ⟨Nat.le_of_ble_eq_true rfl, Nat.le_of_ble_eq_true rfl⟩ (rv_X2 C h) hl.1 rfl (Nat.le_of_ble_eq_true rfl) ⟨Nat.le_refl _, Nat.le_refl _⟩ dX2_takeLink_181 (fun H locs h => ?_)
  clear hc
  refine lv_aload_n hx hb dX2_takeLink_184 rfl (lv_at hl 0 rfl) ?_
  refine lv_iload hx hb dX2_takeLink_185 (lv_at hl 2 rfl) ?_
  refine lv_if_eq (tgt := 194) hx hb dX2_takeLink_187 (by decide) (fun hq => ?_) (fun hq => ?_)
  · replace hf := if_t hq hf
    clear hq
    refine lv_aload_n hx hb dX2_takeLink_194 rfl (lv_at hl 0 rfl) ?_
    refine xg_X2 6 C h (by decide) tb_15_23 rfl rfl dX2_takeLink_195 ?_
    exact wX2_takeLink_198 (P := P) C hks g3 (g3.1 6 6) hf H locs ls h (lv_sub hl [0] rfl)
  · replace hf := if_f hq hf
    clear hq
    refine lv_iconst (v := (2 : Int32)) hx hb dX2_takeLink_190 (by decide) ?_
    refine lv_goto (tgt := 198) hx hb dX2_takeLink_191 (by decide) ?_
    exact wX2_takeLink_198 (P := P) C hks g3 (2 : Int32) hf H locs ls h (lv_sub hl [0] rfl)

set_option maxHeartbeats 4000000 in
set_option maxRecDepth 100000 in
theorem wX2_takeLink_140 (C : MCx p s m args meth c A RX2 cX2_takeLink 5 (some .int) D cs) (hks : KS adK adV A s s.heap)  {r : Int32} {g' : CS}  : ∀ (g : CS) (t0 : Int32), fX2_takeLink_140 P g t0 = some (r, g') → ∀ (H : Heap) (locs : List Loc) (ls : Array Slot), MH D (SW cs ad al P g) A s H locs → lv_has ls 5 [(0, .ref (ad 6))] → W p l e (rM 5) s m args below meth c H locs 0 0 (MQ below (GPost D (some (.int r)) (SW cs ad al P g') A) args s 0 0 A) (F0 m 140 ls [.int t0]) := by
  have hx := C.1
  have hb := C.2.1
  intro g t0 hf H locs ls h hl
  unfold fX2_takeLink_140 at hf
  refine lv_istore_n (lv' := [(3, .int t0), (0, .ref (ad 6))]) hx hb dX2_takeLink_140 rfl hl (by decide) rfl (fun ls hl => ?_)
  refine lv_iload_n hx hb dX2_takeLink_141 rfl (lv_at hl 0 rfl) ?_
  refine lv_if_ne (tgt := 147) hx hb dX2_takeLink_142 (by decide) (fun hq => ?_) (fun hq => ?_)
  · replace hf := if_tn hq hf
    clear hq
    refine lv_iload_n hx hb dX2_takeLink_147 rfl (lv_at hl 0 rfl) ?_
    replace hf := bndv_some hf
    obtain ⟨x4, hc, hf⟩ := hf
    refine m_callSi [.int t0] C h cs_X2_104 (qX2_isComparison hc) rfl ⟨rfl, rfl⟩ ⟨Nat.le_of_ble_eq_true rfl, Nat.le_of_ble_eq_true rfl⟩ hl.1 rfl (Nat.le_of_ble_eq_true rfl) ⟨Nat.le_refl _, Nat.le_refl _⟩ dX2_takeLink_148 (fun H locs h => ?_)
    clear hc
    refine lv_istore (lv' := [(4, .int x4), (3, .int t0), (0, .ref (ad 6))]) hx hb dX2_takeLink_151 hl (by decide) rfl (fun ls hl => ?_)
    refine lv_iload hx hb dX2_takeLink_153 (lv_at hl 0 rfl) ?_
    refine lv_if_eq (tgt := 169) hx hb dX2_takeLink_155 (by decide) (fun hq => ?_) (fun hq => ?_)
    · replace hf := if_t hq hf
      clear hq
      refine lv_aload_n hx hb dX2_takeLink_169 rfl (lv_at hl 2 rfl) ?_
      refine xg_X2 6 C h (by decide) tb_15_23 rfl rfl dX2_takeLink_170 ?_
      refine lv_iconst (v := (3 : Int32)) hx hb dX2_takeLink_173 (by decide) ?_
      refine lv_icmp_ne (tgt := 179) hx hb dX2_takeLink_174 (by decide) (fun hq => ?_) (fun hq => ?_)
      · replace hf := if_tn hq hf
        clear hq
        exact wX2_takeLink_179 (P := P) C hks g t0 x4 hf H locs ls h (lv_sub hl [2, 1, 0] rfl)
      · replace hf := if_t hq hf
        clear hq
        refine lv_iconst (v := (2 : Int32)) hx hb dX2_takeLink_177 (by decide) ?_
        obtain ⟨e1, e2⟩ := pr_inj hf
        subst e1 e2
        exact m_iret C h dX2_takeLink_178
    · replace hf := if_f hq hf
      clear hq
      refine lv_aload_n hx hb dX2_takeLink_158 rfl (lv_at hl 2 rfl) ?_
      refine xg_X2 6 C h (by decide) tb_15_23 rfl rfl dX2_takeLink_159 ?_
      refine lv_iconst (v := (1 : Int32)) hx hb dX2_takeLink_162 (by decide) ?_
      refine lv_icmp_eq (tgt := 179) hx hb dX2_takeLink_163 (by decide) (fun hq => ?_) (fun hq => ?_)
      · replace hf := if_t hq hf
        clear hq
        exact wX2_takeLink_179 (P := P) C hks g t0 x4 hf H locs ls h (lv_sub hl [2, 1, 0] rfl)
      · replace hf := if_f hq hf
        clear hq
        refine lv_goto (tgt := 177) hx hb dX2_takeLink_166 (by decide) ?_
        refine lv_iconst (v := (2 : Int32)) hx hb dX2_takeLink_177 (by decide) ?_
        obtain ⟨e1, e2⟩ := pr_inj hf
        subst e1 e2
        exact m_iret C h dX2_takeLink_178
  · replace hf := if_t hq hf
    clear hq
    refine lv_iconst (v := (2 : Int32)) hx hb dX2_takeLink_145 (by decide) ?_
    obtain ⟨e1, e2⟩ := pr_inj hf
    subst e1 e2
    exact m_iret C h dX2_takeLink_146

set_option maxHeartbeats 4000000 in
set_option maxRecDepth 100000 in
theorem wX2_takeLink_121 (C : MCx p s m args meth c A RX2 cX2_takeLink 5 (some .int) D cs) (hks : KS adK adV A s s.heap)  {r : Int32} {g' : CS}  : ∀ (g : CS), fX2_takeLink_121 P g = some (r, g') → ∀ (H : Heap) (locs : List Loc) (ls : Array Slot), MH D (SW cs ad al P g) A s H locs → lv_has ls 5 [(0, .ref (ad 6)), (1, .ref (ad 5))] → W p l e (rM 5) s m args below meth c H locs 0 0 (MQ below (GPost D (some (.int r)) (SW cs ad al P g') A) args s 0 0 A) (F0 m 121 ls []) := by
  have hx := C.1
  have hb := C.2.1
  intro g hf H locs ls h hl
  unfold fX2_takeLink_121 at hf
  refine lv_aload_n hx hb dX2_takeLink_121 rfl (lv_at hl 1 rfl) ?_
  refine xg_X8 3 C h (by decide) tb_16_12 rfl rfl dX2_takeLink_122 ?_
  refine lv_iconst (v := (3 : Int32)) hx hb dX2_takeLink_125 (by decide) ?_
  refine lv_icmp_ne (tgt := 139) hx hb dX2_takeLink_126 (by decide) (fun hq => ?_) (fun hq => ?_)
  · replace hf := if_tn hq hf
    clear hq
    refine lv_iconst (v := (0 : Int32)) hx hb dX2_takeLink_139 (by decide) ?_
    exact wX2_takeLink_140 (P := P) C hks g (0 : Int32) hf H locs ls h (lv_sub hl [0] rfl)
  · replace hf := if_t hq hf
    clear hq
    refine lv_aload_n hx hb dX2_takeLink_129 rfl (lv_at hl 1 rfl) ?_
    refine xg_X8 5 C h (by decide) tb_16_13 rfl rfl dX2_takeLink_130 ?_
    replace hf := bndv_some hf
    obtain ⟨x5, hc, hf⟩ := hf
    refine m_callSi [.int (g.1 5 5)] C h cs_X2_101 (qX2_linkOf hc) rfl ⟨rfl, rfl⟩ ⟨Nat.le_of_ble_eq_true rfl, Nat.le_of_ble_eq_true rfl⟩ hl.1 rfl (Nat.le_of_ble_eq_true rfl) ⟨Nat.le_refl _, Nat.le_refl _⟩ dX2_takeLink_133 (fun H locs h => ?_)
    clear hc
    refine lv_goto (tgt := 140) hx hb dX2_takeLink_136 (by decide) ?_
    exact wX2_takeLink_140 (P := P) C hks g x5 hf H locs ls h (lv_sub hl [0] rfl)

set_option maxHeartbeats 4000000 in
set_option maxRecDepth 100000 in
theorem wX2_takeLink_115 (C : MCx p s m args meth c A RX2 cX2_takeLink 5 (some .int) D cs) (hks : KS adK adV A s s.heap)  {r : Int32} {g' : CS}  : ∀ (g : CS), fX2_takeLink_115 P g = some (r, g') → ∀ (H : Heap) (locs : List Loc) (ls : Array Slot), MH D (SW cs ad al P g) A s H locs → lv_has ls 5 [(0, .ref (ad 6))] → W p l e (rM 5) s m args below meth c H locs 0 0 (MQ below (GPost D (some (.int r)) (SW cs ad al P g') A) args s 0 0 A) (F0 m 115 ls []) := by
  have hx := C.1
  have hb := C.2.1
  intro g hf H locs ls h hl
  unfold fX2_takeLink_115 at hf
  refine lv_aload_n hx hb dX2_takeLink_115 rfl (lv_at hl 0 rfl) ?_
  replace hf := bndv_some hf
  obtain ⟨g6, hc, hf⟩ := hf
  refine m_callVv [] C h cv_X2_98 (qX2_close hc) rfl ⟨rfl, rfl⟩ ⟨Nat.le_of_ble_eq_true rfl, Nat.le_of_ble_eq_true rfl⟩ (rv_X2 C h) hl.1 rfl (Nat.le_of_ble_eq_true rfl) ⟨Nat.le_refl _, Nat.le_refl _⟩ dX2_takeLink_116 (fun H locs h => ?_)
  clear hc
  refine lv_iconst (v := (0 : Int32)) hx hb dX2_takeLink_119 (by decide) ?_
  obtain ⟨e1, e2⟩ := pr_inj hf
  subst e1 e2
  exact m_iret C h dX2_takeLink_120

set_option maxHeartbeats 4000000 in
set_option maxRecDepth 100000 in
theorem wX2_takeLink_76 (C : MCx p s m args meth c A RX2 cX2_takeLink 5 (some .int) D cs) (hks : KS adK adV A s s.heap)  {r : Int32} {g' : CS}  : ∀ (g : CS) (y2 : Int32), fX2_takeLink_76 P g y2 = some (r, g') → ∀ (H : Heap) (locs : List Loc) (ls : Array Slot), MH D (SW cs ad al P g) A s H locs → lv_has ls 5 [(0, .ref (ad 6)), (1, .ref (ad 5)), (2, .int y2)] → W p l e (rM 5) s m args below meth c H locs 0 0 (MQ below (GPost D (some (.int r)) (SW cs ad al P g') A) args s 0 0 A) (F0 m 76 ls []) := by
  have hx := C.1
  have hb := C.2.1
  intro g y2 hf H locs ls h hl
  unfold fX2_takeLink_76 at hf
  refine lv_aload_n hx hb dX2_takeLink_76 rfl (lv_at hl 0 rfl) ?_
  refine xg_X2 8 C h (by decide) tb_15_20 rfl rfl dX2_takeLink_77 ?_
  refine lv_if_le (tgt := 121) hx hb dX2_takeLink_80 (by decide) (fun hq => ?_) (fun hq => ?_)
  · replace hf := if_t hq hf
    clear hq
    exact wX2_takeLink_121 (P := P) C hks g hf H locs ls h (lv_sub hl [0, 1] rfl)
  · replace hf := if_f hq hf
    clear hq
    refine lv_iload_n hx hb dX2_takeLink_83 rfl (lv_at hl 2 rfl) ?_
    refine lv_if_eq (tgt := 99) hx hb dX2_takeLink_84 (by decide) (fun hq => ?_) (fun hq => ?_)
    · replace hf := if_t hq hf
      clear hq
      refine lv_aload_n hx hb dX2_takeLink_99 rfl (lv_at hl 0 rfl) ?_
      refine xg_X2 6 C h (by decide) tb_15_23 rfl rfl dX2_takeLink_100 ?_
      refine lv_if_ne (tgt := 121) hx hb dX2_takeLink_103 (by decide) (fun hq => ?_) (fun hq => ?_)
      · replace hf := if_tn hq hf
        clear hq
        exact wX2_takeLink_121 (P := P) C hks g hf H locs ls h (lv_sub hl [0, 1] rfl)
      · replace hf := if_t hq hf
        clear hq
        refine lv_aload_n hx hb dX2_takeLink_106 rfl (lv_at hl 1 rfl) ?_
        refine lv_bipush (v := (41 : Int32)) hx hb dX2_takeLink_107 (by decide) ?_
        replace hf := bndc_some hf
        obtain ⟨x7, g8, hc, hf⟩ := hf
        refine m_callVi [.int (41 : Int32)] C h cv_X2_84 (qX8_isSignOf hc) rfl ⟨rfl, rfl⟩ ⟨Nat.le_of_ble_eq_true rfl, Nat.le_of_ble_eq_true rfl⟩ (rv_X8 C h) hl.1 rfl (Nat.le_of_ble_eq_true rfl) ⟨Nat.le_refl _, Nat.le_refl _⟩ dX2_takeLink_109 (fun H locs h => ?_)
        clear hc
        refine lv_if_eq (tgt := 121) hx hb dX2_takeLink_112 (by decide) (fun hq => ?_) (fun hq => ?_)
        · replace hf := if_t hq hf
          clear hq
          exact wX2_takeLink_121 (P := P) C hks g8 hf H locs ls h (lv_sub hl [0, 1] rfl)
        · replace hf := if_f hq hf
          clear hq
          exact wX2_takeLink_115 (P := P) C hks g8 hf H locs ls h (lv_sub hl [0] rfl)
    · replace hf := if_f hq hf
      clear hq
      refine lv_aload_n hx hb dX2_takeLink_87 rfl (lv_at hl 1 rfl) ?_
      refine lv_bipush (v := (93 : Int32)) hx hb dX2_takeLink_88 (by decide) ?_
      replace hf := bndc_some hf
      obtain ⟨x9, g10, hc, hf⟩ := hf
      refine m_callVi [.int (93 : Int32)] C h cv_X2_84 (qX8_isSignOf hc) rfl ⟨rfl, rfl⟩ ⟨Nat.le_of_ble_eq_true rfl, Nat.le_of_ble_eq_true rfl⟩ (rv_X8 C h) hl.1 rfl (Nat.le_of_ble_eq_true rfl) ⟨Nat.le_refl _, Nat.le_refl _⟩ dX2_takeLink_90 (fun H locs h => ?_)
      clear hc
      refine lv_if_eq (tgt := 121) hx hb dX2_takeLink_93 (by decide) (fun hq => ?_) (fun hq => ?_)
      · replace hf := if_t hq hf
        clear hq
        exact wX2_takeLink_121 (P := P) C hks g10 hf H locs ls h (lv_sub hl [0, 1] rfl)
      · replace hf := if_f hq hf
        clear hq
        refine lv_goto (tgt := 115) hx hb dX2_takeLink_96 (by decide) ?_
        exact wX2_takeLink_115 (P := P) C hks g10 hf H locs ls h (lv_sub hl [0] rfl)

set_option maxHeartbeats 4000000 in
set_option maxRecDepth 100000 in
theorem wX2_takeLink_61 (C : MCx p s m args meth c A RX2 cX2_takeLink 5 (some .int) D cs) (hks : KS adK adV A s s.heap)  {r : Int32} {g' : CS}  : ∀ (g : CS) (t1 : Int32), fX2_takeLink_61 P g t1 = some (r, g') → ∀ (H : Heap) (locs : List Loc) (ls : Array Slot), MH D (SW cs ad al P g) A s H locs → lv_has ls 5 [(0, .ref (ad 6))] → W p l e (rM 5) s m args below meth c H locs 0 0 (MQ below (GPost D (some (.int r)) (SW cs ad al P g') A) args s 0 0 A) (F0 m 61 ls [.int t1, .ref (ad 6)]) := by
  have hx := C.1
  have hb := C.2.1
  intro g t1 hf H locs ls h hl
  unfold fX2_takeLink_61 at hf
  replace hf := bndv_some hf
  obtain ⟨g11, hc, hf⟩ := hf
  refine m_callVv [.int t1] C h cv_X2_95 (qX2_link hc) rfl ⟨rfl, rfl⟩ ⟨Nat.le_of_ble_eq_true rfl, Nat.le_of_ble_eq_true rfl⟩ (rv_X2 C h) hl.1 rfl (Nat.le_of_ble_eq_true rfl) ⟨Nat.le_refl _, Nat.le_refl _⟩ dX2_takeLink_61 (fun H locs h => ?_)
  clear hc
  refine lv_aload_n hx hb dX2_takeLink_64 rfl (lv_at hl 0 rfl) ?_
  refine lv_iconst (v := (1 : Int32)) hx hb dX2_takeLink_65 (by decide) ?_
  replace hf := bnd_ex hf
  obtain ⟨g12, eg12, hf⟩ := hf
  refine xp_X2_6 C h tb_15_23 dX2_takeLink_66 (fun H locs h => ?_)
  rw [← eg12] at h
  clear eg12
  refine lv_aload_n hx hb dX2_takeLink_69 rfl (lv_at hl 0 rfl) ?_
  refine lv_iconst (v := (1 : Int32)) hx hb dX2_takeLink_70 (by decide) ?_
  replace hf := bnd_ex hf
  obtain ⟨g13, eg13, hf⟩ := hf
  refine xp_X2_10 C h rfl tb_15_22 dX2_takeLink_71 (fun H locs h => ?_)
  rw [← eg13] at h
  clear eg13
  refine lv_iconst (v := (0 : Int32)) hx hb dX2_takeLink_74 (by decide) ?_
  obtain ⟨e1, e2⟩ := pr_inj hf
  subst e1 e2
  exact m_iret C h dX2_takeLink_75

set_option maxHeartbeats 4000000 in
set_option maxRecDepth 100000 in
theorem wX2_takeLink_44 (C : MCx p s m args meth c A RX2 cX2_takeLink 5 (some .int) D cs) (hks : KS adK adV A s s.heap)  {r : Int32} {g' : CS}  : ∀ (g : CS), fX2_takeLink_44 P g = some (r, g') → ∀ (H : Heap) (locs : List Loc) (ls : Array Slot), MH D (SW cs ad al P g) A s H locs → lv_has ls 5 [(0, .ref (ad 6)), (1, .ref (ad 5))] → W p l e (rM 5) s m args below meth c H locs 0 0 (MQ below (GPost D (some (.int r)) (SW cs ad al P g') A) args s 0 0 A) (F0 m 44 ls []) := by
  have hx := C.1
  have hb := C.2.1
  intro g hf H locs ls h hl
  unfold fX2_takeLink_44 at hf
  refine lv_aload_n hx hb dX2_takeLink_44 rfl (lv_at hl 0 rfl) ?_
  refine lv_aload_n hx hb dX2_takeLink_45 rfl (lv_at hl 1 rfl) ?_
  refine va_ldcS (own := RX2) (index := 91) (tx := "and") (q := adK 14) hx hb C.2.2.2.1 (hks.2.1 14 (by decide)) dX2_takeLink_46 ?_
  replace hf := bndc_some hf
  obtain ⟨x14, g15, hc, hf⟩ := hf
  refine m_callVKi [.ref (adK 14)] C hks h cv_X2_74 (qX8_isWord (by decide) hc) rfl ⟨rfl, rfl⟩ ⟨Nat.le_of_ble_eq_true rfl, Nat.le_of_ble_eq_true rfl⟩ (rv_X8 C h) hl.1 rfl (Nat.le_of_ble_eq_true rfl) ⟨Nat.le_refl _, Nat.le_refl _⟩ dX2_takeLink_48 (fun H locs h => ?_)
  clear hc
  refine lv_if_eq (tgt := 59) hx hb dX2_takeLink_51 (by decide) (fun hq => ?_) (fun hq => ?_)
  · replace hf := if_t hq hf
    clear hq
    refine lv_bipush (v := (-13 : Int32)) hx hb dX2_takeLink_59 (by decide) ?_
    exact wX2_takeLink_61 (P := P) C hks g15 (-13 : Int32) hf H locs ls h (lv_sub hl [0] rfl)
  · replace hf := if_f hq hf
    clear hq
    refine lv_bipush (v := (-12 : Int32)) hx hb dX2_takeLink_54 (by decide) ?_
    refine lv_goto (tgt := 61) hx hb dX2_takeLink_56 (by decide) ?_
    exact wX2_takeLink_61 (P := P) C hks g15 (-12 : Int32) hf H locs ls h (lv_sub hl [0] rfl)

set_option maxHeartbeats 4000000 in
set_option maxRecDepth 100000 in
theorem wX2_takeLink_21 (C : MCx p s m args meth c A RX2 cX2_takeLink 5 (some .int) D cs) (hks : KS adK adV A s s.heap)  {r : Int32} {g' : CS}  : ∀ (g : CS) (t0 : Int32), fX2_takeLink_21 P g t0 = some (r, g') → ∀ (H : Heap) (locs : List Loc) (ls : Array Slot), MH D (SW cs ad al P g) A s H locs → lv_has ls 5 [(0, .ref (ad 6)), (1, .ref (ad 5))] → W p l e (rM 5) s m args below meth c H locs 0 0 (MQ below (GPost D (some (.int r)) (SW cs ad al P g') A) args s 0 0 A) (F0 m 21 ls [.int t0]) := by
  have hx := C.1
  have hb := C.2.1
  intro g t0 hf H locs ls h hl
  unfold fX2_takeLink_21 at hf
  refine lv_istore_n (lv' := [(2, .int t0), (0, .ref (ad 6)), (1, .ref (ad 5))]) hx hb dX2_takeLink_21 rfl hl (by decide) rfl (fun ls hl => ?_)
  refine lv_iload_n hx hb dX2_takeLink_22 rfl (lv_at hl 0 rfl) ?_
  refine lv_if_eq (tgt := 76) hx hb dX2_takeLink_23 (by decide) (fun hq => ?_) (fun hq => ?_)
  · replace hf := if_t hq hf
    clear hq
    exact wX2_takeLink_76 (P := P) C hks g t0 hf H locs ls h (lv_sub hl [1, 2, 0] rfl)
  · replace hf := if_f hq hf
    clear hq
    refine lv_aload_n hx hb dX2_takeLink_26 rfl (lv_at hl 2 rfl) ?_
    refine va_ldcS (own := RX2) (index := 91) (tx := "and") (q := adK 14) hx hb C.2.2.2.1 (hks.2.1 14 (by decide)) dX2_takeLink_27 ?_
    replace hf := bndc_some hf
    obtain ⟨x16, g17, hc, hf⟩ := hf
    refine m_callVKi [.ref (adK 14)] C hks h cv_X2_74 (qX8_isWord (by decide) hc) rfl ⟨rfl, rfl⟩ ⟨Nat.le_of_ble_eq_true rfl, Nat.le_of_ble_eq_true rfl⟩ (rv_X8 C h) hl.1 rfl (Nat.le_of_ble_eq_true rfl) ⟨Nat.le_refl _, Nat.le_refl _⟩ dX2_takeLink_29 (fun H locs h => ?_)
    clear hc
    refine lv_if_ne (tgt := 44) hx hb dX2_takeLink_32 (by decide) (fun hq => ?_) (fun hq => ?_)
    · replace hf := if_tn hq hf
      clear hq
      exact wX2_takeLink_44 (P := P) C hks g17 hf H locs ls h (lv_sub hl [1, 2] rfl)
    · replace hf := if_t hq hf
      clear hq
      refine lv_aload_n hx hb dX2_takeLink_35 rfl (lv_at hl 2 rfl) ?_
      refine va_ldcS (own := RX2) (index := 93) (tx := "or") (q := adK 15) hx hb C.2.2.2.1 (hks.2.1 15 (by decide)) dX2_takeLink_36 ?_
      replace hf := bndc_some hf
      obtain ⟨x18, g19, hc, hf⟩ := hf
      refine m_callVKi [.ref (adK 15)] C hks h cv_X2_74 (qX8_isWord (by decide) hc) rfl ⟨rfl, rfl⟩ ⟨Nat.le_of_ble_eq_true rfl, Nat.le_of_ble_eq_true rfl⟩ (rv_X8 C h) hl.1 rfl (Nat.le_of_ble_eq_true rfl) ⟨Nat.le_refl _, Nat.le_refl _⟩ dX2_takeLink_38 (fun H locs h => ?_)
      clear hc
      refine lv_if_eq (tgt := 76) hx hb dX2_takeLink_41 (by decide) (fun hq => ?_) (fun hq => ?_)
      · replace hf := if_t hq hf
        clear hq
        exact wX2_takeLink_76 (P := P) C hks g19 t0 hf H locs ls h (lv_sub hl [1, 2, 0] rfl)
      · replace hf := if_f hq hf
        clear hq
        exact wX2_takeLink_44 (P := P) C hks g19 hf H locs ls h (lv_sub hl [1, 2] rfl)

set_option maxHeartbeats 4000000 in
set_option maxRecDepth 100000 in
theorem wX2_takeLink_16 (C : MCx p s m args meth c A RX2 cX2_takeLink 5 (some .int) D cs) (hks : KS adK adV A s s.heap)  {r : Int32} {g' : CS}  : ∀ (g : CS), fX2_takeLink_16 P g = some (r, g') → ∀ (H : Heap) (locs : List Loc) (ls : Array Slot), MH D (SW cs ad al P g) A s H locs → lv_has ls 5 [(0, .ref (ad 6)), (1, .ref (ad 5))] → W p l e (rM 5) s m args below meth c H locs 0 0 (MQ below (GPost D (some (.int r)) (SW cs ad al P g') A) args s 0 0 A) (F0 m 16 ls []) := by
  have hx := C.1
  have hb := C.2.1
  intro g hf H locs ls h hl
  unfold fX2_takeLink_16 at hf
  refine lv_iconst (v := (1 : Int32)) hx hb dX2_takeLink_16 (by decide) ?_
  refine lv_goto (tgt := 21) hx hb dX2_takeLink_17 (by decide) ?_
  exact wX2_takeLink_21 (P := P) C hks g (1 : Int32) hf H locs ls h (lv_sub hl [0, 1] rfl)

set_option maxHeartbeats 4000000 in
set_option maxRecDepth 100000 in
theorem qX2_takeLink {l : Launch} {D : va_G} {cs : Nat → ClassId} {ad al : Nat → Nat} {P : PL} {adK adV : Nat → Nat} {r : Int32} {g' : CS} {g : CS}  (hf : fX2_takeLink P g = some (r, g')) : GConK l D cs adK adV yX2_takeLink cX2_takeLink 5 (some .int) (rM 5) 0 0 [.ref (ad 6), .ref (ad 5)] (SW cs ad al P g) (some (.int r)) (SW cs ad al P g') := by
  refine GConK.of (by decide) (Nat.le_of_ble_eq_true rfl) ?_
  intro p e s m args below meth c A ls H locs C hks h hl
  have hx := C.1
  have hb := C.2.1
  have C : MCx p s m args meth c A RX2 cX2_takeLink 5 (some .int) D cs := C
  have hl : lv_has ls 5 [(0, .ref (ad 6)), (1, .ref (ad 5))] := hl
  unfold fX2_takeLink at hf
  refine lv_aload_n hx hb dX2_takeLink_0 rfl (lv_at hl 0 rfl) ?_
  refine xg_X2 6 C h (by decide) tb_15_23 rfl rfl dX2_takeLink_1 ?_
  refine lv_iconst (v := (2 : Int32)) hx hb dX2_takeLink_4 (by decide) ?_
  refine lv_icmp_eq (tgt := 16) hx hb dX2_takeLink_5 (by decide) (fun hq => ?_) (fun hq => ?_)
  · replace hf := if_t hq hf
    clear hq
    exact wX2_takeLink_16 (P := P) C hks g hf H locs ls h (lv_sub hl [0, 1] rfl)
  · replace hf := if_f hq hf
    clear hq
    refine lv_aload_n hx hb dX2_takeLink_8 rfl (lv_at hl 0 rfl) ?_
    refine xg_X2 6 C h (by decide) tb_15_23 rfl rfl dX2_takeLink_9 ?_
    refine lv_iconst (v := (3 : Int32)) hx hb dX2_takeLink_12 (by decide) ?_
    refine lv_icmp_ne (tgt := 20) hx hb dX2_takeLink_13 (by decide) (fun hq => ?_) (fun hq => ?_)
    · replace hf := if_tn hq hf
      clear hq
      refine lv_iconst (v := (0 : Int32)) hx hb dX2_takeLink_20 (by decide) ?_
      exact wX2_takeLink_21 (P := P) C hks g (0 : Int32) hf H locs ls h (lv_sub hl [0, 1] rfl)
    · replace hf := if_t hq hf
      clear hq
      exact wX2_takeLink_16 (P := P) C hks g hf H locs ls h (lv_sub hl [0, 1] rfl)

set_option maxHeartbeats 4000000 in
set_option maxRecDepth 100000 in
theorem wX3_refuse_17 (C : MCx p s m args meth c A RX3 cX3_refuse 2 none D cs)  {g' : CS}  : ∀ (g : CS) (t1 : Int32), fX3_refuse_17 P g t1 = some g' → ∀ (H : Heap) (locs : List Loc) (ls : Array Slot), MH D (SW cs ad al P g) A s H locs → lv_has ls 2 [(0, .ref (ad 4))] → W p l e (rM 0) s m args below meth c H locs 0 0 (MQ below (GPost D none (SW cs ad al P g') A) args s 0 0 A) (F0 m 17 ls [.int t1, .ref (ad 4)]) := by
  have hx := C.1
  have hb := C.2.1
  intro g t1 hf H locs ls h hl
  unfold fX3_refuse_17 at hf
  replace hf := bnd_ex hf
  obtain ⟨g1, eg1, hf⟩ := hf
  refine xp_X3_2 C h tb_9_14 dX3_refuse_17 (fun H locs h => ?_)
  rw [← eg1] at h
  clear eg1
  refine lv_aload_n hx hb dX3_refuse_20 rfl (lv_at hl 0 rfl) ?_
  refine lv_aload_n hx hb dX3_refuse_21 rfl (lv_at hl 0 rfl) ?_
  refine xg_X3 0 C h (by decide) tb_3_8 rfl rfl dX3_refuse_22 ?_
  refine xg_X8 4 C h (by decide) tb_13_20 rfl rfl dX3_refuse_25 ?_
  replace hf := bnd_ex hf
  obtain ⟨g2, eg2, hf⟩ := hf
  refine xp_X3_3 C h tb_9_15 dX3_refuse_28 (fun H locs h => ?_)
  rw [← eg2] at h
  clear eg2
  have e1 := Option.some.inj hf
  subst e1
  exact m_vret C h dX3_refuse_31

set_option maxHeartbeats 4000000 in
set_option maxRecDepth 100000 in
theorem qX3_refuse {l : Launch} {D : va_G} {cs : Nat → ClassId} {ad al : Nat → Nat} {P : PL} {g' : CS} {g : CS}  {a0 : Int32} (hf : fX3_refuse P g a0 = some g') : GCon l D cs yX3_refuse cX3_refuse 2 none (rM 0) 0 0 [.ref (ad 4), .int a0] (SW cs ad al P g) none (SW cs ad al P g') := by
  refine GCon.of (by decide) (Nat.le_of_ble_eq_true rfl) ?_
  intro p e s m args below meth c A ls H locs C h hl
  have hx := C.1
  have hb := C.2.1
  have C : MCx p s m args meth c A RX3 cX3_refuse 2 none D cs := C
  have hl : lv_has ls 2 [(0, .ref (ad 4)), (1, .int a0)] := hl
  unfold fX3_refuse at hf
  refine lv_aload_n hx hb dX3_refuse_0 rfl (lv_at hl 0 rfl) ?_
  refine lv_aload_n hx hb dX3_refuse_1 rfl (lv_at hl 0 rfl) ?_
  refine xg_X3 0 C h (by decide) tb_3_8 rfl rfl dX3_refuse_2 ?_
  refine xg_X8 3 C h (by decide) tb_9_19 rfl rfl dX3_refuse_5 ?_
  refine lv_iconst (v := (4 : Int32)) hx hb dX3_refuse_8 (by decide) ?_
  refine lv_icmp_ne (tgt := 16) hx hb dX3_refuse_9 (by decide) (fun hq => ?_) (fun hq => ?_)
  · replace hf := if_tn hq hf
    clear hq
    refine lv_iload_n hx hb dX3_refuse_16 rfl (lv_at hl 1 rfl) ?_
    exact wX3_refuse_17 (P := P) C g a0 hf H locs ls h (lv_sub hl [0] rfl)
  · replace hf := if_t hq hf
    clear hq
    refine lv_iconst (v := (1 : Int32)) hx hb dX3_refuse_12 (by decide) ?_
    refine lv_goto (tgt := 17) hx hb dX3_refuse_13 (by decide) ?_
    exact wX3_refuse_17 (P := P) C g (1 : Int32) hf H locs ls h (lv_sub hl [0] rfl)

set_option maxHeartbeats 4000000 in
set_option maxRecDepth 100000 in
theorem wX8_isBlank_12 (C : MCx p s m args meth c A RX8 cX8_isBlank 1 (some .boolean) D cs)  {r : Int32}  : fX8_isBlank_12  = some r → ∀ (H : Heap) (locs : List Loc) (ls : Array Slot), MH D [] A s H locs → lv_has ls 1 [] → W p l e (rM 0) s m args below meth c H locs 0 0 (MQ below (GPost D (some (.int r)) [] A) args s 0 0 A) (F0 m 12 ls []) := by
  have hx := C.1
  have hb := C.2.1
  intro  hf H locs ls h hl
  unfold fX8_isBlank_12 at hf
  refine lv_iconst (v := (1 : Int32)) hx hb dX8_isBlank_12 (by decide) ?_
  refine lv_goto (tgt := 17) hx hb dX8_isBlank_13 (by decide) ?_
  have e1 := Option.some.inj hf
  subst e1
  exact m_zret C h rfl dX8_isBlank_17

set_option maxHeartbeats 4000000 in
set_option maxRecDepth 100000 in
theorem qX8_isBlank {l : Launch} {D : va_G} {cs : Nat → ClassId} {r : Int32}  {a0 : Int32} (hf : fX8_isBlank a0 = some r) : GCon l D cs yX8_isBlank cX8_isBlank 1 (some .boolean) (rM 0) 0 0 [.int a0] [] (some (.int r)) [] := by
  refine GCon.of (by decide) (Nat.le_of_ble_eq_true rfl) ?_
  intro p e s m args below meth c A ls H locs C h hl
  have hx := C.1
  have hb := C.2.1
  have C : MCx p s m args meth c A RX8 cX8_isBlank 1 (some .boolean) D cs := C
  have hl : lv_has ls 1 [(0, .int a0)] := hl
  unfold fX8_isBlank at hf
  refine lv_iload_n hx hb dX8_isBlank_0 rfl (lv_at hl 0 rfl) ?_
  refine lv_bipush (v := (10 : Int32)) hx hb dX8_isBlank_1 (by decide) ?_
  refine lv_icmp_eq (tgt := 12) hx hb dX8_isBlank_3 (by decide) (fun hq => ?_) (fun hq => ?_)
  · replace hf := if_t hq hf
    clear hq
    exact wX8_isBlank_12 C  hf H locs ls h (lv_sub hl [] rfl)
  · replace hf := if_f hq hf
    clear hq
    refine lv_iload_n hx hb dX8_isBlank_6 rfl (lv_at hl 0 rfl) ?_
    refine lv_bipush (v := (32 : Int32)) hx hb dX8_isBlank_7 (by decide) ?_
    refine lv_icmp_ne (tgt := 16) hx hb dX8_isBlank_9 (by decide) (fun hq => ?_) (fun hq => ?_)
    · replace hf := if_tn hq hf
      clear hq
      refine lv_iconst (v := (0 : Int32)) hx hb dX8_isBlank_16 (by decide) ?_
      have e1 := Option.some.inj hf
      subst e1
      exact m_zret C h rfl dX8_isBlank_17
    · replace hf := if_t hq hf
      clear hq
      exact wX8_isBlank_12 C  hf H locs ls h (lv_sub hl [] rfl)

set_option maxHeartbeats 4000000 in
set_option maxRecDepth 100000 in
theorem qX8_isDigit {l : Launch} {D : va_G} {cs : Nat → ClassId} {r : Int32}  {a0 : Int32} (hf : fX8_isDigit a0 = some r) : GCon l D cs yX8_isDigit cX8_isDigit 1 (some .boolean) (rM 0) 0 0 [.int a0] [] (some (.int r)) [] := by
  refine GCon.of (by decide) (Nat.le_of_ble_eq_true rfl) ?_
  intro p e s m args below meth c A ls H locs C h hl
  have hx := C.1
  have hb := C.2.1
  have C : MCx p s m args meth c A RX8 cX8_isDigit 1 (some .boolean) D cs := C
  have hl : lv_has ls 1 [(0, .int a0)] := hl
  unfold fX8_isDigit at hf
  refine lv_iload_n hx hb dX8_isDigit_0 rfl (lv_at hl 0 rfl) ?_
  refine lv_bipush (v := (48 : Int32)) hx hb dX8_isDigit_1 (by decide) ?_
  refine lv_icmp_lt (tgt := 16) hx hb dX8_isDigit_3 (by decide) (fun hq => ?_) (fun hq => ?_)
  · replace hf := if_t hq hf
    clear hq
    refine lv_iconst (v := (0 : Int32)) hx hb dX8_isDigit_16 (by decide) ?_
    have e1 := Option.some.inj hf
    subst e1
    exact m_zret C h rfl dX8_isDigit_17
  · replace hf := if_f hq hf
    clear hq
    refine lv_iload_n hx hb dX8_isDigit_6 rfl (lv_at hl 0 rfl) ?_
    refine lv_bipush (v := (57 : Int32)) hx hb dX8_isDigit_7 (by decide) ?_
    refine lv_icmp_gt (tgt := 16) hx hb dX8_isDigit_9 (by decide) (fun hq => ?_) (fun hq => ?_)
    · replace hf := if_t hq hf
      clear hq
      refine lv_iconst (v := (0 : Int32)) hx hb dX8_isDigit_16 (by decide) ?_
      have e1 := Option.some.inj hf
      subst e1
      exact m_zret C h rfl dX8_isDigit_17
    · replace hf := if_f hq hf
      clear hq
      refine lv_iconst (v := (1 : Int32)) hx hb dX8_isDigit_12 (by decide) ?_
      refine lv_goto (tgt := 17) hx hb dX8_isDigit_13 (by decide) ?_
      have e1 := Option.some.inj hf
      subst e1
      exact m_zret C h rfl dX8_isDigit_17

set_option maxHeartbeats 4000000 in
set_option maxRecDepth 100000 in
theorem qX8_isLetter {l : Launch} {D : va_G} {cs : Nat → ClassId} {r : Int32}  {a0 : Int32} (hf : fX8_isLetter a0 = some r) : GCon l D cs yX8_isLetter cX8_isLetter 1 (some .boolean) (rM 0) 0 0 [.int a0] [] (some (.int r)) [] := by
  refine GCon.of (by decide) (Nat.le_of_ble_eq_true rfl) ?_
  intro p e s m args below meth c A ls H locs C h hl
  have hx := C.1
  have hb := C.2.1
  have C : MCx p s m args meth c A RX8 cX8_isLetter 1 (some .boolean) D cs := C
  have hl : lv_has ls 1 [(0, .int a0)] := hl
  unfold fX8_isLetter at hf
  refine lv_iload_n hx hb dX8_isLetter_0 rfl (lv_at hl 0 rfl) ?_
  refine lv_bipush (v := (97 : Int32)) hx hb dX8_isLetter_1 (by decide) ?_
  refine lv_icmp_lt (tgt := 16) hx hb dX8_isLetter_3 (by decide) (fun hq => ?_) (fun hq => ?_)
  · replace hf := if_t hq hf
    clear hq
    refine lv_iconst (v := (0 : Int32)) hx hb dX8_isLetter_16 (by decide) ?_
    have e1 := Option.some.inj hf
    subst e1
    exact m_zret C h rfl dX8_isLetter_17
  · replace hf := if_f hq hf
    clear hq
    refine lv_iload_n hx hb dX8_isLetter_6 rfl (lv_at hl 0 rfl) ?_
    refine lv_bipush (v := (122 : Int32)) hx hb dX8_isLetter_7 (by decide) ?_
    refine lv_icmp_gt (tgt := 16) hx hb dX8_isLetter_9 (by decide) (fun hq => ?_) (fun hq => ?_)
    · replace hf := if_t hq hf
      clear hq
      refine lv_iconst (v := (0 : Int32)) hx hb dX8_isLetter_16 (by decide) ?_
      have e1 := Option.some.inj hf
      subst e1
      exact m_zret C h rfl dX8_isLetter_17
    · replace hf := if_f hq hf
      clear hq
      refine lv_iconst (v := (1 : Int32)) hx hb dX8_isLetter_12 (by decide) ?_
      refine lv_goto (tgt := 17) hx hb dX8_isLetter_13 (by decide) ?_
      have e1 := Option.some.inj hf
      subst e1
      exact m_zret C h rfl dX8_isLetter_17

set_option maxHeartbeats 4000000 in
set_option maxRecDepth 100000 in
theorem qX8_isSign {l : Launch} {D : va_G} {cs : Nat → ClassId} {r : Int32}  {a0 : Int32} (hf : fX8_isSign a0 = some r) : GCon l D cs yX8_isSign cX8_isSign 1 (some .boolean) (rM 0) 0 0 [.int a0] [] (some (.int r)) [] := by
  refine GCon.of (by decide) (Nat.le_of_ble_eq_true rfl) ?_
  intro p e s m args below meth c A ls H locs C h hl
  have hx := C.1
  have hb := C.2.1
  have C : MCx p s m args meth c A RX8 cX8_isSign 1 (some .boolean) D cs := C
  have hl : lv_has ls 1 [(0, .int a0)] := hl
  unfold fX8_isSign at hf
  refine lv_iload_n hx hb dX8_isSign_0 rfl (lv_at hl 0 rfl) ?_
  rcases Decidable.em (a0 = (40 : Int32)) with hq | q40
  · replace hf := if_t hq hf
    subst hq
    refine lv_lookup (off := 107) (tgt := 108) hx hb dX8_isSign_1 (by decide) (by decide) (by decide) ?_
    refine lv_iconst (v := (1 : Int32)) hx hb dX8_isSign_108 (by decide) ?_
    have e1 := Option.some.inj hf
    subst e1
    exact m_zret C h rfl dX8_isSign_109
  replace hf := if_f q40 hf
  rcases Decidable.em (a0 = (41 : Int32)) with hq | q41
  · replace hf := if_t hq hf
    subst hq
    refine lv_lookup (off := 107) (tgt := 108) hx hb dX8_isSign_1 (by decide) (by decide) (by decide) ?_
    refine lv_iconst (v := (1 : Int32)) hx hb dX8_isSign_108 (by decide) ?_
    have e1 := Option.some.inj hf
    subst e1
    exact m_zret C h rfl dX8_isSign_109
  replace hf := if_f q41 hf
  rcases Decidable.em (a0 = (42 : Int32)) with hq | q42
  · replace hf := if_t hq hf
    subst hq
    refine lv_lookup (off := 107) (tgt := 108) hx hb dX8_isSign_1 (by decide) (by decide) (by decide) ?_
    refine lv_iconst (v := (1 : Int32)) hx hb dX8_isSign_108 (by decide) ?_
    have e1 := Option.some.inj hf
    subst e1
    exact m_zret C h rfl dX8_isSign_109
  replace hf := if_f q42 hf
  rcases Decidable.em (a0 = (43 : Int32)) with hq | q43
  · replace hf := if_t hq hf
    subst hq
    refine lv_lookup (off := 107) (tgt := 108) hx hb dX8_isSign_1 (by decide) (by decide) (by decide) ?_
    refine lv_iconst (v := (1 : Int32)) hx hb dX8_isSign_108 (by decide) ?_
    have e1 := Option.some.inj hf
    subst e1
    exact m_zret C h rfl dX8_isSign_109
  replace hf := if_f q43 hf
  rcases Decidable.em (a0 = (45 : Int32)) with hq | q45
  · replace hf := if_t hq hf
    subst hq
    refine lv_lookup (off := 107) (tgt := 108) hx hb dX8_isSign_1 (by decide) (by decide) (by decide) ?_
    refine lv_iconst (v := (1 : Int32)) hx hb dX8_isSign_108 (by decide) ?_
    have e1 := Option.some.inj hf
    subst e1
    exact m_zret C h rfl dX8_isSign_109
  replace hf := if_f q45 hf
  rcases Decidable.em (a0 = (58 : Int32)) with hq | q58
  · replace hf := if_t hq hf
    subst hq
    refine lv_lookup (off := 107) (tgt := 108) hx hb dX8_isSign_1 (by decide) (by decide) (by decide) ?_
    refine lv_iconst (v := (1 : Int32)) hx hb dX8_isSign_108 (by decide) ?_
    have e1 := Option.some.inj hf
    subst e1
    exact m_zret C h rfl dX8_isSign_109
  replace hf := if_f q58 hf
  rcases Decidable.em (a0 = (59 : Int32)) with hq | q59
  · replace hf := if_t hq hf
    subst hq
    refine lv_lookup (off := 107) (tgt := 108) hx hb dX8_isSign_1 (by decide) (by decide) (by decide) ?_
    refine lv_iconst (v := (1 : Int32)) hx hb dX8_isSign_108 (by decide) ?_
    have e1 := Option.some.inj hf
    subst e1
    exact m_zret C h rfl dX8_isSign_109
  replace hf := if_f q59 hf
  rcases Decidable.em (a0 = (60 : Int32)) with hq | q60
  · replace hf := if_t hq hf
    subst hq
    refine lv_lookup (off := 107) (tgt := 108) hx hb dX8_isSign_1 (by decide) (by decide) (by decide) ?_
    refine lv_iconst (v := (1 : Int32)) hx hb dX8_isSign_108 (by decide) ?_
    have e1 := Option.some.inj hf
    subst e1
    exact m_zret C h rfl dX8_isSign_109
  replace hf := if_f q60 hf
  rcases Decidable.em (a0 = (61 : Int32)) with hq | q61
  · replace hf := if_t hq hf
    subst hq
    refine lv_lookup (off := 107) (tgt := 108) hx hb dX8_isSign_1 (by decide) (by decide) (by decide) ?_
    refine lv_iconst (v := (1 : Int32)) hx hb dX8_isSign_108 (by decide) ?_
    have e1 := Option.some.inj hf
    subst e1
    exact m_zret C h rfl dX8_isSign_109
  replace hf := if_f q61 hf
  rcases Decidable.em (a0 = (62 : Int32)) with hq | q62
  · replace hf := if_t hq hf
    subst hq
    refine lv_lookup (off := 107) (tgt := 108) hx hb dX8_isSign_1 (by decide) (by decide) (by decide) ?_
    refine lv_iconst (v := (1 : Int32)) hx hb dX8_isSign_108 (by decide) ?_
    have e1 := Option.some.inj hf
    subst e1
    exact m_zret C h rfl dX8_isSign_109
  replace hf := if_f q62 hf
  rcases Decidable.em (a0 = (91 : Int32)) with hq | q91
  · replace hf := if_t hq hf
    subst hq
    refine lv_lookup (off := 107) (tgt := 108) hx hb dX8_isSign_1 (by decide) (by decide) (by decide) ?_
    refine lv_iconst (v := (1 : Int32)) hx hb dX8_isSign_108 (by decide) ?_
    have e1 := Option.some.inj hf
    subst e1
    exact m_zret C h rfl dX8_isSign_109
  replace hf := if_f q91 hf
  rcases Decidable.em (a0 = (93 : Int32)) with hq | q93
  · replace hf := if_t hq hf
    subst hq
    refine lv_lookup (off := 107) (tgt := 108) hx hb dX8_isSign_1 (by decide) (by decide) (by decide) ?_
    refine lv_iconst (v := (1 : Int32)) hx hb dX8_isSign_108 (by decide) ?_
    have e1 := Option.some.inj hf
    subst e1
    exact m_zret C h rfl dX8_isSign_109
  replace hf := if_f q93 hf
  refine lv_lookup (off := 109) (tgt := 110) hx hb dX8_isSign_1 (by decide) (by
      show Op.lookupswitch.offset [(40, 107), (41, 107), (42, 107), (43, 107), (45, 107), (58, 107), (59, 107), (60, 107), (61, 107), (62, 107), (91, 107), (93, 107)] 109 a0.toInt = _
      rw [lv_osw q40 (by decide), lv_osw q41 (by decide), lv_osw q42 (by decide), lv_osw q43 (by decide), lv_osw q45 (by decide), lv_osw q58 (by decide), lv_osw q59 (by decide), lv_osw q60 (by decide), lv_osw q61 (by decide), lv_osw q62 (by decide), lv_osw q91 (by decide), lv_osw q93 (by decide)]
      rfl) (by decide) ?_
  refine lv_iconst (v := (0 : Int32)) hx hb dX8_isSign_110 (by decide) ?_
  have e1 := Option.some.inj hf
  subst e1
  exact m_zret C h rfl dX8_isSign_111

set_option maxHeartbeats 4000000 in
set_option maxRecDepth 100000 in
theorem wX8_step_253 (C : MCx p s m args meth c A RX8 cX8_step 1 none D cs)  {g' : CS}  : ∀ (g : CS) (t1 : Int32), fX8_step_253 P g t1 = some g' → ∀ (H : Heap) (locs : List Loc) (ls : Array Slot), MH D (SW cs ad al P g) A s H locs → lv_has ls 1 [(0, .ref (ad 5))] → W p l e (rM 1) s m args below meth c H locs 0 0 (MQ below (GPost D none (SW cs ad al P g') A) args s 0 0 A) (F0 m 253 ls [.int t1, .ref (ad 5)]) := by
  have hx := C.1
  have hb := C.2.1
  intro g t1 hf H locs ls h hl
  unfold fX8_step_253 at hf
  replace hf := bnd_ex hf
  obtain ⟨g1, eg1, hf⟩ := hf
  refine xp_X8_3 C h tb_10_12 dX8_step_253 (fun H locs h => ?_)
  rw [← eg1] at h
  clear eg1
  refine lv_aload_n hx hb dX8_step_256 rfl (lv_at hl 0 rfl) ?_
  refine lv_dup hx hb dX8_step_257 rfl ?_
  refine xg_X8 2 C h (by decide) tb_10_5 rfl rfl dX8_step_258 ?_
  refine lv_iconst (v := (1 : Int32)) hx hb dX8_step_261 (by decide) ?_
  refine lv_iadd hx hb dX8_step_262 ?_
  replace hf := bnd_ex hf
  obtain ⟨g2, eg2, hf⟩ := hf
  refine xp_X8_2 C h tb_10_5 dX8_step_263 (fun H locs h => ?_)
  rw [← eg2] at h
  clear eg2
  have e1 := Option.some.inj hf
  subst e1
  exact m_vret C h dX8_step_266

set_option maxHeartbeats 4000000 in
set_option maxRecDepth 100000 in
theorem wX8_step_231 (C : MCx p s m args meth c A RX8 cX8_step 1 none D cs)  {g' : CS}  : ∀ (g : CS) (t1 : Int32), fX8_step_231 P g t1 = some g' → ∀ (H : Heap) (locs : List Loc) (ls : Array Slot), MH D (SW cs ad al P g) A s H locs → lv_has ls 1 [] → W p l e (rM 1) s m args below meth c H locs 0 0 (MQ below (GPost D none (SW cs ad al P g') A) args s 0 0 A) (F0 m 231 ls [.int t1, .ref (ad 5)]) := by
  have hx := C.1
  have hb := C.2.1
  intro g t1 hf H locs ls h hl
  unfold fX8_step_231 at hf
  replace hf := bnd_ex hf
  obtain ⟨g3, eg3, hf⟩ := hf
  refine xp_X8_3 C h tb_10_12 dX8_step_231 (fun H locs h => ?_)
  rw [← eg3] at h
  clear eg3
  refine lv_goto (tgt := 266) hx hb dX8_step_234 (by decide) ?_
  have e1 := Option.some.inj hf
  subst e1
  exact m_vret C h dX8_step_266

set_option maxHeartbeats 4000000 in
set_option maxRecDepth 100000 in
theorem wX8_step_212 (C : MCx p s m args meth c A RX8 cX8_step 1 none D cs)  {g' : CS}  : ∀ (g : CS), fX8_step_212 P g = some g' → ∀ (H : Heap) (locs : List Loc) (ls : Array Slot), MH D (SW cs ad al P g) A s H locs → lv_has ls 1 [(0, .ref (ad 5))] → W p l e (rM 1) s m args below meth c H locs 0 0 (MQ below (GPost D none (SW cs ad al P g') A) args s 0 0 A) (F0 m 212 ls []) := by
  have hx := C.1
  have hb := C.2.1
  intro g hf H locs ls h hl
  unfold fX8_step_212 at hf
  refine lv_aload_n hx hb dX8_step_212 rfl (lv_at hl 0 rfl) ?_
  refine lv_aload_n hx hb dX8_step_213 rfl (lv_at hl 0 rfl) ?_
  refine xg_X8 2 C h (by decide) tb_10_5 rfl rfl dX8_step_214 ?_
  refine lv_aload_n hx hb dX8_step_217 rfl (lv_at hl 0 rfl) ?_
  refine xg_X8 4 C h (by decide) tb_10_10 rfl rfl dX8_step_218 ?_
  refine lv_isub hx hb dX8_step_221 ?_
  refine lv_iconst (v := (3 : Int32)) hx hb dX8_step_222 (by decide) ?_
  refine lv_icmp_gt (tgt := 230) hx hb dX8_step_223 (by decide) (fun hq => ?_) (fun hq => ?_)
  · replace hf := if_t hq hf
    clear hq
    refine lv_iconst (v := (4 : Int32)) hx hb dX8_step_230 (by decide) ?_
    exact wX8_step_231 (P := P) C g (4 : Int32) hf H locs ls h (lv_sub hl [] rfl)
  · replace hf := if_f hq hf
    clear hq
    refine lv_iconst (v := (2 : Int32)) hx hb dX8_step_226 (by decide) ?_
    refine lv_goto (tgt := 231) hx hb dX8_step_227 (by decide) ?_
    exact wX8_step_231 (P := P) C g (2 : Int32) hf H locs ls h (lv_sub hl [] rfl)

set_option maxHeartbeats 4000000 in
set_option maxRecDepth 100000 in
theorem wX8_step_145 (C : MCx p s m args meth c A RX8 cX8_step 1 none D cs)  {g' : CS}  : ∀ (n : Nat) (g : CS), fX8_step_145 P n g = some g' → ∀ (H : Heap) (locs : List Loc) (ls : Array Slot), MH D (SW cs ad al P g) A s H locs → lv_has ls 1 [(0, .ref (ad 5))] → W p l e (rM 1) s m args below meth c H locs 0 0 (MQ below (GPost D none (SW cs ad al P g') A) args s 0 0 A) (F0 m 145 ls []) := by
  have hx := C.1
  have hb := C.2.1
  intro n
  induction n with
  | zero =>
    intro g hf
    exact absurd hf (by simp [fX8_step_145])
  | succ n ih =>
    intro g hf H locs ls h hl
    rw [fX8_step_145] at hf
    refine lv_aload_n hx hb dX8_step_145 rfl (lv_at hl 0 rfl) ?_
    refine xg_X8 2 C h (by decide) tb_10_5 rfl rfl dX8_step_146 ?_
    refine lv_aload_n hx hb dX8_step_149 rfl (lv_at hl 0 rfl) ?_
    refine xg_X8 1 C h (by decide) tb_10_4 rfl rfl dX8_step_150 ?_
    refine lv_icmp_ge (tgt := 212) hx hb dX8_step_153 (by decide) (fun hq => ?_) (fun hq => ?_)
    · replace hf := if_t hq hf
      clear hq
      exact wX8_step_212 (P := P) C g hf H locs ls h (lv_sub hl [0] rfl)
    · replace hf := if_f hq hf
      clear hq
      refine lv_aload_n hx hb dX8_step_156 rfl (lv_at hl 0 rfl) ?_
      refine lv_aload_n hx hb dX8_step_157 rfl (lv_at hl 0 rfl) ?_
      refine xg_X8 2 C h (by decide) tb_10_5 rfl rfl dX8_step_158 ?_
      replace hf := bndc_some hf
      obtain ⟨x4, g5, hc, hf⟩ := hf
      refine m_callVi [.int (g.1 5 2)] C h cv_X8_31 (qX8_signAt hc) rfl ⟨rfl, rfl⟩ ⟨Nat.le_of_ble_eq_true rfl, Nat.le_of_ble_eq_true rfl⟩ (rv_X8 C h) hl.1 rfl (Nat.le_of_ble_eq_true rfl) ⟨Nat.le_refl _, Nat.le_refl _⟩ dX8_step_161 (fun H locs h => ?_)
      clear hc
      replace hf := bndv_some hf
      obtain ⟨x6, hc, hf⟩ := hf
      refine m_callSi [.int x4] C h cs_X8_51 (qX8_isDigit hc) rfl ⟨rfl, rfl⟩ ⟨Nat.le_of_ble_eq_true rfl, Nat.le_of_ble_eq_true rfl⟩ hl.1 rfl (Nat.le_of_ble_eq_true rfl) ⟨Nat.le_refl _, Nat.le_refl _⟩ dX8_step_164 (fun H locs h => ?_)
      clear hc
      refine lv_if_eq (tgt := 212) hx hb dX8_step_167 (by decide) (fun hq => ?_) (fun hq => ?_)
      · replace hf := if_t hq hf
        clear hq
        exact wX8_step_212 (P := P) C g5 hf H locs ls h (lv_sub hl [0] rfl)
      · replace hf := if_f hq hf
        clear hq
        refine lv_aload_n hx hb dX8_step_170 rfl (lv_at hl 0 rfl) ?_
        refine lv_aload_n hx hb dX8_step_171 rfl (lv_at hl 0 rfl) ?_
        refine xg_X8 5 C h (by decide) tb_10_11 rfl rfl dX8_step_172 ?_
        refine lv_bipush (v := (10 : Int32)) hx hb dX8_step_175 (by decide) ?_
        refine lv_imul hx hb dX8_step_177 ?_
        refine lv_aload_n hx hb dX8_step_178 rfl (lv_at hl 0 rfl) ?_
        refine lv_aload_n hx hb dX8_step_179 rfl (lv_at hl 0 rfl) ?_
        refine xg_X8 2 C h (by decide) tb_10_5 rfl rfl dX8_step_180 ?_
        replace hf := bndc_some hf
        obtain ⟨x7, g8, hc, hf⟩ := hf
        refine m_callVi [.int (g5.1 5 2)] C h cv_X8_31 (qX8_signAt hc) rfl ⟨rfl, rfl⟩ ⟨Nat.le_of_ble_eq_true rfl, Nat.le_of_ble_eq_true rfl⟩ (rv_X8 C h) hl.1 rfl (Nat.le_of_ble_eq_true rfl) ⟨Nat.le_refl _, Nat.le_refl _⟩ dX8_step_183 (fun H locs h => ?_)
        clear hc
        refine lv_iadd hx hb dX8_step_186 ?_
        refine lv_bipush (v := (48 : Int32)) hx hb dX8_step_187 (by decide) ?_
        refine lv_isub hx hb dX8_step_189 ?_
        refine lv_sipush (v := (1000 : Int32)) hx hb dX8_step_190 (by decide) ?_
        refine x_min tb_10_0 C hl.1 (Nat.le_of_ble_eq_true rfl) (Nat.le_of_ble_eq_true rfl) (Nat.le_refl _) (Nat.le_refl _) dX8_step_193 ?_
        replace hf := bnd_ex hf
        obtain ⟨g9, eg9, hf⟩ := hf
        refine xp_X8_5 C h tb_10_11 dX8_step_196 (fun H locs h => ?_)
        rw [← eg9] at h
        clear eg9
        refine lv_aload_n hx hb dX8_step_199 rfl (lv_at hl 0 rfl) ?_
        refine lv_dup hx hb dX8_step_200 rfl ?_
        refine xg_X8 2 C h (by decide) tb_10_5 rfl rfl dX8_step_201 ?_
        refine lv_iconst (v := (1 : Int32)) hx hb dX8_step_204 (by decide) ?_
        refine lv_iadd hx hb dX8_step_205 ?_
        replace hf := bnd_ex hf
        obtain ⟨g10, eg10, hf⟩ := hf
        refine xp_X8_2 C h tb_10_5 dX8_step_206 (fun H locs h => ?_)
        rw [← eg10] at h
        clear eg10
        refine lv_goto (tgt := 145) hx hb dX8_step_209 (by decide) ?_
        exact ih g10 hf H locs ls h (lv_sub hl [0] rfl)

set_option maxHeartbeats 4000000 in
set_option maxRecDepth 100000 in
theorem wX8_step_92 (C : MCx p s m args meth c A RX8 cX8_step 1 none D cs)  {g' : CS}  : ∀ (n : Nat) (g : CS), fX8_step_92 P n g = some g' → ∀ (H : Heap) (locs : List Loc) (ls : Array Slot), MH D (SW cs ad al P g) A s H locs → lv_has ls 1 [(0, .ref (ad 5))] → W p l e (rM 1) s m args below meth c H locs 0 0 (MQ below (GPost D none (SW cs ad al P g') A) args s 0 0 A) (F0 m 92 ls []) := by
  have hx := C.1
  have hb := C.2.1
  intro n
  induction n with
  | zero =>
    intro g hf
    exact absurd hf (by simp [fX8_step_92])
  | succ n ih =>
    intro g hf H locs ls h hl
    rw [fX8_step_92] at hf
    refine lv_aload_n hx hb dX8_step_92 rfl (lv_at hl 0 rfl) ?_
    refine xg_X8 2 C h (by decide) tb_10_5 rfl rfl dX8_step_93 ?_
    refine lv_aload_n hx hb dX8_step_96 rfl (lv_at hl 0 rfl) ?_
    refine xg_X8 1 C h (by decide) tb_10_4 rfl rfl dX8_step_97 ?_
    refine lv_icmp_ge (tgt := 266) hx hb dX8_step_100 (by decide) (fun hq => ?_) (fun hq => ?_)
    · replace hf := if_t hq hf
      clear hq
      have e1 := Option.some.inj hf
      subst e1
      exact m_vret C h dX8_step_266
    · replace hf := if_f hq hf
      clear hq
      refine lv_aload_n hx hb dX8_step_103 rfl (lv_at hl 0 rfl) ?_
      refine lv_aload_n hx hb dX8_step_104 rfl (lv_at hl 0 rfl) ?_
      refine xg_X8 2 C h (by decide) tb_10_5 rfl rfl dX8_step_105 ?_
      replace hf := bndc_some hf
      obtain ⟨x11, g12, hc, hf⟩ := hf
      refine m_callVi [.int (g.1 5 2)] C h cv_X8_31 (qX8_signAt hc) rfl ⟨rfl, rfl⟩ ⟨Nat.le_of_ble_eq_true rfl, Nat.le_of_ble_eq_true rfl⟩ (rv_X8 C h) hl.1 rfl (Nat.le_of_ble_eq_true rfl) ⟨Nat.le_refl _, Nat.le_refl _⟩ dX8_step_108 (fun H locs h => ?_)
      clear hc
      replace hf := bndv_some hf
      obtain ⟨x13, hc, hf⟩ := hf
      refine m_callSi [.int x11] C h cs_X8_48 (qX8_isLetter hc) rfl ⟨rfl, rfl⟩ ⟨Nat.le_of_ble_eq_true rfl, Nat.le_of_ble_eq_true rfl⟩ hl.1 rfl (Nat.le_of_ble_eq_true rfl) ⟨Nat.le_refl _, Nat.le_refl _⟩ dX8_step_111 (fun H locs h => ?_)
      clear hc
      refine lv_if_eq (tgt := 266) hx hb dX8_step_114 (by decide) (fun hq => ?_) (fun hq => ?_)
      · replace hf := if_t hq hf
        clear hq
        have e1 := Option.some.inj hf
        subst e1
        exact m_vret C h dX8_step_266
      · replace hf := if_f hq hf
        clear hq
        refine lv_aload_n hx hb dX8_step_117 rfl (lv_at hl 0 rfl) ?_
        refine lv_dup hx hb dX8_step_118 rfl ?_
        refine xg_X8 2 C h (by decide) tb_10_5 rfl rfl dX8_step_119 ?_
        refine lv_iconst (v := (1 : Int32)) hx hb dX8_step_122 (by decide) ?_
        refine lv_iadd hx hb dX8_step_123 ?_
        replace hf := bnd_ex hf
        obtain ⟨g14, eg14, hf⟩ := hf
        refine xp_X8_2 C h tb_10_5 dX8_step_124 (fun H locs h => ?_)
        rw [← eg14] at h
        clear eg14
        refine lv_goto (tgt := 92) hx hb dX8_step_127 (by decide) ?_
        exact ih g14 hf H locs ls h (lv_sub hl [0] rfl)

set_option maxHeartbeats 4000000 in
set_option maxRecDepth 100000 in
theorem wX8_step_38 (C : MCx p s m args meth c A RX8 cX8_step 1 none D cs)  {g' : CS}  : ∀ (g : CS), fX8_step_38 P g = some g' → ∀ (H : Heap) (locs : List Loc) (ls : Array Slot), MH D (SW cs ad al P g) A s H locs → lv_has ls 1 [(0, .ref (ad 5))] → W p l e (rM 1) s m args below meth c H locs 0 0 (MQ below (GPost D none (SW cs ad al P g') A) args s 0 0 A) (F0 m 38 ls []) := by
  have hx := C.1
  have hb := C.2.1
  intro g hf H locs ls h hl
  unfold fX8_step_38 at hf
  refine lv_aload_n hx hb dX8_step_38 rfl (lv_at hl 0 rfl) ?_
  refine lv_aload_n hx hb dX8_step_39 rfl (lv_at hl 0 rfl) ?_
  refine xg_X8 2 C h (by decide) tb_10_5 rfl rfl dX8_step_40 ?_
  replace hf := bnd_ex hf
  obtain ⟨g15, eg15, hf⟩ := hf
  refine xp_X8_4 C h tb_10_10 dX8_step_43 (fun H locs h => ?_)
  rw [← eg15] at h
  clear eg15
  refine lv_aload_n hx hb dX8_step_46 rfl (lv_at hl 0 rfl) ?_
  refine lv_aload_n hx hb dX8_step_47 rfl (lv_at hl 0 rfl) ?_
  refine lv_aload_n hx hb dX8_step_48 rfl (lv_at hl 0 rfl) ?_
  refine xg_X8 2 C h (by decide) tb_10_5 rfl rfl dX8_step_49 ?_
  replace hf := bndc_some hf
  obtain ⟨x16, g17, hc, hf⟩ := hf
  refine m_callVi [.int (g15.1 5 2)] C h cv_X8_31 (qX8_signAt hc) rfl ⟨rfl, rfl⟩ ⟨Nat.le_of_ble_eq_true rfl, Nat.le_of_ble_eq_true rfl⟩ (rv_X8 C h) hl.1 rfl (Nat.le_of_ble_eq_true rfl) ⟨Nat.le_refl _, Nat.le_refl _⟩ dX8_step_52 (fun H locs h => ?_)
  clear hc
  replace hf := bnd_ex hf
  obtain ⟨g18, eg18, hf⟩ := hf
  refine xp_X8_5 C h tb_10_11 dX8_step_55 (fun H locs h => ?_)
  rw [← eg18] at h
  clear eg18
  refine lv_aload_n hx hb dX8_step_58 rfl (lv_at hl 0 rfl) ?_
  refine xg_X8 2 C h (by decide) tb_10_5 rfl rfl dX8_step_59 ?_
  refine lv_aload_n hx hb dX8_step_62 rfl (lv_at hl 0 rfl) ?_
  refine xg_X8 1 C h (by decide) tb_10_4 rfl rfl dX8_step_63 ?_
  refine lv_icmp_lt (tgt := 77) hx hb dX8_step_66 (by decide) (fun hq => ?_) (fun hq => ?_)
  · replace hf := if_t hq hf
    clear hq
    refine lv_aload_n hx hb dX8_step_77 rfl (lv_at hl 0 rfl) ?_
    refine xg_X8 5 C h (by decide) tb_10_11 rfl rfl dX8_step_78 ?_
    replace hf := bndv_some hf
    obtain ⟨x19, hc, hf⟩ := hf
    refine m_callSi [.int (g18.1 5 5)] C h cs_X8_48 (qX8_isLetter hc) rfl ⟨rfl, rfl⟩ ⟨Nat.le_of_ble_eq_true rfl, Nat.le_of_ble_eq_true rfl⟩ hl.1 rfl (Nat.le_of_ble_eq_true rfl) ⟨Nat.le_refl _, Nat.le_refl _⟩ dX8_step_81 (fun H locs h => ?_)
    clear hc
    refine lv_if_eq (tgt := 130) hx hb dX8_step_84 (by decide) (fun hq => ?_) (fun hq => ?_)
    · replace hf := if_t hq hf
      clear hq
      refine lv_aload_n hx hb dX8_step_130 rfl (lv_at hl 0 rfl) ?_
      refine xg_X8 5 C h (by decide) tb_10_11 rfl rfl dX8_step_131 ?_
      replace hf := bndv_some hf
      obtain ⟨x20, hc, hf⟩ := hf
      refine m_callSi [.int (g18.1 5 5)] C h cs_X8_51 (qX8_isDigit hc) rfl ⟨rfl, rfl⟩ ⟨Nat.le_of_ble_eq_true rfl, Nat.le_of_ble_eq_true rfl⟩ hl.1 rfl (Nat.le_of_ble_eq_true rfl) ⟨Nat.le_refl _, Nat.le_refl _⟩ dX8_step_134 (fun H locs h => ?_)
      clear hc
      refine lv_if_eq (tgt := 237) hx hb dX8_step_137 (by decide) (fun hq => ?_) (fun hq => ?_)
      · replace hf := if_t hq hf
        clear hq
        refine lv_aload_n hx hb dX8_step_237 rfl (lv_at hl 0 rfl) ?_
        refine lv_aload_n hx hb dX8_step_238 rfl (lv_at hl 0 rfl) ?_
        refine xg_X8 5 C h (by decide) tb_10_11 rfl rfl dX8_step_239 ?_
        replace hf := bndv_some hf
        obtain ⟨x21, hc, hf⟩ := hf
        refine m_callSi [.int (g18.1 5 5)] C h cs_X8_54 (qX8_isSign hc) rfl ⟨rfl, rfl⟩ ⟨Nat.le_of_ble_eq_true rfl, Nat.le_of_ble_eq_true rfl⟩ hl.1 rfl (Nat.le_of_ble_eq_true rfl) ⟨Nat.le_refl _, Nat.le_refl _⟩ dX8_step_242 (fun H locs h => ?_)
        clear hc
        refine lv_if_eq (tgt := 252) hx hb dX8_step_245 (by decide) (fun hq => ?_) (fun hq => ?_)
        · replace hf := if_t hq hf
          clear hq
          refine lv_iconst (v := (4 : Int32)) hx hb dX8_step_252 (by decide) ?_
          exact wX8_step_253 (P := P) C g18 (4 : Int32) hf H locs ls h (lv_sub hl [0] rfl)
        · replace hf := if_f hq hf
          clear hq
          refine lv_iconst (v := (3 : Int32)) hx hb dX8_step_248 (by decide) ?_
          refine lv_goto (tgt := 253) hx hb dX8_step_249 (by decide) ?_
          exact wX8_step_253 (P := P) C g18 (3 : Int32) hf H locs ls h (lv_sub hl [0] rfl)
      · replace hf := if_f hq hf
        clear hq
        refine lv_aload_n hx hb dX8_step_140 rfl (lv_at hl 0 rfl) ?_
        refine lv_iconst (v := (0 : Int32)) hx hb dX8_step_141 (by decide) ?_
        replace hf := bnd_ex hf
        obtain ⟨g22, eg22, hf⟩ := hf
        refine xp_X8_5 C h tb_10_11 dX8_step_142 (fun H locs h => ?_)
        rw [← eg22] at h
        clear eg22
        exact wX8_step_145 (P := P) C fuel g22 hf H locs ls h (lv_sub hl [0] rfl)
    · replace hf := if_f hq hf
      clear hq
      refine lv_aload_n hx hb dX8_step_87 rfl (lv_at hl 0 rfl) ?_
      refine lv_iconst (v := (1 : Int32)) hx hb dX8_step_88 (by decide) ?_
      replace hf := bnd_ex hf
      obtain ⟨g23, eg23, hf⟩ := hf
      refine xp_X8_3 C h tb_10_12 dX8_step_89 (fun H locs h => ?_)
      rw [← eg23] at h
      clear eg23
      exact wX8_step_92 (P := P) C fuel g23 hf H locs ls h (lv_sub hl [0] rfl)
  · replace hf := if_f hq hf
    clear hq
    refine lv_aload_n hx hb dX8_step_69 rfl (lv_at hl 0 rfl) ?_
    refine lv_iconst (v := (0 : Int32)) hx hb dX8_step_70 (by decide) ?_
    replace hf := bnd_ex hf
    obtain ⟨g24, eg24, hf⟩ := hf
    refine xp_X8_3 C h tb_10_12 dX8_step_71 (fun H locs h => ?_)
    rw [← eg24] at h
    clear eg24
    refine lv_goto (tgt := 266) hx hb dX8_step_74 (by decide) ?_
    have e1 := Option.some.inj hf
    subst e1
    exact m_vret C h dX8_step_266

set_option maxHeartbeats 4000000 in
set_option maxRecDepth 100000 in
theorem wX8_step_0 (C : MCx p s m args meth c A RX8 cX8_step 1 none D cs)  {g' : CS}  : ∀ (n : Nat) (g : CS), fX8_step_0 P n g = some g' → ∀ (H : Heap) (locs : List Loc) (ls : Array Slot), MH D (SW cs ad al P g) A s H locs → lv_has ls 1 [(0, .ref (ad 5))] → W p l e (rM 1) s m args below meth c H locs 0 0 (MQ below (GPost D none (SW cs ad al P g') A) args s 0 0 A) (F0 m 0 ls []) := by
  have hx := C.1
  have hb := C.2.1
  intro n
  induction n with
  | zero =>
    intro g hf
    exact absurd hf (by simp [fX8_step_0])
  | succ n ih =>
    intro g hf H locs ls h hl
    rw [fX8_step_0] at hf
    refine lv_aload_n hx hb dX8_step_0 rfl (lv_at hl 0 rfl) ?_
    refine xg_X8 2 C h (by decide) tb_10_5 rfl rfl dX8_step_1 ?_
    refine lv_aload_n hx hb dX8_step_4 rfl (lv_at hl 0 rfl) ?_
    refine xg_X8 1 C h (by decide) tb_10_4 rfl rfl dX8_step_5 ?_
    refine lv_icmp_ge (tgt := 38) hx hb dX8_step_8 (by decide) (fun hq => ?_) (fun hq => ?_)
    · replace hf := if_t hq hf
      clear hq
      exact wX8_step_38 (P := P) C g hf H locs ls h (lv_sub hl [0] rfl)
    · replace hf := if_f hq hf
      clear hq
      refine lv_aload_n hx hb dX8_step_11 rfl (lv_at hl 0 rfl) ?_
      refine lv_aload_n hx hb dX8_step_12 rfl (lv_at hl 0 rfl) ?_
      refine xg_X8 2 C h (by decide) tb_10_5 rfl rfl dX8_step_13 ?_
      replace hf := bndc_some hf
      obtain ⟨x25, g26, hc, hf⟩ := hf
      refine m_callVi [.int (g.1 5 2)] C h cv_X8_31 (qX8_signAt hc) rfl ⟨rfl, rfl⟩ ⟨Nat.le_of_ble_eq_true rfl, Nat.le_of_ble_eq_true rfl⟩ (rv_X8 C h) hl.1 rfl (Nat.le_of_ble_eq_true rfl) ⟨Nat.le_refl _, Nat.le_refl _⟩ dX8_step_16 (fun H locs h => ?_)
      clear hc
      replace hf := bndv_some hf
      obtain ⟨x27, hc, hf⟩ := hf
      refine m_callSi [.int x25] C h cs_X8_35 (qX8_isBlank hc) rfl ⟨rfl, rfl⟩ ⟨Nat.le_of_ble_eq_true rfl, Nat.le_of_ble_eq_true rfl⟩ hl.1 rfl (Nat.le_of_ble_eq_true rfl) ⟨Nat.le_refl _, Nat.le_refl _⟩ dX8_step_19 (fun H locs h => ?_)
      clear hc
      refine lv_if_eq (tgt := 38) hx hb dX8_step_22 (by decide) (fun hq => ?_) (fun hq => ?_)
      · replace hf := if_t hq hf
        clear hq
        exact wX8_step_38 (P := P) C g26 hf H locs ls h (lv_sub hl [0] rfl)
      · replace hf := if_f hq hf
        clear hq
        refine lv_aload_n hx hb dX8_step_25 rfl (lv_at hl 0 rfl) ?_
        refine lv_dup hx hb dX8_step_26 rfl ?_
        refine xg_X8 2 C h (by decide) tb_10_5 rfl rfl dX8_step_27 ?_
        refine lv_iconst (v := (1 : Int32)) hx hb dX8_step_30 (by decide) ?_
        refine lv_iadd hx hb dX8_step_31 ?_
        replace hf := bnd_ex hf
        obtain ⟨g28, eg28, hf⟩ := hf
        refine xp_X8_2 C h tb_10_5 dX8_step_32 (fun H locs h => ?_)
        rw [← eg28] at h
        clear eg28
        refine lv_goto (tgt := 0) hx hb dX8_step_35 (by decide) ?_
        exact ih g28 hf H locs ls h (lv_sub hl [0] rfl)

set_option maxHeartbeats 4000000 in
set_option maxRecDepth 100000 in
theorem qX8_step {l : Launch} {D : va_G} {cs : Nat → ClassId} {ad al : Nat → Nat} {P : PL} {g' : CS} {g : CS}  (hf : fX8_step P g = some g') : GCon l D cs yX8_step cX8_step 1 none (rM 1) 0 0 [.ref (ad 5)] (SW cs ad al P g) none (SW cs ad al P g') := by
  refine GCon.of (by decide) (Nat.le_of_ble_eq_true rfl) ?_
  intro p e s m args below meth c A ls H locs C h hl
  have hx := C.1
  have hb := C.2.1
  have C : MCx p s m args meth c A RX8 cX8_step 1 none D cs := C
  have hl : lv_has ls 1 [(0, .ref (ad 5))] := hl
  unfold fX8_step at hf
  exact wX8_step_0 (P := P) C fuel g hf H locs ls h (lv_sub hl [0] rfl)
end
