section
variable {p : Program} {l : Launch} {e : Env} {s : State} {m : MethodId} {args : Array Value} {below : List Frame} {meth : Method} {c : Code} {D : va_G} {cs : Nat → ClassId} {ad al adK adV : Nat → Nat} {P : PL} {A : Nat → Prop}
set_option maxHeartbeats 4000000 in
set_option maxRecDepth 100000 in
theorem qX3_takeSign {l : Launch} {D : va_G} {cs : Nat → ClassId} {ad al : Nat → Nat} {P : PL} {g' : CS} {g : CS}  {a0 : Int32} (hf : fX3_takeSign P g a0 = some g') : GCon l D cs yX3_takeSign cX3_takeSign 2 none (rM 2) 0 0 [.ref (ad 4), .int a0] (SW cs ad al P g) none (SW cs ad al P g') := by
  refine GCon.of (by decide) (Nat.le_of_ble_eq_true rfl) ?_
  intro p e s m args below meth c A ls H locs C h hl
  have hx := C.1
  have hb := C.2.1
  have C : MCx p s m args meth c A RX3 cX3_takeSign 2 none D cs := C
  have hl : lv_has ls 2 [(0, .ref (ad 4)), (1, .int a0)] := hl
  unfold fX3_takeSign at hf
  refine lv_aload_n hx hb dX3_takeSign_0 rfl (lv_at hl 0 rfl) ?_
  refine xg_X3 2 C h (by decide) tb_9_14 rfl rfl dX3_takeSign_1 ?_
  refine lv_if_eq (tgt := 8) hx hb dX3_takeSign_4 (by decide) (fun hq => ?_) (fun hq => ?_)
  · replace hf := if_t hq hf
    clear hq
    refine lv_aload_n hx hb dX3_takeSign_8 rfl (lv_at hl 0 rfl) ?_
    refine xg_X3 0 C h (by decide) tb_3_8 rfl rfl dX3_takeSign_9 ?_
    refine lv_iload_n hx hb dX3_takeSign_12 rfl (lv_at hl 1 rfl) ?_
    replace hf := bndc_some hf
    obtain ⟨x1, g2, hc, hf⟩ := hf
    refine m_callVi [.int a0] C h cv_X3_151 (qX8_isSignOf hc) rfl ⟨rfl, rfl⟩ ⟨Nat.le_of_ble_eq_true rfl, Nat.le_of_ble_eq_true rfl⟩ (rv_X8 C h) hl.1 rfl (Nat.le_of_ble_eq_true rfl) ⟨Nat.le_refl _, Nat.le_refl _⟩ dX3_takeSign_13 (fun H locs h => ?_)
    clear hc
    refine lv_if_eq (tgt := 29) hx hb dX3_takeSign_16 (by decide) (fun hq => ?_) (fun hq => ?_)
    · replace hf := if_t hq hf
      clear hq
      refine lv_aload_n hx hb dX3_takeSign_29 rfl (lv_at hl 0 rfl) ?_
      refine lv_iconst (v := (2 : Int32)) hx hb dX3_takeSign_30 (by decide) ?_
      replace hf := bndv_some hf
      obtain ⟨g3, hc, hf⟩ := hf
      refine m_callVv [.int (2 : Int32)] C h cv_X3_75 (qX3_refuse hc) rfl ⟨rfl, rfl⟩ ⟨Nat.le_of_ble_eq_true rfl, Nat.le_of_ble_eq_true rfl⟩ (rv_X3 C h) hl.1 rfl (Nat.le_of_ble_eq_true rfl) ⟨Nat.le_refl _, Nat.le_refl _⟩ dX3_takeSign_31 (fun H locs h => ?_)
      clear hc
      have e1 := Option.some.inj hf
      subst e1
      exact m_vret C h dX3_takeSign_34
    · replace hf := if_f hq hf
      clear hq
      refine lv_aload_n hx hb dX3_takeSign_19 rfl (lv_at hl 0 rfl) ?_
      refine xg_X3 0 C h (by decide) tb_3_8 rfl rfl dX3_takeSign_20 ?_
      replace hf := bndv_some hf
      obtain ⟨g4, hc, hf⟩ := hf
      refine m_callVv [] C h cv_X3_78 (qX8_step hc) rfl ⟨rfl, rfl⟩ ⟨Nat.le_of_ble_eq_true rfl, Nat.le_of_ble_eq_true rfl⟩ (rv_X8 C h) hl.1 rfl (Nat.le_of_ble_eq_true rfl) ⟨Nat.le_refl _, Nat.le_refl _⟩ dX3_takeSign_23 (fun H locs h => ?_)
      clear hc
      refine lv_goto (tgt := 34) hx hb dX3_takeSign_26 (by decide) ?_
      have e1 := Option.some.inj hf
      subst e1
      exact m_vret C h dX3_takeSign_34
  · replace hf := if_f hq hf
    clear hq
    have e1 := Option.some.inj hf
    subst e1
    exact m_vret C h dX3_takeSign_7

set_option maxHeartbeats 4000000 in
set_option maxRecDepth 100000 in
theorem qX3_endLine {l : Launch} {D : va_G} {cs : Nat → ClassId} {ad al : Nat → Nat} {P : PL} {g' : CS} {g : CS}  (hf : fX3_endLine P g = some g') : GCon l D cs yX3_endLine cX3_endLine 1 none (rM 3) 0 0 [.ref (ad 4)] (SW cs ad al P g) none (SW cs ad al P g') := by
  refine GCon.of (by decide) (Nat.le_of_ble_eq_true rfl) ?_
  intro p e s m args below meth c A ls H locs C h hl
  have hx := C.1
  have hb := C.2.1
  have C : MCx p s m args meth c A RX3 cX3_endLine 1 none D cs := C
  have hl : lv_has ls 1 [(0, .ref (ad 4))] := hl
  unfold fX3_endLine at hf
  refine lv_aload_n hx hb dX3_endLine_0 rfl (lv_at hl 0 rfl) ?_
  refine lv_bipush (v := (59 : Int32)) hx hb dX3_endLine_1 (by decide) ?_
  replace hf := bndv_some hf
  obtain ⟨g1, hc, hf⟩ := hf
  refine m_callVv [.int (59 : Int32)] C h cv_X3_124 (qX3_takeSign hc) rfl ⟨rfl, rfl⟩ ⟨Nat.le_of_ble_eq_true rfl, Nat.le_of_ble_eq_true rfl⟩ (rv_X3 C h) hl.1 rfl (Nat.le_of_ble_eq_true rfl) ⟨Nat.le_refl _, Nat.le_refl _⟩ dX3_endLine_3 (fun H locs h => ?_)
  clear hc
  refine lv_aload_n hx hb dX3_endLine_6 rfl (lv_at hl 0 rfl) ?_
  refine xg_X3 2 C h (by decide) tb_9_14 rfl rfl dX3_endLine_7 ?_
  refine lv_if_ne (tgt := 23) hx hb dX3_endLine_10 (by decide) (fun hq => ?_) (fun hq => ?_)
  · replace hf := if_tn hq hf
    clear hq
    have e1 := Option.some.inj hf
    subst e1
    exact m_vret C h dX3_endLine_23
  · replace hf := if_t hq hf
    clear hq
    refine lv_aload_n hx hb dX3_endLine_13 rfl (lv_at hl 0 rfl) ?_
    refine lv_dup hx hb dX3_endLine_14 rfl ?_
    refine xg_X3 5 C h (by decide) tb_9_16 rfl rfl dX3_endLine_15 ?_
    refine lv_iconst (v := (1 : Int32)) hx hb dX3_endLine_18 (by decide) ?_
    refine lv_iadd hx hb dX3_endLine_19 ?_
    replace hf := bnd_ex hf
    obtain ⟨g2, eg2, hf⟩ := hf
    refine xp_X3_5 C h tb_9_16 dX3_endLine_20 (fun H locs h => ?_)
    rw [← eg2] at h
    clear eg2
    have e1 := Option.some.inj hf
    subst e1
    exact m_vret C h dX3_endLine_23

set_option maxHeartbeats 4000000 in
set_option maxRecDepth 100000 in
theorem wX3_takeNumber_45 (C : MCx p s m args meth c A RX3 cX3_takeNumber 4 (some .int) D cs)  {r : Int32} {g' : CS}  : ∀ (g : CS) (y1 : Int32), fX3_takeNumber_45 P g y1 = some (r, g') → ∀ (H : Heap) (locs : List Loc) (ls : Array Slot), MH D (SW cs ad al P g) A s H locs → lv_has ls 4 [(0, .ref (ad 4)), (1, .int y1)] → W p l e (rM 2) s m args below meth c H locs 0 0 (MQ below (GPost D (some (.int r)) (SW cs ad al P g') A) args s 0 0 A) (F0 m 45 ls []) := by
  have hx := C.1
  have hb := C.2.1
  intro g y1 hf H locs ls h hl
  unfold fX3_takeNumber_45 at hf
  refine lv_aload_n hx hb dX3_takeNumber_45 rfl (lv_at hl 0 rfl) ?_
  refine lv_iconst (v := (3 : Int32)) hx hb dX3_takeNumber_46 (by decide) ?_
  replace hf := bndv_some hf
  obtain ⟨g1, hc, hf⟩ := hf
  refine m_callVv [.int (3 : Int32)] C h cv_X3_75 (qX3_refuse hc) rfl ⟨rfl, rfl⟩ ⟨Nat.le_of_ble_eq_true rfl, Nat.le_of_ble_eq_true rfl⟩ (rv_X3 C h) hl.1 rfl (Nat.le_of_ble_eq_true rfl) ⟨Nat.le_refl _, Nat.le_refl _⟩ dX3_takeNumber_47 (fun H locs h => ?_)
  clear hc
  refine lv_iload_n hx hb dX3_takeNumber_50 rfl (lv_at hl 1 rfl) ?_
  obtain ⟨e1, e2⟩ := pr_inj hf
  subst e1 e2
  exact m_iret C h dX3_takeNumber_51

set_option maxHeartbeats 4000000 in
set_option maxRecDepth 100000 in
theorem qX3_takeNumber {l : Launch} {D : va_G} {cs : Nat → ClassId} {ad al : Nat → Nat} {P : PL} {r : Int32} {g' : CS} {g : CS}  {a0 : Int32} {a1 : Int32} (hf : fX3_takeNumber P g a0 a1 = some (r, g')) : GCon l D cs yX3_takeNumber cX3_takeNumber 4 (some .int) (rM 2) 0 0 [.ref (ad 4), .int a0, .int a1] (SW cs ad al P g) (some (.int r)) (SW cs ad al P g') := by
  refine GCon.of (by decide) (Nat.le_of_ble_eq_true rfl) ?_
  intro p e s m args below meth c A ls H locs C h hl
  have hx := C.1
  have hb := C.2.1
  have C : MCx p s m args meth c A RX3 cX3_takeNumber 4 (some .int) D cs := C
  have hl : lv_has ls 4 [(0, .ref (ad 4)), (1, .int a0), (2, .int a1)] := hl
  unfold fX3_takeNumber at hf
  refine lv_aload_n hx hb dX3_takeNumber_0 rfl (lv_at hl 0 rfl) ?_
  refine xg_X3 2 C h (by decide) tb_9_14 rfl rfl dX3_takeNumber_1 ?_
  refine lv_if_eq (tgt := 9) hx hb dX3_takeNumber_4 (by decide) (fun hq => ?_) (fun hq => ?_)
  · replace hf := if_t hq hf
    clear hq
    refine lv_aload_n hx hb dX3_takeNumber_9 rfl (lv_at hl 0 rfl) ?_
    refine xg_X3 0 C h (by decide) tb_3_8 rfl rfl dX3_takeNumber_10 ?_
    refine xg_X8 5 C h (by decide) tb_14_2 rfl rfl dX3_takeNumber_13 ?_
    refine lv_topi (fun x2 ex2 => ?_)
    replace hf := bnd_at ex2 hf
    clear ex2
    refine lv_istore_n (lv' := [(3, .int x2), (0, .ref (ad 4)), (1, .int a0), (2, .int a1)]) hx hb dX3_takeNumber_16 rfl hl (by decide) rfl (fun ls hl => ?_)
    refine lv_aload_n hx hb dX3_takeNumber_17 rfl (lv_at hl 1 rfl) ?_
    refine xg_X3 0 C h (by decide) tb_3_8 rfl rfl dX3_takeNumber_18 ?_
    refine xg_X8 3 C h (by decide) tb_9_19 rfl rfl dX3_takeNumber_21 ?_
    refine lv_iconst (v := (2 : Int32)) hx hb dX3_takeNumber_24 (by decide) ?_
    refine lv_icmp_eq (tgt := 35) hx hb dX3_takeNumber_25 (by decide) (fun hq => ?_) (fun hq => ?_)
    · replace hf := if_t hq hf
      clear hq
      refine lv_iload_n hx hb dX3_takeNumber_35 rfl (lv_at hl 0 rfl) ?_
      refine lv_iload_n hx hb dX3_takeNumber_36 rfl (lv_at hl 2 rfl) ?_
      refine lv_icmp_lt (tgt := 45) hx hb dX3_takeNumber_37 (by decide) (fun hq => ?_) (fun hq => ?_)
      · replace hf := if_t hq hf
        clear hq
        exact wX3_takeNumber_45 (P := P) C g a0 hf H locs ls h (lv_sub hl [1, 2] rfl)
      · replace hf := if_f hq hf
        clear hq
        refine lv_iload_n hx hb dX3_takeNumber_40 rfl (lv_at hl 0 rfl) ?_
        refine lv_iload_n hx hb dX3_takeNumber_41 rfl (lv_at hl 3 rfl) ?_
        refine lv_icmp_le (tgt := 52) hx hb dX3_takeNumber_42 (by decide) (fun hq => ?_) (fun hq => ?_)
        · replace hf := if_t hq hf
          clear hq
          refine lv_aload_n hx hb dX3_takeNumber_52 rfl (lv_at hl 1 rfl) ?_
          refine xg_X3 0 C h (by decide) tb_3_8 rfl rfl dX3_takeNumber_53 ?_
          replace hf := bndv_some hf
          obtain ⟨g3, hc, hf⟩ := hf
          refine m_callVv [] C h cv_X3_78 (qX8_step hc) rfl ⟨rfl, rfl⟩ ⟨Nat.le_of_ble_eq_true rfl, Nat.le_of_ble_eq_true rfl⟩ (rv_X8 C h) hl.1 rfl (Nat.le_of_ble_eq_true rfl) ⟨Nat.le_refl _, Nat.le_refl _⟩ dX3_takeNumber_56 (fun H locs h => ?_)
          clear hc
          refine lv_iload_n hx hb dX3_takeNumber_59 rfl (lv_at hl 0 rfl) ?_
          obtain ⟨e1, e2⟩ := pr_inj hf
          subst e1 e2
          exact m_iret C h dX3_takeNumber_60
        · replace hf := if_f hq hf
          clear hq
          exact wX3_takeNumber_45 (P := P) C g a0 hf H locs ls h (lv_sub hl [1, 2] rfl)
    · replace hf := if_f hq hf
      clear hq
      refine lv_aload_n hx hb dX3_takeNumber_28 rfl (lv_at hl 1 rfl) ?_
      refine lv_iconst (v := (2 : Int32)) hx hb dX3_takeNumber_29 (by decide) ?_
      replace hf := bndv_some hf
      obtain ⟨g4, hc, hf⟩ := hf
      refine m_callVv [.int (2 : Int32)] C h cv_X3_75 (qX3_refuse hc) rfl ⟨rfl, rfl⟩ ⟨Nat.le_of_ble_eq_true rfl, Nat.le_of_ble_eq_true rfl⟩ (rv_X3 C h) hl.1 rfl (Nat.le_of_ble_eq_true rfl) ⟨Nat.le_refl _, Nat.le_refl _⟩ dX3_takeNumber_30 (fun H locs h => ?_)
      clear hc
      refine lv_iload_n hx hb dX3_takeNumber_33 rfl (lv_at hl 2 rfl) ?_
      obtain ⟨e1, e2⟩ := pr_inj hf
      subst e1 e2
      exact m_iret C h dX3_takeNumber_34
  · replace hf := if_f hq hf
    clear hq
    refine lv_iload_n hx hb dX3_takeNumber_7 rfl (lv_at hl 1 rfl) ?_
    obtain ⟨e1, e2⟩ := pr_inj hf
    subst e1 e2
    exact m_iret C h dX3_takeNumber_8

set_option maxHeartbeats 4000000 in
set_option maxRecDepth 100000 in
theorem qX3_readBoard {l : Launch} {D : va_G} {cs : Nat → ClassId} {ad al : Nat → Nat} {P : PL} {adK adV : Nat → Nat} {g' : CS} {g : CS}  (hf : fX3_readBoard P g = some g') : GConK l D cs adK adV yX3_readBoard cX3_readBoard 1 none (rM 5) 0 0 [.ref (ad 4)] (SW cs ad al P g) none (SW cs ad al P g') := by
  refine GConK.of (by decide) (Nat.le_of_ble_eq_true rfl) ?_
  intro p e s m args below meth c A ls H locs C hks h hl
  have hx := C.1
  have hb := C.2.1
  have C : MCx p s m args meth c A RX3 cX3_readBoard 1 none D cs := C
  have hl : lv_has ls 1 [(0, .ref (ad 4))] := hl
  unfold fX3_readBoard at hf
  refine lv_aload_n hx hb dX3_readBoard_0 rfl (lv_at hl 0 rfl) ?_
  refine xg_X3 0 C h (by decide) tb_3_8 rfl rfl dX3_readBoard_1 ?_
  refine va_ldcS (own := RX3) (index := 69) (tx := "board") (q := adK 1) hx hb C.2.2.2.1 (hks.2.1 1 (by decide)) dX3_readBoard_4 ?_
  replace hf := bndc_some hf
  obtain ⟨x1, g2, hc, hf⟩ := hf
  refine m_callVKi [.ref (adK 1)] C hks h cv_X3_71 (qX8_isWord (by decide) hc) rfl ⟨rfl, rfl⟩ ⟨Nat.le_of_ble_eq_true rfl, Nat.le_of_ble_eq_true rfl⟩ (rv_X8 C h) hl.1 rfl (Nat.le_of_ble_eq_true rfl) ⟨Nat.le_refl _, Nat.le_refl _⟩ dX3_readBoard_6 (fun H locs h => ?_)
  clear hc
  refine lv_if_ne (tgt := 18) hx hb dX3_readBoard_9 (by decide) (fun hq => ?_) (fun hq => ?_)
  · replace hf := if_tn hq hf
    clear hq
    refine lv_aload_n hx hb dX3_readBoard_18 rfl (lv_at hl 0 rfl) ?_
    refine xg_X3 0 C h (by decide) tb_3_8 rfl rfl dX3_readBoard_19 ?_
    replace hf := bndv_some hf
    obtain ⟨g3, hc, hf⟩ := hf
    refine m_callVv [] C h cv_X3_78 (qX8_step hc) rfl ⟨rfl, rfl⟩ ⟨Nat.le_of_ble_eq_true rfl, Nat.le_of_ble_eq_true rfl⟩ (rv_X8 C h) hl.1 rfl (Nat.le_of_ble_eq_true rfl) ⟨Nat.le_refl _, Nat.le_refl _⟩ dX3_readBoard_22 (fun H locs h => ?_)
    clear hc
    refine lv_aload_n hx hb dX3_readBoard_25 rfl (lv_at hl 0 rfl) ?_
    refine lv_aload_n hx hb dX3_readBoard_26 rfl (lv_at hl 0 rfl) ?_
    refine lv_iconst (v := (2 : Int32)) hx hb dX3_readBoard_27 (by decide) ?_
    refine lv_bipush (v := (6 : Int32)) hx hb dX3_readBoard_28 (by decide) ?_
    replace hf := bndc_some hf
    obtain ⟨x4, g5, hc, hf⟩ := hf
    refine m_callVi [.int (2 : Int32), .int (6 : Int32)] C h cv_X3_81 (qX3_takeNumber hc) rfl ⟨rfl, rfl⟩ ⟨Nat.le_of_ble_eq_true rfl, Nat.le_of_ble_eq_true rfl⟩ (rv_X3 C h) hl.1 rfl (Nat.le_of_ble_eq_true rfl) ⟨Nat.le_refl _, Nat.le_refl _⟩ dX3_readBoard_30 (fun H locs h => ?_)
    clear hc
    replace hf := bnd_ex hf
    obtain ⟨g6, eg6, hf⟩ := hf
    refine xp_X3_4 C h tb_11_9 dX3_readBoard_33 (fun H locs h => ?_)
    rw [← eg6] at h
    clear eg6
    refine lv_aload_n hx hb dX3_readBoard_36 rfl (lv_at hl 0 rfl) ?_
    refine lv_iconst (v := (1 : Int32)) hx hb dX3_readBoard_37 (by decide) ?_
    refine lv_aload_n hx hb dX3_readBoard_38 rfl (lv_at hl 0 rfl) ?_
    refine xg_X3 4 C h (by decide) tb_11_9 rfl rfl dX3_readBoard_39 ?_
    refine x_ishl hx hb dX3_readBoard_42 ?_
    refine lv_iconst (v := (1 : Int32)) hx hb dX3_readBoard_43 (by decide) ?_
    refine lv_isub hx hb dX3_readBoard_44 ?_
    replace hf := bndv_some hf
    obtain ⟨x7, hc, hf⟩ := hf
    refine m_callSi [.int ((jshl (1 : Int32) (g6.1 4 4)) - (1 : Int32))] C h cs_X3_88 (qX1_ofBits hc) rfl ⟨rfl, rfl⟩ ⟨Nat.le_of_ble_eq_true rfl, Nat.le_of_ble_eq_true rfl⟩ hl.1 rfl (Nat.le_of_ble_eq_true rfl) ⟨Nat.le_refl _, Nat.le_refl _⟩ dX3_readBoard_45 (fun H locs h => ?_)
    clear hc
    replace hf := bnd_ex hf
    obtain ⟨g8, eg8, hf⟩ := hf
    refine xp_X3_7 C h tb_11_10 dX3_readBoard_48 (fun H locs h => ?_)
    rw [← eg8] at h
    clear eg8
    refine lv_aload_n hx hb dX3_readBoard_51 rfl (lv_at hl 0 rfl) ?_
    replace hf := bndv_some hf
    obtain ⟨g9, hc, hf⟩ := hf
    refine m_callVv [] C h cv_X3_97 (qX3_endLine hc) rfl ⟨rfl, rfl⟩ ⟨Nat.le_of_ble_eq_true rfl, Nat.le_of_ble_eq_true rfl⟩ (rv_X3 C h) hl.1 rfl (Nat.le_of_ble_eq_true rfl) ⟨Nat.le_refl _, Nat.le_refl _⟩ dX3_readBoard_52 (fun H locs h => ?_)
    clear hc
    have e1 := Option.some.inj hf
    subst e1
    exact m_vret C h dX3_readBoard_55
  · replace hf := if_t hq hf
    clear hq
    refine lv_aload_n hx hb dX3_readBoard_12 rfl (lv_at hl 0 rfl) ?_
    refine lv_iconst (v := (2 : Int32)) hx hb dX3_readBoard_13 (by decide) ?_
    replace hf := bndv_some hf
    obtain ⟨g10, hc, hf⟩ := hf
    refine m_callVv [.int (2 : Int32)] C h cv_X3_75 (qX3_refuse hc) rfl ⟨rfl, rfl⟩ ⟨Nat.le_of_ble_eq_true rfl, Nat.le_of_ble_eq_true rfl⟩ (rv_X3 C h) hl.1 rfl (Nat.le_of_ble_eq_true rfl) ⟨Nat.le_refl _, Nat.le_refl _⟩ dX3_readBoard_14 (fun H locs h => ?_)
    clear hc
    have e1 := Option.some.inj hf
    subst e1
    exact m_vret C h dX3_readBoard_17

set_option maxHeartbeats 4000000 in
set_option maxRecDepth 100000 in
theorem qX3_readFlag {l : Launch} {D : va_G} {cs : Nat → ClassId} {ad al : Nat → Nat} {P : PL} {adK adV : Nat → Nat} {g' : CS} {g : CS}  {a0 : Int32} (hf : fX3_readFlag P g a0 = some g') : GConK l D cs adK adV yX3_readFlag cX3_readFlag 2 none (rM 5) 0 0 [.ref (ad 4), .int a0] (SW cs ad al P g) none (SW cs ad al P g') := by
  refine GConK.of (by decide) (Nat.le_of_ble_eq_true rfl) ?_
  intro p e s m args below meth c A ls H locs C hks h hl
  have hx := C.1
  have hb := C.2.1
  have C : MCx p s m args meth c A RX3 cX3_readFlag 2 none D cs := C
  have hl : lv_has ls 2 [(0, .ref (ad 4)), (1, .int a0)] := hl
  unfold fX3_readFlag at hf
  refine lv_aload_n hx hb dX3_readFlag_0 rfl (lv_at hl 0 rfl) ?_
  refine xg_X3 0 C h (by decide) tb_3_8 rfl rfl dX3_readFlag_1 ?_
  refine va_ldcS (own := RX3) (index := 115) (tx := "faces") (q := adK 3) hx hb C.2.2.2.1 (hks.2.1 3 (by decide)) dX3_readFlag_4 ?_
  replace hf := bndc_some hf
  obtain ⟨x1, g2, hc, hf⟩ := hf
  refine m_callVKi [.ref (adK 3)] C hks h cv_X3_71 (qX8_isWord (by decide) hc) rfl ⟨rfl, rfl⟩ ⟨Nat.le_of_ble_eq_true rfl, Nat.le_of_ble_eq_true rfl⟩ (rv_X8 C h) hl.1 rfl (Nat.le_of_ble_eq_true rfl) ⟨Nat.le_refl _, Nat.le_refl _⟩ dX3_readFlag_6 (fun H locs h => ?_)
  clear hc
  refine lv_if_eq (tgt := 45) hx hb dX3_readFlag_9 (by decide) (fun hq => ?_) (fun hq => ?_)
  · replace hf := if_t hq hf
    clear hq
    refine lv_aload_n hx hb dX3_readFlag_45 rfl (lv_at hl 0 rfl) ?_
    refine xg_X3 0 C h (by decide) tb_3_8 rfl rfl dX3_readFlag_46 ?_
    refine va_ldcS (own := RX3) (index := 121) (tx := "weight") (q := adK 4) hx hb C.2.2.2.1 (hks.2.1 4 (by decide)) dX3_readFlag_49 ?_
    replace hf := bndc_some hf
    obtain ⟨x3, g4, hc, hf⟩ := hf
    refine m_callVKi [.ref (adK 4)] C hks h cv_X3_71 (qX8_isWord (by decide) hc) rfl ⟨rfl, rfl⟩ ⟨Nat.le_of_ble_eq_true rfl, Nat.le_of_ble_eq_true rfl⟩ (rv_X8 C h) hl.1 rfl (Nat.le_of_ble_eq_true rfl) ⟨Nat.le_refl _, Nat.le_refl _⟩ dX3_readFlag_51 (fun H locs h => ?_)
    clear hc
    refine lv_if_eq (tgt := 86) hx hb dX3_readFlag_54 (by decide) (fun hq => ?_) (fun hq => ?_)
    · replace hf := if_t hq hf
      clear hq
      refine lv_aload_n hx hb dX3_readFlag_86 rfl (lv_at hl 0 rfl) ?_
      refine xg_X3 0 C h (by decide) tb_3_8 rfl rfl dX3_readFlag_87 ?_
      refine va_ldcS (own := RX3) (index := 123) (tx := "stuck") (q := adK 5) hx hb C.2.2.2.1 (hks.2.1 5 (by decide)) dX3_readFlag_90 ?_
      replace hf := bndc_some hf
      obtain ⟨x5, g6, hc, hf⟩ := hf
      refine m_callVKi [.ref (adK 5)] C hks h cv_X3_71 (qX8_isWord (by decide) hc) rfl ⟨rfl, rfl⟩ ⟨Nat.le_of_ble_eq_true rfl, Nat.le_of_ble_eq_true rfl⟩ (rv_X8 C h) hl.1 rfl (Nat.le_of_ble_eq_true rfl) ⟨Nat.le_refl _, Nat.le_refl _⟩ dX3_readFlag_92 (fun H locs h => ?_)
      clear hc
      refine lv_if_eq (tgt := 120) hx hb dX3_readFlag_95 (by decide) (fun hq => ?_) (fun hq => ?_)
      · replace hf := if_t hq hf
        clear hq
        refine lv_aload_n hx hb dX3_readFlag_120 rfl (lv_at hl 0 rfl) ?_
        refine lv_iconst (v := (2 : Int32)) hx hb dX3_readFlag_121 (by decide) ?_
        replace hf := bndv_some hf
        obtain ⟨g7, hc, hf⟩ := hf
        refine m_callVv [.int (2 : Int32)] C h cv_X3_75 (qX3_refuse hc) rfl ⟨rfl, rfl⟩ ⟨Nat.le_of_ble_eq_true rfl, Nat.le_of_ble_eq_true rfl⟩ (rv_X3 C h) hl.1 rfl (Nat.le_of_ble_eq_true rfl) ⟨Nat.le_refl _, Nat.le_refl _⟩ dX3_readFlag_122 (fun H locs h => ?_)
        clear hc
        have e1 := Option.some.inj hf
        subst e1
        exact m_vret C h dX3_readFlag_125
      · replace hf := if_f hq hf
        clear hq
        refine lv_aload_n hx hb dX3_readFlag_98 rfl (lv_at hl 0 rfl) ?_
        refine xg_X3 0 C h (by decide) tb_3_8 rfl rfl dX3_readFlag_99 ?_
        replace hf := bndv_some hf
        obtain ⟨g8, hc, hf⟩ := hf
        refine m_callVv [] C h cv_X3_78 (qX8_step hc) rfl ⟨rfl, rfl⟩ ⟨Nat.le_of_ble_eq_true rfl, Nat.le_of_ble_eq_true rfl⟩ (rv_X8 C h) hl.1 rfl (Nat.le_of_ble_eq_true rfl) ⟨Nat.le_refl _, Nat.le_refl _⟩ dX3_readFlag_102 (fun H locs h => ?_)
        clear hc
        refine lv_aload_n hx hb dX3_readFlag_105 rfl (lv_at hl 0 rfl) ?_
        refine lv_dup hx hb dX3_readFlag_106 rfl ?_
        refine xg_X3 8 C h (by decide) tb_9_18 rfl rfl dX3_readFlag_107 ?_
        refine lv_iconst (v := (1 : Int32)) hx hb dX3_readFlag_110 (by decide) ?_
        refine lv_iload_n hx hb dX3_readFlag_111 rfl (lv_at hl 1 rfl) ?_
        refine x_ishl hx hb dX3_readFlag_112 ?_
        refine lv_ior hx hb dX3_readFlag_113 ?_
        replace hf := bnd_ex hf
        obtain ⟨g9, eg9, hf⟩ := hf
        refine xp_X3_8 C h tb_9_18 dX3_readFlag_114 (fun H locs h => ?_)
        rw [← eg9] at h
        clear eg9
        refine lv_goto (tgt := 125) hx hb dX3_readFlag_117 (by decide) ?_
        have e1 := Option.some.inj hf
        subst e1
        exact m_vret C h dX3_readFlag_125
    · replace hf := if_f hq hf
      clear hq
      refine lv_aload_n hx hb dX3_readFlag_57 rfl (lv_at hl 0 rfl) ?_
      refine xg_X3 0 C h (by decide) tb_3_8 rfl rfl dX3_readFlag_58 ?_
      replace hf := bndv_some hf
      obtain ⟨g10, hc, hf⟩ := hf
      refine m_callVv [] C h cv_X3_78 (qX8_step hc) rfl ⟨rfl, rfl⟩ ⟨Nat.le_of_ble_eq_true rfl, Nat.le_of_ble_eq_true rfl⟩ (rv_X8 C h) hl.1 rfl (Nat.le_of_ble_eq_true rfl) ⟨Nat.le_refl _, Nat.le_refl _⟩ dX3_readFlag_61 (fun H locs h => ?_)
      clear hc
      refine lv_aload_n hx hb dX3_readFlag_64 rfl (lv_at hl 0 rfl) ?_
      refine lv_aload_n hx hb dX3_readFlag_65 rfl (lv_at hl 0 rfl) ?_
      refine xg_X3 7 C h (by decide) tb_11_10 rfl rfl dX3_readFlag_66 ?_
      refine lv_iload_n hx hb dX3_readFlag_69 rfl (lv_at hl 1 rfl) ?_
      refine lv_aload_n hx hb dX3_readFlag_70 rfl (lv_at hl 0 rfl) ?_
      refine lv_iconst (v := (1 : Int32)) hx hb dX3_readFlag_71 (by decide) ?_
      refine lv_bipush (v := (9 : Int32)) hx hb dX3_readFlag_72 (by decide) ?_
      replace hf := bndc_some hf
      obtain ⟨x11, g12, hc, hf⟩ := hf
      refine m_callVi [.int (1 : Int32), .int (9 : Int32)] C h cv_X3_81 (qX3_takeNumber hc) rfl ⟨rfl, rfl⟩ ⟨Nat.le_of_ble_eq_true rfl, Nat.le_of_ble_eq_true rfl⟩ (rv_X3 C h) hl.1 rfl (Nat.le_of_ble_eq_true rfl) ⟨Nat.le_refl _, Nat.le_refl _⟩ dX3_readFlag_74 (fun H locs h => ?_)
      clear hc
      replace hf := bndv_some hf
      obtain ⟨x13, hc, hf⟩ := hf
      refine m_callSi [.int (g10.1 4 7), .int a0, .int x11] C h cs_X3_117 (qX1_with hc) rfl ⟨rfl, rfl⟩ ⟨Nat.le_of_ble_eq_true rfl, Nat.le_of_ble_eq_true rfl⟩ hl.1 rfl (Nat.le_of_ble_eq_true rfl) ⟨Nat.le_refl _, Nat.le_refl _⟩ dX3_readFlag_77 (fun H locs h => ?_)
      clear hc
      replace hf := bnd_ex hf
      obtain ⟨g14, eg14, hf⟩ := hf
      refine xp_X3_7 C h tb_11_10 dX3_readFlag_80 (fun H locs h => ?_)
      rw [← eg14] at h
      clear eg14
      refine lv_goto (tgt := 125) hx hb dX3_readFlag_83 (by decide) ?_
      have e1 := Option.some.inj hf
      subst e1
      exact m_vret C h dX3_readFlag_125
  · replace hf := if_f hq hf
    clear hq
    refine lv_aload_n hx hb dX3_readFlag_12 rfl (lv_at hl 0 rfl) ?_
    refine xg_X3 0 C h (by decide) tb_3_8 rfl rfl dX3_readFlag_13 ?_
    replace hf := bndv_some hf
    obtain ⟨g15, hc, hf⟩ := hf
    refine m_callVv [] C h cv_X3_78 (qX8_step hc) rfl ⟨rfl, rfl⟩ ⟨Nat.le_of_ble_eq_true rfl, Nat.le_of_ble_eq_true rfl⟩ (rv_X8 C h) hl.1 rfl (Nat.le_of_ble_eq_true rfl) ⟨Nat.le_refl _, Nat.le_refl _⟩ dX3_readFlag_16 (fun H locs h => ?_)
    clear hc
    refine lv_aload_n hx hb dX3_readFlag_19 rfl (lv_at hl 0 rfl) ?_
    refine lv_aload_n hx hb dX3_readFlag_20 rfl (lv_at hl 0 rfl) ?_
    refine xg_X3 6 C h (by decide) tb_9_17 rfl rfl dX3_readFlag_21 ?_
    refine lv_iload_n hx hb dX3_readFlag_24 rfl (lv_at hl 1 rfl) ?_
    refine lv_aload_n hx hb dX3_readFlag_25 rfl (lv_at hl 0 rfl) ?_
    refine lv_iconst (v := (0 : Int32)) hx hb dX3_readFlag_26 (by decide) ?_
    refine lv_aload_n hx hb dX3_readFlag_27 rfl (lv_at hl 0 rfl) ?_
    refine xg_X3 4 C h (by decide) tb_11_9 rfl rfl dX3_readFlag_28 ?_
    refine lv_iconst (v := (1 : Int32)) hx hb dX3_readFlag_31 (by decide) ?_
    refine lv_isub hx hb dX3_readFlag_32 ?_
    replace hf := bndc_some hf
    obtain ⟨x16, g17, hc, hf⟩ := hf
    refine m_callVi [.int (0 : Int32), .int ((g15.1 4 4) - (1 : Int32))] C h cv_X3_81 (qX3_takeNumber hc) rfl ⟨rfl, rfl⟩ ⟨Nat.le_of_ble_eq_true rfl, Nat.le_of_ble_eq_true rfl⟩ (rv_X3 C h) hl.1 rfl (Nat.le_of_ble_eq_true rfl) ⟨Nat.le_refl _, Nat.le_refl _⟩ dX3_readFlag_33 (fun H locs h => ?_)
    clear hc
    replace hf := bndv_some hf
    obtain ⟨x18, hc, hf⟩ := hf
    refine m_callSi [.int (g15.1 4 6), .int a0, .int x16] C h cs_X3_117 (qX1_with hc) rfl ⟨rfl, rfl⟩ ⟨Nat.le_of_ble_eq_true rfl, Nat.le_of_ble_eq_true rfl⟩ hl.1 rfl (Nat.le_of_ble_eq_true rfl) ⟨Nat.le_refl _, Nat.le_refl _⟩ dX3_readFlag_36 (fun H locs h => ?_)
    clear hc
    replace hf := bnd_ex hf
    obtain ⟨g19, eg19, hf⟩ := hf
    refine xp_X3_6 C h tb_9_17 dX3_readFlag_39 (fun H locs h => ?_)
    rw [← eg19] at h
    clear eg19
    refine lv_goto (tgt := 125) hx hb dX3_readFlag_42 (by decide) ?_
    have e1 := Option.some.inj hf
    subst e1
    exact m_vret C h dX3_readFlag_125

set_option maxHeartbeats 4000000 in
set_option maxRecDepth 100000 in
theorem wX3_readMember_21 (C : MCx p s m args meth c A RX3 cX3_readMember 3 none D cs) (hks : KS adK adV A s s.heap)  {g' : CS}  : ∀ (n : Nat) (g : CS) (y1 : Int32) (y2 : Int32), fX3_readMember_21 P n g y1 y2 = some g' → ∀ (H : Heap) (locs : List Loc) (ls : Array Slot), MH D (SW cs ad al P g) A s H locs → lv_has ls 3 [(0, .ref (ad 4)), (1, .int y1), (2, .int y2)] → W p l e (rM 6) s m args below meth c H locs 0 0 (MQ below (GPost D none (SW cs ad al P g') A) args s 0 0 A) (F0 m 21 ls []) := by
  have hx := C.1
  have hb := C.2.1
  intro n
  induction n with
  | zero =>
    intro g y1 y2 hf
    exact absurd hf (by simp [fX3_readMember_21])
  | succ n ih =>
    intro g y1 y2 hf H locs ls h hl
    rw [fX3_readMember_21] at hf
    refine lv_iload_n hx hb dX3_readMember_21 rfl (lv_at hl 2 rfl) ?_
    refine lv_sipush (v := (900 : Int32)) hx hb dX3_readMember_22 (by decide) ?_
    refine lv_icmp_ge (tgt := 57) hx hb dX3_readMember_25 (by decide) (fun hq => ?_) (fun hq => ?_)
    · replace hf := if_t hq hf
      clear hq
      have e1 := Option.some.inj hf
      subst e1
      exact m_vret C h dX3_readMember_57
    · replace hf := if_f hq hf
      clear hq
      refine lv_aload_n hx hb dX3_readMember_28 rfl (lv_at hl 0 rfl) ?_
      refine xg_X3 2 C h (by decide) tb_9_14 rfl rfl dX3_readMember_29 ?_
      refine lv_if_ne (tgt := 57) hx hb dX3_readMember_32 (by decide) (fun hq => ?_) (fun hq => ?_)
      · replace hf := if_tn hq hf
        clear hq
        have e1 := Option.some.inj hf
        subst e1
        exact m_vret C h dX3_readMember_57
      · replace hf := if_t hq hf
        clear hq
        refine lv_aload_n hx hb dX3_readMember_35 rfl (lv_at hl 0 rfl) ?_
        refine xg_X3 0 C h (by decide) tb_3_8 rfl rfl dX3_readMember_36 ?_
        refine xg_X8 3 C h (by decide) tb_9_19 rfl rfl dX3_readMember_39 ?_
        refine lv_iconst (v := (1 : Int32)) hx hb dX3_readMember_42 (by decide) ?_
        refine lv_icmp_ne (tgt := 57) hx hb dX3_readMember_43 (by decide) (fun hq => ?_) (fun hq => ?_)
        · replace hf := if_tn hq hf
          clear hq
          have e1 := Option.some.inj hf
          subst e1
          exact m_vret C h dX3_readMember_57
        · replace hf := if_t hq hf
          clear hq
          refine lv_aload_n hx hb dX3_readMember_46 rfl (lv_at hl 0 rfl) ?_
          refine lv_iload_n hx hb dX3_readMember_47 rfl (lv_at hl 1 rfl) ?_
          replace hf := bndv_some hf
          obtain ⟨g1, hc, hf⟩ := hf
          refine m_callVKv [.int y1] C hks h cv_X3_112 (qX3_readFlag hc) rfl ⟨rfl, rfl⟩ ⟨Nat.le_of_ble_eq_true rfl, Nat.le_of_ble_eq_true rfl⟩ (rv_X3 C h) hl.1 rfl (Nat.le_of_ble_eq_true rfl) ⟨Nat.le_refl _, Nat.le_refl _⟩ dX3_readMember_48 (fun H locs h => ?_)
          clear hc
          obtain ⟨x2, ex2⟩ : ∃ z : Int32, z = y2 + (1 : Int32) := ⟨_, rfl⟩
          replace hf := bnd_at ex2 hf
          refine lv_iinc (v := x2) (lv' := [(2, .int x2), (0, .ref (ad 4)), (1, .int y1)]) hx hb dX3_readMember_51 hl (k := 2) rfl (by rw [ex2]; rfl) (by decide) rfl (fun ls hl => ?_)
          clear ex2
          refine lv_goto (tgt := 21) hx hb dX3_readMember_54 (by decide) ?_
          exact ih g1 y1 x2 hf H locs ls h (lv_sub hl [1, 2, 0] rfl)

set_option maxHeartbeats 4000000 in
set_option maxRecDepth 100000 in
theorem qX3_readMember {l : Launch} {D : va_G} {cs : Nat → ClassId} {ad al : Nat → Nat} {P : PL} {adK adV : Nat → Nat} {g' : CS} {g : CS}  (hf : fX3_readMember P g = some g') : GConK l D cs adK adV yX3_readMember cX3_readMember 3 none (rM 6) 0 0 [.ref (ad 4)] (SW cs ad al P g) none (SW cs ad al P g') := by
  refine GConK.of (by decide) (Nat.le_of_ble_eq_true rfl) ?_
  intro p e s m args below meth c A ls H locs C hks h hl
  have hx := C.1
  have hb := C.2.1
  have C : MCx p s m args meth c A RX3 cX3_readMember 3 none D cs := C
  have hl : lv_has ls 3 [(0, .ref (ad 4))] := hl
  unfold fX3_readMember at hf
  refine lv_aload_n hx hb dX3_readMember_0 rfl (lv_at hl 0 rfl) ?_
  refine xg_X3 0 C h (by decide) tb_3_8 rfl rfl dX3_readMember_1 ?_
  replace hf := bndv_some hf
  obtain ⟨g3, hc, hf⟩ := hf
  refine m_callVv [] C h cv_X3_78 (qX8_step hc) rfl ⟨rfl, rfl⟩ ⟨Nat.le_of_ble_eq_true rfl, Nat.le_of_ble_eq_true rfl⟩ (rv_X8 C h) hl.1 rfl (Nat.le_of_ble_eq_true rfl) ⟨Nat.le_refl _, Nat.le_refl _⟩ dX3_readMember_4 (fun H locs h => ?_)
  clear hc
  refine lv_aload_n hx hb dX3_readMember_7 rfl (lv_at hl 0 rfl) ?_
  refine lv_iconst (v := (0 : Int32)) hx hb dX3_readMember_8 (by decide) ?_
  refine lv_aload_n hx hb dX3_readMember_9 rfl (lv_at hl 0 rfl) ?_
  refine xg_X3 4 C h (by decide) tb_11_9 rfl rfl dX3_readMember_10 ?_
  refine lv_iconst (v := (1 : Int32)) hx hb dX3_readMember_13 (by decide) ?_
  refine lv_isub hx hb dX3_readMember_14 ?_
  replace hf := bndc_some hf
  obtain ⟨x4, g5, hc, hf⟩ := hf
  refine m_callVi [.int (0 : Int32), .int ((g3.1 4 4) - (1 : Int32))] C h cv_X3_81 (qX3_takeNumber hc) rfl ⟨rfl, rfl⟩ ⟨Nat.le_of_ble_eq_true rfl, Nat.le_of_ble_eq_true rfl⟩ (rv_X3 C h) hl.1 rfl (Nat.le_of_ble_eq_true rfl) ⟨Nat.le_refl _, Nat.le_refl _⟩ dX3_readMember_15 (fun H locs h => ?_)
  clear hc
  refine lv_istore_n (lv' := [(1, .int x4), (0, .ref (ad 4))]) hx hb dX3_readMember_18 rfl hl (by decide) rfl (fun ls hl => ?_)
  refine lv_iconst (v := (0 : Int32)) hx hb dX3_readMember_19 (by decide) ?_
  refine lv_istore_n (lv' := [(2, .int (0 : Int32)), (1, .int x4), (0, .ref (ad 4))]) hx hb dX3_readMember_20 rfl hl (by decide) rfl (fun ls hl => ?_)
  exact wX3_readMember_21 (P := P) C hks fuel g5 x4 (0 : Int32) hf H locs ls h (lv_sub hl [2, 1, 0] rfl)

set_option maxHeartbeats 4000000 in
set_option maxRecDepth 100000 in
theorem qX3_lawEnds {l : Launch} {D : va_G} {cs : Nat → ClassId} {ad al : Nat → Nat} {P : PL} {r : Int32} {g' : CS} {g : CS}  (hf : fX3_lawEnds P g = some (r, g')) : GCon l D cs yX3_lawEnds cX3_lawEnds 1 (some .boolean) (rM 1) 0 0 [.ref (ad 4)] (SW cs ad al P g) (some (.int r)) (SW cs ad al P g') := by
  refine GCon.of (by decide) (Nat.le_of_ble_eq_true rfl) ?_
  intro p e s m args below meth c A ls H locs C h hl
  have hx := C.1
  have hb := C.2.1
  have C : MCx p s m args meth c A RX3 cX3_lawEnds 1 (some .boolean) D cs := C
  have hl : lv_has ls 1 [(0, .ref (ad 4))] := hl
  unfold fX3_lawEnds at hf
  refine lv_aload_n hx hb dX3_lawEnds_0 rfl (lv_at hl 0 rfl) ?_
  refine xg_X3 1 C h (by decide) tb_3_12 rfl rfl dX3_lawEnds_1 ?_
  replace hf := bndc_some hf
  obtain ⟨x1, g2, hc, hf⟩ := hf
  refine m_callVi [] C h cv_X3_148 (qX2_isWhole hc) rfl ⟨rfl, rfl⟩ ⟨Nat.le_of_ble_eq_true rfl, Nat.le_of_ble_eq_true rfl⟩ (rv_X2 C h) hl.1 rfl (Nat.le_of_ble_eq_true rfl) ⟨Nat.le_refl _, Nat.le_refl _⟩ dX3_lawEnds_4 (fun H locs h => ?_)
  clear hc
  refine lv_if_eq (tgt := 26) hx hb dX3_lawEnds_7 (by decide) (fun hq => ?_) (fun hq => ?_)
  · replace hf := if_t hq hf
    clear hq
    refine lv_iconst (v := (0 : Int32)) hx hb dX3_lawEnds_26 (by decide) ?_
    obtain ⟨e1, e2⟩ := pr_inj hf
    subst e1 e2
    exact m_zret C h rfl dX3_lawEnds_27
  · replace hf := if_f hq hf
    clear hq
    refine lv_aload_n hx hb dX3_lawEnds_10 rfl (lv_at hl 0 rfl) ?_
    refine xg_X3 0 C h (by decide) tb_3_8 rfl rfl dX3_lawEnds_11 ?_
    refine lv_bipush (v := (59 : Int32)) hx hb dX3_lawEnds_14 (by decide) ?_
    replace hf := bndc_some hf
    obtain ⟨x3, g4, hc, hf⟩ := hf
    refine m_callVi [.int (59 : Int32)] C h cv_X3_151 (qX8_isSignOf hc) rfl ⟨rfl, rfl⟩ ⟨Nat.le_of_ble_eq_true rfl, Nat.le_of_ble_eq_true rfl⟩ (rv_X8 C h) hl.1 rfl (Nat.le_of_ble_eq_true rfl) ⟨Nat.le_refl _, Nat.le_refl _⟩ dX3_lawEnds_16 (fun H locs h => ?_)
    clear hc
    refine lv_if_eq (tgt := 26) hx hb dX3_lawEnds_19 (by decide) (fun hq => ?_) (fun hq => ?_)
    · replace hf := if_t hq hf
      clear hq
      refine lv_iconst (v := (0 : Int32)) hx hb dX3_lawEnds_26 (by decide) ?_
      obtain ⟨e1, e2⟩ := pr_inj hf
      subst e1 e2
      exact m_zret C h rfl dX3_lawEnds_27
    · replace hf := if_f hq hf
      clear hq
      refine lv_iconst (v := (1 : Int32)) hx hb dX3_lawEnds_22 (by decide) ?_
      refine lv_goto (tgt := 27) hx hb dX3_lawEnds_23 (by decide) ?_
      obtain ⟨e1, e2⟩ := pr_inj hf
      subst e1 e2
      exact m_zret C h rfl dX3_lawEnds_27

set_option maxHeartbeats 4000000 in
set_option maxRecDepth 100000 in
theorem wX6_draggedBy_26 (C : MCx p s m args meth c A RX6 cX6_draggedBy 7 (some .int) D cs)  {r : Int32} {g' : CS}  : ∀ (n : Nat) (g : CS) (y0 : Nat) (y1 : Int32) (y2 : Int32) (y3 : Int32) (y4 : Int32), okS y0 → fX6_draggedBy_26 P n g y0 y1 y2 y3 y4 = some (r, g') → ∀ (H : Heap) (locs : List Loc) (ls : Array Slot), MH D (SW cs ad al P g) A s H locs → lv_has ls 7 [(0, .ref (ad y0)), (1, .int y1), (2, .int y2), (3, .int y3), (4, .int y4)] → W p l e (rM 2) s m args below meth c H locs 0 0 (MQ below (GPost D (some (.int r)) (SW cs ad al P g') A) args s 0 0 A) (F0 m 26 ls []) := by
  have hx := C.1
  have hb := C.2.1
  intro n
  induction n with
  | zero =>
    intro g y0 y1 y2 y3 y4 hn_y0 hf
    exact absurd hf (by simp [fX6_draggedBy_26])
  | succ n ih =>
    intro g y0 y1 y2 y3 y4 hn_y0 hf H locs ls h hl
    rw [fX6_draggedBy_26] at hf
    refine lv_iload hx hb dX6_draggedBy_26 (lv_at hl 4 rfl) ?_
    refine lv_aload_n hx hb dX6_draggedBy_28 rfl (lv_at hl 0 rfl) ?_
    refine xg_X6 1 hn_y0 C h (by decide) tb_4_14 rfl rfl dX6_draggedBy_29 ?_
    refine lv_icmp_ge (tgt := 97) hx hb dX6_draggedBy_32 (by decide) (fun hq => ?_) (fun hq => ?_)
    · replace hf := if_t hq hf
      clear hq
      refine lv_iload_n hx hb dX6_draggedBy_97 rfl (lv_at hl 2 rfl) ?_
      obtain ⟨e1, e2⟩ := pr_inj hf
      subst e1 e2
      exact m_iret C h dX6_draggedBy_98
    · replace hf := if_f hq hf
      clear hq
      refine lv_iload hx hb dX6_draggedBy_35 (lv_at hl 4 rfl) ?_
      refine lv_iload_n hx hb dX6_draggedBy_37 rfl (lv_at hl 1 rfl) ?_
      refine lv_isub hx hb dX6_draggedBy_38 ?_
      refine x_abs tb_32_9 C hl.1 (Nat.le_of_ble_eq_true rfl) (Nat.le_of_ble_eq_true rfl) (Nat.le_refl _) (Nat.le_refl _) dX6_draggedBy_39 ?_
      refine lv_topi (fun x1 ex1 => ?_)
      replace hf := bnd_at ex1 hf
      clear ex1
      refine lv_istore (lv' := [(5, .int x1), (0, .ref (ad y0)), (1, .int y1), (2, .int y2), (3, .int y3), (4, .int y4)]) hx hb dX6_draggedBy_42 hl (by decide) rfl (fun ls hl => ?_)
      refine lv_iload hx hb dX6_draggedBy_44 (lv_at hl 0 rfl) ?_
      refine lv_aload_n hx hb dX6_draggedBy_46 rfl (lv_at hl 1 rfl) ?_
      refine xg_X6 1 hn_y0 C h (by decide) tb_4_14 rfl rfl dX6_draggedBy_47 ?_
      refine lv_iload hx hb dX6_draggedBy_50 (lv_at hl 0 rfl) ?_
      refine lv_isub hx hb dX6_draggedBy_52 ?_
      refine x_min tb_27_5 C hl.1 (Nat.le_of_ble_eq_true rfl) (Nat.le_of_ble_eq_true rfl) (Nat.le_refl _) (Nat.le_refl _) dX6_draggedBy_53 ?_
      refine lv_topi (fun x2 ex2 => ?_)
      replace hf := bnd_at ex2 hf
      clear ex2
      refine lv_istore (lv' := [(6, .int x2), (5, .int x1), (0, .ref (ad y0)), (1, .int y1), (2, .int y2), (3, .int y3), (4, .int y4)]) hx hb dX6_draggedBy_56 hl (by decide) rfl (fun ls hl => ?_)
      refine lv_iload hx hb dX6_draggedBy_58 (lv_at hl 6 rfl) ?_
      refine lv_iload_n hx hb dX6_draggedBy_60 rfl (lv_at hl 3 rfl) ?_
      refine lv_icmp_eq (tgt := 91) hx hb dX6_draggedBy_61 (by decide) (fun hq => ?_) (fun hq => ?_)
      · replace hf := if_t hq hf
        clear hq
        obtain ⟨x3, ex3⟩ : ∃ z : Int32, z = y4 + (1 : Int32) := ⟨_, rfl⟩
        replace hf := bnd_at ex3 hf
        refine lv_iinc (v := x3) (lv' := [(4, .int x3), (6, .int x2), (5, .int x1), (0, .ref (ad y0)), (1, .int y1), (2, .int y2), (3, .int y3)]) hx hb dX6_draggedBy_91 hl (k := 6) rfl (by rw [ex3]; rfl) (by decide) rfl (fun ls hl => ?_)
        clear ex3
        refine lv_goto (tgt := 26) hx hb dX6_draggedBy_94 (by decide) ?_
        exact ih g y0 y1 y2 y3 x3 hn_y0 hf H locs ls h (lv_sub hl [3, 4, 5, 6, 0] rfl)
      · replace hf := if_f hq hf
        clear hq
        refine lv_aload_n hx hb dX6_draggedBy_64 rfl (lv_at hl 2 rfl) ?_
        refine xg_X6 0 hn_y0 C h (by decide) tb_4_13 rfl rfl dX6_draggedBy_65 ?_
        refine lv_aload_n hx hb dX6_draggedBy_68 rfl (lv_at hl 2 rfl) ?_
        refine xg_X6 8 hn_y0 C h (by decide) tb_4_16 rfl rfl dX6_draggedBy_69 ?_
        refine lv_iload_n hx hb dX6_draggedBy_72 rfl (lv_at hl 3 rfl) ?_
        refine lv_iload_n hx hb dX6_draggedBy_73 rfl (lv_at hl 5 rfl) ?_
        refine lv_iload hx hb dX6_draggedBy_74 (lv_at hl 6 rfl) ?_
        refine lv_iload hx hb dX6_draggedBy_76 (lv_at hl 0 rfl) ?_
        replace hf := bndc_some hf
        obtain ⟨x4, g5, hc, hf⟩ := hf
        refine m_callVi [.ref (al (g.2.2.2 y0 8)), .int y1, .int y3, .int y4, .int x2] C h cv_X6_87 (qX4_reckon hc) rfl ⟨rfl, rfl⟩ ⟨Nat.le_of_ble_eq_true rfl, Nat.le_of_ble_eq_true rfl⟩ (rv_X4 C h) hl.1 rfl (Nat.le_of_ble_eq_true rfl) ⟨Nat.le_refl _, Nat.le_refl _⟩ dX6_draggedBy_78 (fun H locs h => ?_)
        clear hc
        refine lv_if_eq (tgt := 91) hx hb dX6_draggedBy_81 (by decide) (fun hq => ?_) (fun hq => ?_)
        · replace hf := if_t hq hf
          clear hq
          obtain ⟨x6, ex6⟩ : ∃ z : Int32, z = y4 + (1 : Int32) := ⟨_, rfl⟩
          replace hf := bnd_at ex6 hf
          refine lv_iinc (v := x6) (lv' := [(4, .int x6), (6, .int x2), (5, .int x1), (0, .ref (ad y0)), (1, .int y1), (2, .int y2), (3, .int y3)]) hx hb dX6_draggedBy_91 hl (k := 6) rfl (by rw [ex6]; rfl) (by decide) rfl (fun ls hl => ?_)
          clear ex6
          refine lv_goto (tgt := 26) hx hb dX6_draggedBy_94 (by decide) ?_
          exact ih g5 y0 y1 y2 y3 x6 hn_y0 hf H locs ls h (lv_sub hl [3, 4, 5, 6, 0] rfl)
        · replace hf := if_f hq hf
          clear hq
          refine lv_iload_n hx hb dX6_draggedBy_84 rfl (lv_at hl 4 rfl) ?_
          refine lv_iconst (v := (1 : Int32)) hx hb dX6_draggedBy_85 (by decide) ?_
          refine lv_iload hx hb dX6_draggedBy_86 (lv_at hl 6 rfl) ?_
          refine x_ishl hx hb dX6_draggedBy_88 ?_
          refine lv_ior hx hb dX6_draggedBy_89 ?_
          refine lv_topi (fun x7 ex7 => ?_)
          replace hf := bnd_at ex7 hf
          clear ex7
          refine lv_istore_n (lv' := [(2, .int x7), (6, .int x2), (5, .int x1), (0, .ref (ad y0)), (1, .int y1), (3, .int y3), (4, .int y4)]) hx hb dX6_draggedBy_90 rfl hl (by decide) rfl (fun ls hl => ?_)
          obtain ⟨x8, ex8⟩ : ∃ z : Int32, z = y4 + (1 : Int32) := ⟨_, rfl⟩
          replace hf := bnd_at ex8 hf
          refine lv_iinc (v := x8) (lv' := [(4, .int x8), (2, .int x7), (6, .int x2), (5, .int x1), (0, .ref (ad y0)), (1, .int y1), (3, .int y3)]) hx hb dX6_draggedBy_91 hl (k := 6) rfl (by rw [ex8]; rfl) (by decide) rfl (fun ls hl => ?_)
          clear ex8
          refine lv_goto (tgt := 26) hx hb dX6_draggedBy_94 (by decide) ?_
          exact ih g5 y0 y1 x7 y3 x8 hn_y0 hf H locs ls h (lv_sub hl [4, 5, 1, 6, 0] rfl)

set_option maxHeartbeats 4000000 in
set_option maxRecDepth 100000 in
theorem qX6_draggedBy {l : Launch} {D : va_G} {cs : Nat → ClassId} {ad al : Nat → Nat} {P : PL} {r : Int32} {g' : CS} {g : CS}  {o : Nat} {a0 : Int32} (hn_o : okS o) (hf : fX6_draggedBy P g o a0 = some (r, g')) : GCon l D cs yX6_draggedBy cX6_draggedBy 7 (some .int) (rM 2) 0 0 [.ref (ad o), .int a0] (SW cs ad al P g) (some (.int r)) (SW cs ad al P g') := by
  refine GCon.of (by decide) (Nat.le_of_ble_eq_true rfl) ?_
  intro p e s m args below meth c A ls H locs C h hl
  have hx := C.1
  have hb := C.2.1
  have C : MCx p s m args meth c A RX6 cX6_draggedBy 7 (some .int) D cs := C
  have hl : lv_has ls 7 [(0, .ref (ad o)), (1, .int a0)] := hl
  unfold fX6_draggedBy at hf
  refine lv_iconst (v := (1 : Int32)) hx hb dX6_draggedBy_0 (by decide) ?_
  refine lv_iload_n hx hb dX6_draggedBy_1 rfl (lv_at hl 1 rfl) ?_
  refine x_ishl hx hb dX6_draggedBy_2 ?_
  refine lv_topi (fun x9 ex9 => ?_)
  replace hf := bnd_at ex9 hf
  clear ex9
  refine lv_istore_n (lv' := [(2, .int x9), (0, .ref (ad o)), (1, .int a0)]) hx hb dX6_draggedBy_3 rfl hl (by decide) rfl (fun ls hl => ?_)
  refine lv_aload_n hx hb dX6_draggedBy_4 rfl (lv_at hl 1 rfl) ?_
  refine xg_X6 8 hn_o C h (by decide) tb_4_16 rfl rfl dX6_draggedBy_5 ?_
  replace hf := chk_some hf
  obtain ⟨hw, hf⟩ := hf
  refine ya_w C h hw rfl dX6_draggedBy_8 ?_
  clear hw
  refine lv_if_ne (tgt := 14) hx hb dX6_draggedBy_9 (by decide) (fun hq => ?_) (fun hq => ?_)
  · replace hf := if_tn hq hf
    clear hq
    refine lv_aload_n hx hb dX6_draggedBy_14 rfl (lv_at hl 1 rfl) ?_
    refine xg_X6 4 hn_o C h (by decide) tb_4_15 rfl rfl dX6_draggedBy_15 ?_
    refine lv_iload_n hx hb dX6_draggedBy_18 rfl (lv_at hl 2 rfl) ?_
    replace hf := bndv_some hf
    obtain ⟨x10, hc, hf⟩ := hf
    refine m_callSi [.int (g.1 o 4), .int a0] C h cs_X6_79 (qX1_at hc) rfl ⟨rfl, rfl⟩ ⟨Nat.le_of_ble_eq_true rfl, Nat.le_of_ble_eq_true rfl⟩ hl.1 rfl (Nat.le_of_ble_eq_true rfl) ⟨Nat.le_refl _, Nat.le_refl _⟩ dX6_draggedBy_19 (fun H locs h => ?_)
    clear hc
    refine lv_istore_n (lv' := [(3, .int x10), (2, .int x9), (0, .ref (ad o)), (1, .int a0)]) hx hb dX6_draggedBy_22 rfl hl (by decide) rfl (fun ls hl => ?_)
    refine lv_iconst (v := (0 : Int32)) hx hb dX6_draggedBy_23 (by decide) ?_
    refine lv_istore (lv' := [(4, .int (0 : Int32)), (3, .int x10), (2, .int x9), (0, .ref (ad o)), (1, .int a0)]) hx hb dX6_draggedBy_24 hl (by decide) rfl (fun ls hl => ?_)
    exact wX6_draggedBy_26 (P := P) C fuel g o a0 x9 x10 (0 : Int32) hn_o hf H locs ls h (lv_sub hl [3, 4, 2, 1, 0] rfl)
  · replace hf := if_t hq hf
    clear hq
    refine lv_iload_n hx hb dX6_draggedBy_12 rfl (lv_at hl 0 rfl) ?_
    obtain ⟨e1, e2⟩ := pr_inj hf
    subst e1 e2
    exact m_iret C h dX6_draggedBy_13

set_option maxHeartbeats 4000000 in
set_option maxRecDepth 100000 in
theorem qX6_price {l : Launch} {D : va_G} {cs : Nat → ClassId} {ad al : Nat → Nat} {P : PL} {r : Int32} {g' : CS} {g : CS}  {o : Nat} {a0 : Int32} (hn_o : okS o) (hf : fX6_price P g o a0 = some (r, g')) : GCon l D cs yX6_price cX6_price 3 (some .int) (rM 2) 0 0 [.ref (ad o), .int a0] (SW cs ad al P g) (some (.int r)) (SW cs ad al P g') := by
  refine GCon.of (by decide) (Nat.le_of_ble_eq_true rfl) ?_
  intro p e s m args below meth c A ls H locs C h hl
  have hx := C.1
  have hb := C.2.1
  have C : MCx p s m args meth c A RX6 cX6_price 3 (some .int) D cs := C
  have hl : lv_has ls 3 [(0, .ref (ad o)), (1, .int a0)] := hl
  unfold fX6_price at hf
  refine lv_aload_n hx hb dX6_price_0 rfl (lv_at hl 0 rfl) ?_
  refine xg_X6 9 hn_o C h (by decide) tb_4_17 rfl rfl dX6_price_1 ?_
  replace hf := chk_some hf
  obtain ⟨hw, hf⟩ := hf
  refine ya_w C h hw rfl dX6_price_4 ?_
  clear hw
  refine lv_if_ne (tgt := 10) hx hb dX6_price_5 (by decide) (fun hq => ?_) (fun hq => ?_)
  · replace hf := if_tn hq hf
    clear hq
    refine lv_aload_n hx hb dX6_price_10 rfl (lv_at hl 0 rfl) ?_
    refine xg_X6 0 hn_o C h (by decide) tb_4_13 rfl rfl dX6_price_11 ?_
    refine lv_aload_n hx hb dX6_price_14 rfl (lv_at hl 0 rfl) ?_
    refine xg_X6 9 hn_o C h (by decide) tb_4_17 rfl rfl dX6_price_15 ?_
    refine lv_iload_n hx hb dX6_price_18 rfl (lv_at hl 1 rfl) ?_
    refine lv_aload_n hx hb dX6_price_19 rfl (lv_at hl 0 rfl) ?_
    refine xg_X6 4 hn_o C h (by decide) tb_4_15 rfl rfl dX6_price_20 ?_
    refine lv_iload_n hx hb dX6_price_23 rfl (lv_at hl 1 rfl) ?_
    replace hf := bndv_some hf
    obtain ⟨x1, hc, hf⟩ := hf
    refine m_callSi [.int (g.1 o 4), .int a0] C h cs_X6_79 (qX1_at hc) rfl ⟨rfl, rfl⟩ ⟨Nat.le_of_ble_eq_true rfl, Nat.le_of_ble_eq_true rfl⟩ hl.1 rfl (Nat.le_of_ble_eq_true rfl) ⟨Nat.le_refl _, Nat.le_refl _⟩ dX6_price_24 (fun H locs h => ?_)
    clear hc
    refine lv_iconst (v := (0 : Int32)) hx hb dX6_price_27 (by decide) ?_
    refine lv_iconst (v := (0 : Int32)) hx hb dX6_price_28 (by decide) ?_
    replace hf := bndc_some hf
    obtain ⟨x2, g3, hc, hf⟩ := hf
    refine m_callVi [.ref (al (g.2.2.2 o 9)), .int a0, .int x1, .int (0 : Int32), .int (0 : Int32)] C h cv_X6_87 (qX4_reckon hc) rfl ⟨rfl, rfl⟩ ⟨Nat.le_of_ble_eq_true rfl, Nat.le_of_ble_eq_true rfl⟩ (rv_X4 C h) hl.1 rfl (Nat.le_of_ble_eq_true rfl) ⟨Nat.le_refl _, Nat.le_refl _⟩ dX6_price_29 (fun H locs h => ?_)
    clear hc
    refine lv_istore_n (lv' := [(2, .int x2), (0, .ref (ad o)), (1, .int a0)]) hx hb dX6_price_32 rfl hl (by decide) rfl (fun ls hl => ?_)
    refine lv_iconst (v := (1 : Int32)) hx hb dX6_price_33 (by decide) ?_
    refine lv_bipush (v := (99 : Int32)) hx hb dX6_price_34 (by decide) ?_
    refine lv_iload_n hx hb dX6_price_36 rfl (lv_at hl 0 rfl) ?_
    refine x_min tb_27_5 C hl.1 (Nat.le_of_ble_eq_true rfl) (Nat.le_of_ble_eq_true rfl) (Nat.le_refl _) (Nat.le_refl _) dX6_price_37 ?_
    refine x_max tb_27_6 C hl.1 (Nat.le_of_ble_eq_true rfl) (Nat.le_of_ble_eq_true rfl) (Nat.le_refl _) (Nat.le_refl _) dX6_price_40 ?_
    obtain ⟨e1, e2⟩ := pr_inj hf
    subst e1 e2
    exact m_iret C h dX6_price_43
  · replace hf := if_t hq hf
    clear hq
    refine lv_iconst (v := (1 : Int32)) hx hb dX6_price_8 (by decide) ?_
    obtain ⟨e1, e2⟩ := pr_inj hf
    subst e1 e2
    exact m_iret C h dX6_price_9

set_option maxHeartbeats 4000000 in
set_option maxRecDepth 100000 in
theorem wX10_reckonLaws_17 (C : MCx p s m args meth c A RX10 cX10_reckonLaws 2 none D cs)  {g' : CS}  : ∀ (n : Nat) (g : CS) (y1 : Int32), fX10_reckonLaws_17 P n g y1 = some g' → ∀ (H : Heap) (locs : List Loc) (ls : Array Slot), MH D (SW cs ad al P g) A s H locs → lv_has ls 2 [(0, .ref (ad 12)), (1, .int y1)] → W p l e (rM 3) s m args below meth c H locs 0 0 (MQ below (GPost D none (SW cs ad al P g') A) args s 0 0 A) (F0 m 17 ls []) := by
  have hx := C.1
  have hb := C.2.1
  intro n
  induction n with
  | zero =>
    intro g y1 hf
    exact absurd hf (by simp [fX10_reckonLaws_17])
  | succ n ih =>
    intro g y1 hf H locs ls h hl
    rw [fX10_reckonLaws_17] at hf
    refine lv_iload_n hx hb dX10_reckonLaws_17 rfl (lv_at hl 1 rfl) ?_
    refine lv_aload_n hx hb dX10_reckonLaws_18 rfl (lv_at hl 0 rfl) ?_
    refine xg_X10 0 C h (by decide) tb_5_14 rfl rfl dX10_reckonLaws_19 ?_
    refine xg_X6 1 (by simp [okS, okT, ok6]) C h (by decide) tb_45_8 rfl rfl dX10_reckonLaws_22 ?_
    refine lv_icmp_ge (tgt := 62) hx hb dX10_reckonLaws_25 (by decide) (fun hq => ?_) (fun hq => ?_)
    · replace hf := if_t hq hf
      clear hq
      refine lv_aload_n hx hb dX10_reckonLaws_62 rfl (lv_at hl 0 rfl) ?_
      refine lv_aload_n hx hb dX10_reckonLaws_63 rfl (lv_at hl 0 rfl) ?_
      refine xg_X10 0 C h (by decide) tb_5_14 rfl rfl dX10_reckonLaws_64 ?_
      refine xg_X6 7 (by simp [okS, okT, ok6]) C h (by decide) tb_45_21 rfl rfl dX10_reckonLaws_67 ?_
      replace hf := bnd_ex hf
      obtain ⟨g1, eg1, hf⟩ := hf
      refine xp_X10_1 C h tb_5_15 dX10_reckonLaws_70 (fun H locs h => ?_)
      rw [← eg1] at h
      clear eg1
      have e1 := Option.some.inj hf
      subst e1
      exact m_vret C h dX10_reckonLaws_73
    · replace hf := if_f hq hf
      clear hq
      refine lv_aload_n hx hb dX10_reckonLaws_28 rfl (lv_at hl 0 rfl) ?_
      refine xg_X10 2 C h (by decide) tb_5_10 rfl rfl dX10_reckonLaws_29 ?_
      refine lv_iload_n hx hb dX10_reckonLaws_32 rfl (lv_at hl 1 rfl) ?_
      refine lv_aload_n hx hb dX10_reckonLaws_33 rfl (lv_at hl 0 rfl) ?_
      refine xg_X10 0 C h (by decide) tb_5_14 rfl rfl dX10_reckonLaws_34 ?_
      refine lv_iload_n hx hb dX10_reckonLaws_37 rfl (lv_at hl 1 rfl) ?_
      replace hf := bndc_some hf
      obtain ⟨x2, g3, hc, hf⟩ := hf
      refine m_callVi [.int y1] C h cv_X10_73 (qX6_draggedBy (by simp [okS, okT, ok6]) hc) rfl ⟨rfl, rfl⟩ ⟨Nat.le_of_ble_eq_true rfl, Nat.le_of_ble_eq_true rfl⟩ (rv_X6 (by simp [okS, okT, ok6]) C h) hl.1 rfl (Nat.le_of_ble_eq_true rfl) ⟨Nat.le_refl _, Nat.le_refl _⟩ dX10_reckonLaws_38 (fun H locs h => ?_)
      clear hc
      replace hf := chk_some hf
      obtain ⟨hq, hf⟩ := hf
      replace hf := bnd_ex hf
      obtain ⟨g4, eg4, hf⟩ := hf
      refine ys_13 C h hq dX10_reckonLaws_41 (fun H locs h => ?_)
      rw [← eg4] at h
      clear hq eg4
      refine lv_aload_n hx hb dX10_reckonLaws_42 rfl (lv_at hl 0 rfl) ?_
      refine xg_X10 3 C h (by decide) tb_5_11 rfl rfl dX10_reckonLaws_43 ?_
      refine lv_iload_n hx hb dX10_reckonLaws_46 rfl (lv_at hl 1 rfl) ?_
      refine lv_aload_n hx hb dX10_reckonLaws_47 rfl (lv_at hl 0 rfl) ?_
      refine xg_X10 0 C h (by decide) tb_5_14 rfl rfl dX10_reckonLaws_48 ?_
      refine lv_iload_n hx hb dX10_reckonLaws_51 rfl (lv_at hl 1 rfl) ?_
      replace hf := bndc_some hf
      obtain ⟨x5, g6, hc, hf⟩ := hf
      refine m_callVi [.int y1] C h cv_X10_76 (qX6_price (by simp [okS, okT, ok6]) hc) rfl ⟨rfl, rfl⟩ ⟨Nat.le_of_ble_eq_true rfl, Nat.le_of_ble_eq_true rfl⟩ (rv_X6 (by simp [okS, okT, ok6]) C h) hl.1 rfl (Nat.le_of_ble_eq_true rfl) ⟨Nat.le_refl _, Nat.le_refl _⟩ dX10_reckonLaws_52 (fun H locs h => ?_)
      clear hc
      replace hf := chk_some hf
      obtain ⟨hq, hf⟩ := hf
      replace hf := bnd_ex hf
      obtain ⟨g7, eg7, hf⟩ := hf
      refine ys_14 C h hq dX10_reckonLaws_55 (fun H locs h => ?_)
      rw [← eg7] at h
      clear hq eg7
      obtain ⟨x8, ex8⟩ : ∃ z : Int32, z = y1 + (1 : Int32) := ⟨_, rfl⟩
      replace hf := bnd_at ex8 hf
      refine lv_iinc (v := x8) (lv' := [(1, .int x8), (0, .ref (ad 12))]) hx hb dX10_reckonLaws_56 hl (k := 1) rfl (by rw [ex8]; rfl) (by decide) rfl (fun ls hl => ?_)
      clear ex8
      refine lv_goto (tgt := 17) hx hb dX10_reckonLaws_59 (by decide) ?_
      exact ih g7 x8 hf H locs ls h (lv_sub hl [1, 0] rfl)

set_option maxHeartbeats 4000000 in
set_option maxRecDepth 100000 in
theorem qX10_reckonLaws {l : Launch} {D : va_G} {cs : Nat → ClassId} {ad al : Nat → Nat} {P : PL} {g' : CS} {g : CS}  (hf : fX10_reckonLaws P g = some g') : GCon l D cs yX10_reckonLaws cX10_reckonLaws 2 none (rM 3) 0 0 [.ref (ad 12)] (SW cs ad al P g) none (SW cs ad al P g') := by
  refine GCon.of (by decide) (Nat.le_of_ble_eq_true rfl) ?_
  intro p e s m args below meth c A ls H locs C h hl
  have hx := C.1
  have hb := C.2.1
  have C : MCx p s m args meth c A RX10 cX10_reckonLaws 2 none D cs := C
  have hl : lv_has ls 2 [(0, .ref (ad 12))] := hl
  unfold fX10_reckonLaws at hf
  refine lv_aload_n hx hb dX10_reckonLaws_0 rfl (lv_at hl 0 rfl) ?_
  refine xg_X10 1 C h (by decide) tb_5_15 rfl rfl dX10_reckonLaws_1 ?_
  refine lv_aload_n hx hb dX10_reckonLaws_4 rfl (lv_at hl 0 rfl) ?_
  refine xg_X10 0 C h (by decide) tb_5_14 rfl rfl dX10_reckonLaws_5 ?_
  refine xg_X6 7 (by simp [okS, okT, ok6]) C h (by decide) tb_45_21 rfl rfl dX10_reckonLaws_8 ?_
  refine lv_icmp_ne (tgt := 15) hx hb dX10_reckonLaws_11 (by decide) (fun hq => ?_) (fun hq => ?_)
  · replace hf := if_tn hq hf
    clear hq
    refine lv_iconst (v := (0 : Int32)) hx hb dX10_reckonLaws_15 (by decide) ?_
    refine lv_istore_n (lv' := [(1, .int (0 : Int32)), (0, .ref (ad 12))]) hx hb dX10_reckonLaws_16 rfl hl (by decide) rfl (fun ls hl => ?_)
    exact wX10_reckonLaws_17 (P := P) C fuel g (0 : Int32) hf H locs ls h (lv_sub hl [1, 0] rfl)
  · replace hf := if_t hq hf
    clear hq
    have e1 := Option.some.inj hf
    subst e1
    exact m_vret C h dX10_reckonLaws_14

set_option maxHeartbeats 4000000 in
set_option maxRecDepth 100000 in
theorem wX10_begin_27 (C : MCx p s m args meth c A RX10 cX10_begin 3 none D cs)  {g' : CS}  : ∀ (n : Nat) (g : CS) (y1 : Int32) (y2 : Int32), fX10_begin_27 P n g y1 y2 = some g' → ∀ (H : Heap) (locs : List Loc) (ls : Array Slot), MH D (SW cs ad al P g) A s H locs → lv_has ls 3 [(0, .ref (ad 12)), (1, .int y1), (2, .int y2)] → W p l e (rM 4) s m args below meth c H locs 0 0 (MQ below (GPost D none (SW cs ad al P g') A) args s 0 0 A) (F0 m 27 ls []) := by
  have hx := C.1
  have hb := C.2.1
  intro n
  induction n with
  | zero =>
    intro g y1 y2 hf
    exact absurd hf (by simp [fX10_begin_27])
  | succ n ih =>
    intro g y1 y2 hf H locs ls h hl
    rw [fX10_begin_27] at hf
    refine lv_iload_n hx hb dX10_begin_27 rfl (lv_at hl 2 rfl) ?_
    refine lv_aload_n hx hb dX10_begin_28 rfl (lv_at hl 0 rfl) ?_
    refine xg_X10 6 C h (by decide) tb_45_9 rfl rfl dX10_begin_29 ?_
    refine lv_icmp_ge (tgt := 101) hx hb dX10_begin_32 (by decide) (fun hq => ?_) (fun hq => ?_)
    · replace hf := if_t hq hf
      clear hq
      refine lv_aload_n hx hb dX10_begin_101 rfl (lv_at hl 0 rfl) ?_
      refine lv_aload_n hx hb dX10_begin_102 rfl (lv_at hl 0 rfl) ?_
      refine xg_X10 0 C h (by decide) tb_5_14 rfl rfl dX10_begin_103 ?_
      refine xg_X6 3 (by simp [okS, okT, ok6]) C h (by decide) tb_45_12 rfl rfl dX10_begin_106 ?_
      replace hf := bnd_ex hf
      obtain ⟨g1, eg1, hf⟩ := hf
      refine xp_X10_9 C h tb_45_13 dX10_begin_109 (fun H locs h => ?_)
      rw [← eg1] at h
      clear eg1
      refine lv_aload_n hx hb dX10_begin_112 rfl (lv_at hl 0 rfl) ?_
      refine lv_iconst (v := (0 : Int32)) hx hb dX10_begin_113 (by decide) ?_
      replace hf := bnd_ex hf
      obtain ⟨g2, eg2, hf⟩ := hf
      refine xp_X10_10 C h tb_45_14 dX10_begin_114 (fun H locs h => ?_)
      rw [← eg2] at h
      clear eg2
      refine lv_aload_n hx hb dX10_begin_117 rfl (lv_at hl 0 rfl) ?_
      refine lv_iconst (v := (0 : Int32)) hx hb dX10_begin_118 (by decide) ?_
      replace hf := bnd_ex hf
      obtain ⟨g3, eg3, hf⟩ := hf
      refine xp_X10_11 C h tb_45_15 dX10_begin_119 (fun H locs h => ?_)
      rw [← eg3] at h
      clear eg3
      refine lv_aload_n hx hb dX10_begin_122 rfl (lv_at hl 0 rfl) ?_
      refine lv_iconst (v := (0 : Int32)) hx hb dX10_begin_123 (by decide) ?_
      replace hf := bnd_ex hf
      obtain ⟨g4, eg4, hf⟩ := hf
      refine xp_X10_12 C h tb_45_16 dX10_begin_124 (fun H locs h => ?_)
      rw [← eg4] at h
      clear eg4
      have e1 := Option.some.inj hf
      subst e1
      exact m_vret C h dX10_begin_127
    · replace hf := if_f hq hf
      clear hq
      refine lv_iload_n hx hb dX10_begin_35 rfl (lv_at hl 1 rfl) ?_
      refine lv_iload_n hx hb dX10_begin_36 rfl (lv_at hl 2 rfl) ?_
      refine x_ishr hx hb dX10_begin_37 ?_
      refine lv_iconst (v := (1 : Int32)) hx hb dX10_begin_38 (by decide) ?_
      refine lv_iand hx hb dX10_begin_39 ?_
      refine lv_if_ne (tgt := 95) hx hb dX10_begin_40 (by decide) (fun hq => ?_) (fun hq => ?_)
      · replace hf := if_tn hq hf
        clear hq
        obtain ⟨x5, ex5⟩ : ∃ z : Int32, z = y2 + (1 : Int32) := ⟨_, rfl⟩
        replace hf := bnd_at ex5 hf
        refine lv_iinc (v := x5) (lv' := [(2, .int x5), (0, .ref (ad 12)), (1, .int y1)]) hx hb dX10_begin_95 hl (k := 2) rfl (by rw [ex5]; rfl) (by decide) rfl (fun ls hl => ?_)
        clear ex5
        refine lv_goto (tgt := 27) hx hb dX10_begin_98 (by decide) ?_
        exact ih g y1 x5 hf H locs ls h (lv_sub hl [1, 2, 0] rfl)
      · replace hf := if_t hq hf
        clear hq
        refine lv_aload_n hx hb dX10_begin_43 rfl (lv_at hl 0 rfl) ?_
        refine xg_X10 4 C h (by decide) tb_5_12 rfl rfl dX10_begin_44 ?_
        refine lv_aload_n hx hb dX10_begin_47 rfl (lv_at hl 0 rfl) ?_
        refine xg_X10 7 C h (by decide) tb_45_10 rfl rfl dX10_begin_48 ?_
        refine lv_iload_n hx hb dX10_begin_51 rfl (lv_at hl 2 rfl) ?_
        replace hf := chk_some hf
        obtain ⟨hq, hf⟩ := hf
        replace hf := bnd_ex hf
        obtain ⟨g6, eg6, hf⟩ := hf
        refine ys_15 C h hq dX10_begin_52 (fun H locs h => ?_)
        rw [← eg6] at h
        clear hq eg6
        refine lv_aload_n hx hb dX10_begin_53 rfl (lv_at hl 0 rfl) ?_
        refine lv_dup hx hb dX10_begin_54 rfl ?_
        refine xg_X10 7 C h (by decide) tb_45_10 rfl rfl dX10_begin_55 ?_
        refine lv_iconst (v := (1 : Int32)) hx hb dX10_begin_58 (by decide) ?_
        refine lv_iadd hx hb dX10_begin_59 ?_
        replace hf := bnd_ex hf
        obtain ⟨g7, eg7, hf⟩ := hf
        refine xp_X10_7 C h tb_45_10 dX10_begin_60 (fun H locs h => ?_)
        rw [← eg7] at h
        clear eg7
        refine lv_aload_n hx hb dX10_begin_63 rfl (lv_at hl 0 rfl) ?_
        refine xg_X10 5 C h (by decide) tb_5_13 rfl rfl dX10_begin_64 ?_
        refine lv_iload_n hx hb dX10_begin_67 rfl (lv_at hl 2 rfl) ?_
        refine lv_aload_n hx hb dX10_begin_68 rfl (lv_at hl 0 rfl) ?_
        refine xg_X10 2 C h (by decide) tb_5_10 rfl rfl dX10_begin_69 ?_
        refine lv_iload_n hx hb dX10_begin_72 rfl (lv_at hl 2 rfl) ?_
        replace hf := chk_some hf
        obtain ⟨hq, hf⟩ := hf
        refine yl_13 C h hq dX10_begin_73 ?_
        clear hq
        refine lv_iload_n hx hb dX10_begin_74 rfl (lv_at hl 1 rfl) ?_
        refine lv_iconst (v := (-1 : Int32)) hx hb dX10_begin_75 (by decide) ?_
        refine lv_ixor hx hb dX10_begin_76 ?_
        refine lv_iand hx hb dX10_begin_77 ?_
        replace hf := bndv_some hf
        obtain ⟨x8, hc, hf⟩ := hf
        refine m_callSi [.int ((g7.2.1 13 (ix y2)) &&& (y1 ^^^ (-1 : Int32)))] C h cs_X10_47 (qX1_ofBits hc) rfl ⟨rfl, rfl⟩ ⟨Nat.le_of_ble_eq_true rfl, Nat.le_of_ble_eq_true rfl⟩ hl.1 rfl (Nat.le_of_ble_eq_true rfl) ⟨Nat.le_refl _, Nat.le_refl _⟩ dX10_begin_78 (fun H locs h => ?_)
        clear hc
        replace hf := chk_some hf
        obtain ⟨hq, hf⟩ := hf
        replace hf := bnd_ex hf
        obtain ⟨g9, eg9, hf⟩ := hf
        refine ys_16 C h hq dX10_begin_81 (fun H locs h => ?_)
        rw [← eg9] at h
        clear hq eg9
        refine lv_aload_n hx hb dX10_begin_82 rfl (lv_at hl 0 rfl) ?_
        refine lv_dup hx hb dX10_begin_83 rfl ?_
        refine xg_X10 8 C h (by decide) tb_45_11 rfl rfl dX10_begin_84 ?_
        refine lv_aload_n hx hb dX10_begin_87 rfl (lv_at hl 0 rfl) ?_
        refine xg_X10 6 C h (by decide) tb_45_9 rfl rfl dX10_begin_88 ?_
        refine lv_imul hx hb dX10_begin_91 ?_
        replace hf := bnd_ex hf
        obtain ⟨g10, eg10, hf⟩ := hf
        refine xp_X10_8 C h tb_45_11 dX10_begin_92 (fun H locs h => ?_)
        rw [← eg10] at h
        clear eg10
        obtain ⟨x11, ex11⟩ : ∃ z : Int32, z = y2 + (1 : Int32) := ⟨_, rfl⟩
        replace hf := bnd_at ex11 hf
        refine lv_iinc (v := x11) (lv' := [(2, .int x11), (0, .ref (ad 12)), (1, .int y1)]) hx hb dX10_begin_95 hl (k := 2) rfl (by rw [ex11]; rfl) (by decide) rfl (fun ls hl => ?_)
        clear ex11
        refine lv_goto (tgt := 27) hx hb dX10_begin_98 (by decide) ?_
        exact ih g10 y1 x11 hf H locs ls h (lv_sub hl [1, 2, 0] rfl)

set_option maxHeartbeats 4000000 in
set_option maxRecDepth 100000 in
theorem qX10_begin {l : Launch} {D : va_G} {cs : Nat → ClassId} {ad al : Nat → Nat} {P : PL} {g' : CS} {g : CS}  {a0 : Int32} (hf : fX10_begin P g a0 = some g') : GCon l D cs yX10_begin cX10_begin 3 none (rM 4) 0 0 [.ref (ad 12), .int a0] (SW cs ad al P g) none (SW cs ad al P g') := by
  refine GCon.of (by decide) (Nat.le_of_ble_eq_true rfl) ?_
  intro p e s m args below meth c A ls H locs C h hl
  have hx := C.1
  have hb := C.2.1
  have C : MCx p s m args meth c A RX10 cX10_begin 3 none D cs := C
  have hl : lv_has ls 3 [(0, .ref (ad 12)), (1, .int a0)] := hl
  unfold fX10_begin at hf
  refine lv_aload_n hx hb dX10_begin_0 rfl (lv_at hl 0 rfl) ?_
  replace hf := bndv_some hf
  obtain ⟨g12, hc, hf⟩ := hf
  refine m_callVv [] C h cv_X10_32 (qX10_reckonLaws hc) rfl ⟨rfl, rfl⟩ ⟨Nat.le_of_ble_eq_true rfl, Nat.le_of_ble_eq_true rfl⟩ (rv_X10 C h) hl.1 rfl (Nat.le_of_ble_eq_true rfl) ⟨Nat.le_refl _, Nat.le_refl _⟩ dX10_begin_1 (fun H locs h => ?_)
  clear hc
  refine lv_aload_n hx hb dX10_begin_4 rfl (lv_at hl 0 rfl) ?_
  refine lv_aload_n hx hb dX10_begin_5 rfl (lv_at hl 0 rfl) ?_
  refine xg_X10 0 C h (by decide) tb_5_14 rfl rfl dX10_begin_6 ?_
  refine xg_X6 1 (by simp [okS, okT, ok6]) C h (by decide) tb_45_8 rfl rfl dX10_begin_9 ?_
  replace hf := bnd_ex hf
  obtain ⟨g13, eg13, hf⟩ := hf
  refine xp_X10_6 C h tb_45_9 dX10_begin_12 (fun H locs h => ?_)
  rw [← eg13] at h
  clear eg13
  refine lv_aload_n hx hb dX10_begin_15 rfl (lv_at hl 0 rfl) ?_
  refine lv_iconst (v := (0 : Int32)) hx hb dX10_begin_16 (by decide) ?_
  replace hf := bnd_ex hf
  obtain ⟨g14, eg14, hf⟩ := hf
  refine xp_X10_7 C h tb_45_10 dX10_begin_17 (fun H locs h => ?_)
  rw [← eg14] at h
  clear eg14
  refine lv_aload_n hx hb dX10_begin_20 rfl (lv_at hl 0 rfl) ?_
  refine lv_iconst (v := (1 : Int32)) hx hb dX10_begin_21 (by decide) ?_
  replace hf := bnd_ex hf
  obtain ⟨g15, eg15, hf⟩ := hf
  refine xp_X10_8 C h tb_45_11 dX10_begin_22 (fun H locs h => ?_)
  rw [← eg15] at h
  clear eg15
  refine lv_iconst (v := (0 : Int32)) hx hb dX10_begin_25 (by decide) ?_
  refine lv_istore_n (lv' := [(2, .int (0 : Int32)), (0, .ref (ad 12)), (1, .int a0)]) hx hb dX10_begin_26 rfl hl (by decide) rfl (fun ls hl => ?_)
  exact wX10_begin_27 (P := P) C fuel g15 a0 (0 : Int32) hf H locs ls h (lv_sub hl [1, 2, 0] rfl)

set_option maxHeartbeats 4000000 in
set_option maxRecDepth 100000 in
theorem qX10_freeAt {l : Launch} {D : va_G} {cs : Nat → ClassId} {ad al : Nat → Nat} {P : PL} {r : Int32} {g' : CS} {g : CS}  {a0 : Int32} (hf : fX10_freeAt P g a0 = some (r, g')) : GCon l D cs yX10_freeAt cX10_freeAt 2 (some .int) (rM 0) 0 0 [.ref (ad 12), .int a0] (SW cs ad al P g) (some (.int r)) (SW cs ad al P g') := by
  refine GCon.of (by decide) (Nat.le_of_ble_eq_true rfl) ?_
  intro p e s m args below meth c A ls H locs C h hl
  have hx := C.1
  have hb := C.2.1
  have C : MCx p s m args meth c A RX10 cX10_freeAt 2 (some .int) D cs := C
  have hl : lv_has ls 2 [(0, .ref (ad 12)), (1, .int a0)] := hl
  unfold fX10_freeAt at hf
  refine lv_iload_n hx hb dX10_freeAt_0 rfl (lv_at hl 1 rfl) ?_
  refine lv_if_lt (tgt := 21) hx hb dX10_freeAt_1 (by decide) (fun hq => ?_) (fun hq => ?_)
  · replace hf := if_t hq hf
    clear hq
    refine lv_iconst (v := (0 : Int32)) hx hb dX10_freeAt_21 (by decide) ?_
    obtain ⟨e1, e2⟩ := pr_inj hf
    subst e1 e2
    exact m_iret C h dX10_freeAt_22
  · replace hf := if_f hq hf
    clear hq
    refine lv_iload_n hx hb dX10_freeAt_4 rfl (lv_at hl 1 rfl) ?_
    refine lv_aload_n hx hb dX10_freeAt_5 rfl (lv_at hl 0 rfl) ?_
    refine xg_X10 7 C h (by decide) tb_45_10 rfl rfl dX10_freeAt_6 ?_
    refine lv_icmp_ge (tgt := 21) hx hb dX10_freeAt_9 (by decide) (fun hq => ?_) (fun hq => ?_)
    · replace hf := if_t hq hf
      clear hq
      refine lv_iconst (v := (0 : Int32)) hx hb dX10_freeAt_21 (by decide) ?_
      obtain ⟨e1, e2⟩ := pr_inj hf
      subst e1 e2
      exact m_iret C h dX10_freeAt_22
    · replace hf := if_f hq hf
      clear hq
      refine lv_aload_n hx hb dX10_freeAt_12 rfl (lv_at hl 0 rfl) ?_
      refine xg_X10 4 C h (by decide) tb_5_12 rfl rfl dX10_freeAt_13 ?_
      refine lv_iload_n hx hb dX10_freeAt_16 rfl (lv_at hl 1 rfl) ?_
      replace hf := chk_some hf
      obtain ⟨hq, hf⟩ := hf
      refine yl_15 C h hq dX10_freeAt_17 ?_
      clear hq
      refine lv_goto (tgt := 22) hx hb dX10_freeAt_18 (by decide) ?_
      obtain ⟨e1, e2⟩ := pr_inj hf
      subst e1 e2
      exact m_iret C h dX10_freeAt_22

set_option maxHeartbeats 4000000 in
set_option maxRecDepth 100000 in
theorem qX10_pullAt {l : Launch} {D : va_G} {cs : Nat → ClassId} {ad al : Nat → Nat} {P : PL} {r : Int32} {g' : CS} {g : CS}  {a0 : Int32} (hf : fX10_pullAt P g a0 = some (r, g')) : GCon l D cs yX10_pullAt cX10_pullAt 2 (some .int) (rM 0) 0 0 [.ref (ad 12), .int a0] (SW cs ad al P g) (some (.int r)) (SW cs ad al P g') := by
  refine GCon.of (by decide) (Nat.le_of_ble_eq_true rfl) ?_
  intro p e s m args below meth c A ls H locs C h hl
  have hx := C.1
  have hb := C.2.1
  have C : MCx p s m args meth c A RX10 cX10_pullAt 2 (some .int) D cs := C
  have hl : lv_has ls 2 [(0, .ref (ad 12)), (1, .int a0)] := hl
  unfold fX10_pullAt at hf
  refine lv_iload_n hx hb dX10_pullAt_0 rfl (lv_at hl 1 rfl) ?_
  refine lv_if_lt (tgt := 26) hx hb dX10_pullAt_1 (by decide) (fun hq => ?_) (fun hq => ?_)
  · replace hf := if_t hq hf
    clear hq
    refine lv_iconst (v := (0 : Int32)) hx hb dX10_pullAt_26 (by decide) ?_
    obtain ⟨e1, e2⟩ := pr_inj hf
    subst e1 e2
    exact m_iret C h dX10_pullAt_27
  · replace hf := if_f hq hf
    clear hq
    refine lv_iload_n hx hb dX10_pullAt_4 rfl (lv_at hl 1 rfl) ?_
    refine lv_aload_n hx hb dX10_pullAt_5 rfl (lv_at hl 0 rfl) ?_
    refine xg_X10 7 C h (by decide) tb_45_10 rfl rfl dX10_pullAt_6 ?_
    refine lv_icmp_ge (tgt := 26) hx hb dX10_pullAt_9 (by decide) (fun hq => ?_) (fun hq => ?_)
    · replace hf := if_t hq hf
      clear hq
      refine lv_iconst (v := (0 : Int32)) hx hb dX10_pullAt_26 (by decide) ?_
      obtain ⟨e1, e2⟩ := pr_inj hf
      subst e1 e2
      exact m_iret C h dX10_pullAt_27
    · replace hf := if_f hq hf
      clear hq
      refine lv_aload_n hx hb dX10_pullAt_12 rfl (lv_at hl 0 rfl) ?_
      refine xg_X10 5 C h (by decide) tb_5_13 rfl rfl dX10_pullAt_13 ?_
      refine lv_aload_n hx hb dX10_pullAt_16 rfl (lv_at hl 0 rfl) ?_
      refine xg_X10 4 C h (by decide) tb_5_12 rfl rfl dX10_pullAt_17 ?_
      refine lv_iload_n hx hb dX10_pullAt_20 rfl (lv_at hl 1 rfl) ?_
      replace hf := chk_some hf
      obtain ⟨hq, hf⟩ := hf
      refine yl_15 C h hq dX10_pullAt_21 ?_
      clear hq
      replace hf := chk_some hf
      obtain ⟨hq, hf⟩ := hf
      refine yl_16 C h hq dX10_pullAt_22 ?_
      clear hq
      refine lv_goto (tgt := 27) hx hb dX10_pullAt_23 (by decide) ?_
      obtain ⟨e1, e2⟩ := pr_inj hf
      subst e1 e2
      exact m_iret C h dX10_pullAt_27

set_option maxHeartbeats 4000000 in
set_option maxRecDepth 100000 in
theorem wX5_list_44 (C : MCx p s m args meth c A RX5 cX5_list 6 none D cs)  {g' : CS}  {k21 : CS → Int32 → Int32 → Int32 → Option (CS)} (hk21 : ∀ (g : CS) (y1 : Int32) (y2 : Int32) (y3 : Int32), k21 g y1 y2 y3 = some g' → ∀ (H : Heap) (locs : List Loc) (ls : Array Slot), MH D (SW cs ad al P g) A s H locs → lv_has ls 6 [(0, .ref (ad 22)), (1, .int y1), (2, .int y2), (3, .int y3)] → W p l e (rM 5) s m args below meth c H locs 0 0 (MQ below (GPost D none (SW cs ad al P g') A) args s 0 0 A) (F0 m 21 ls [])) : ∀ (n : Nat) (g : CS) (y1 : Int32) (y2 : Int32) (y3 : Int32) (y4 : Int32) (y5 : Int32), fX5_list_44 P k21 n g y1 y2 y3 y4 y5 = some g' → ∀ (H : Heap) (locs : List Loc) (ls : Array Slot), MH D (SW cs ad al P g) A s H locs → lv_has ls 6 [(0, .ref (ad 22)), (1, .int y1), (2, .int y2), (3, .int y3), (4, .int y4), (5, .int y5)] → W p l e (rM 5) s m args below meth c H locs 0 0 (MQ below (GPost D none (SW cs ad al P g') A) args s 0 0 A) (F0 m 44 ls []) := by
  have hx := C.1
  have hb := C.2.1
  intro n
  induction n with
  | zero =>
    intro g y1 y2 y3 y4 y5 hf
    exact absurd hf (by simp [fX5_list_44])
  | succ n ih =>
    intro g y1 y2 y3 y4 y5 hf H locs ls h hl
    rw [fX5_list_44] at hf
    refine lv_iload hx hb dX5_list_44 (lv_at hl 5 rfl) ?_
    refine lv_aload_n hx hb dX5_list_46 rfl (lv_at hl 0 rfl) ?_
    refine xg_X5 0 C h (by decide) tb_6_9 rfl rfl dX5_list_47 ?_
    refine xg_X6 1 (by simp [okS, okT, ok6]) C h (by decide) tb_54_17 rfl rfl dX5_list_50 ?_
    refine lv_icmp_ge (tgt := 145) hx hb dX5_list_53 (by decide) (fun hq => ?_) (fun hq => ?_)
    · replace hf := if_t hq hf
      clear hq
      obtain ⟨x1, ex1⟩ : ∃ z : Int32, z = y3 + (1 : Int32) := ⟨_, rfl⟩
      replace hf := bnd_at ex1 hf
      refine lv_iinc (v := x1) (lv' := [(3, .int x1), (0, .ref (ad 22)), (1, .int y1), (2, .int y2), (4, .int y4), (5, .int y5)]) hx hb dX5_list_145 hl (k := 3) rfl (by rw [ex1]; rfl) (by decide) rfl (fun ls hl => ?_)
      clear ex1
      refine lv_goto (tgt := 21) hx hb dX5_list_148 (by decide) ?_
      exact hk21 g y1 y2 x1 hf H locs ls h (lv_sub hl [1, 2, 3, 0] rfl)
    · replace hf := if_f hq hf
      clear hq
      refine lv_iload hx hb dX5_list_56 (lv_at hl 4 rfl) ?_
      refine lv_aload_n hx hb dX5_list_58 rfl (lv_at hl 0 rfl) ?_
      refine xg_X5 1 C h (by decide) tb_6_10 rfl rfl dX5_list_59 ?_
      refine lv_iload_n hx hb dX5_list_62 rfl (lv_at hl 3 rfl) ?_
      replace hf := bndc_some hf
      obtain ⟨x2, g3, hc, hf⟩ := hf
      refine m_callVi [.int y3] C h cv_X5_56 (qX10_pullAt hc) rfl ⟨rfl, rfl⟩ ⟨Nat.le_of_ble_eq_true rfl, Nat.le_of_ble_eq_true rfl⟩ (rv_X10 C h) hl.1 rfl (Nat.le_of_ble_eq_true rfl) ⟨Nat.le_refl _, Nat.le_refl _⟩ dX5_list_63 (fun H locs h => ?_)
      clear hc
      refine lv_aload_n hx hb dX5_list_66 rfl (lv_at hl 0 rfl) ?_
      refine xg_X5 0 C h (by decide) tb_6_9 rfl rfl dX5_list_67 ?_
      refine xg_X6 1 (by simp [okS, okT, ok6]) C h (by decide) tb_54_17 rfl rfl dX5_list_70 ?_
      replace hf := bndv_some hf
      obtain ⟨x4, hc, hf⟩ := hf
      refine m_callSi [.int y4, .int x2, .int (g3.1 30 1)] C h cs_X5_60 (qX1_plus hc) rfl ⟨rfl, rfl⟩ ⟨Nat.le_of_ble_eq_true rfl, Nat.le_of_ble_eq_true rfl⟩ hl.1 rfl (Nat.le_of_ble_eq_true rfl) ⟨Nat.le_refl _, Nat.le_refl _⟩ dX5_list_73 (fun H locs h => ?_)
      clear hc
      refine lv_istore (lv' := [(4, .int x4), (0, .ref (ad 22)), (1, .int y1), (2, .int y2), (3, .int y3), (5, .int y5)]) hx hb dX5_list_76 hl (by decide) rfl (fun ls hl => ?_)
      refine lv_iload hx hb dX5_list_78 (lv_at hl 0 rfl) ?_
      refine lv_iload_n hx hb dX5_list_80 rfl (lv_at hl 2 rfl) ?_
      refine lv_iand hx hb dX5_list_81 ?_
      refine lv_iload_n hx hb dX5_list_82 rfl (lv_at hl 3 rfl) ?_
      refine lv_icmp_ne (tgt := 139) hx hb dX5_list_83 (by decide) (fun hq => ?_) (fun hq => ?_)
      · replace hf := if_tn hq hf
        clear hq
        obtain ⟨x5, ex5⟩ : ∃ z : Int32, z = y5 + (1 : Int32) := ⟨_, rfl⟩
        replace hf := bnd_at ex5 hf
        refine lv_iinc (v := x5) (lv' := [(5, .int x5), (4, .int x4), (0, .ref (ad 22)), (1, .int y1), (2, .int y2), (3, .int y3)]) hx hb dX5_list_139 hl (k := 5) rfl (by rw [ex5]; rfl) (by decide) rfl (fun ls hl => ?_)
        clear ex5
        refine lv_goto (tgt := 44) hx hb dX5_list_142 (by decide) ?_
        exact ih g3 y1 y2 y3 x4 x5 hf H locs ls h (lv_sub hl [2, 3, 4, 5, 1, 0] rfl)
      · replace hf := if_t hq hf
        clear hq
        refine lv_aload_n hx hb dX5_list_86 rfl (lv_at hl 1 rfl) ?_
        refine xg_X5 2 C h (by decide) tb_54_13 rfl rfl dX5_list_87 ?_
        refine lv_bipush (v := (30 : Int32)) hx hb dX5_list_90 (by decide) ?_
        refine lv_icmp_ge (tgt := 139) hx hb dX5_list_92 (by decide) (fun hq => ?_) (fun hq => ?_)
        · replace hf := if_t hq hf
          clear hq
          obtain ⟨x6, ex6⟩ : ∃ z : Int32, z = y5 + (1 : Int32) := ⟨_, rfl⟩
          replace hf := bnd_at ex6 hf
          refine lv_iinc (v := x6) (lv' := [(5, .int x6), (4, .int x4), (0, .ref (ad 22)), (1, .int y1), (2, .int y2), (3, .int y3)]) hx hb dX5_list_139 hl (k := 5) rfl (by rw [ex6]; rfl) (by decide) rfl (fun ls hl => ?_)
          clear ex6
          refine lv_goto (tgt := 44) hx hb dX5_list_142 (by decide) ?_
          exact ih g3 y1 y2 y3 x4 x6 hf H locs ls h (lv_sub hl [2, 3, 4, 5, 1, 0] rfl)
        · replace hf := if_f hq hf
          clear hq
          refine lv_aload_n hx hb dX5_list_95 rfl (lv_at hl 1 rfl) ?_
          refine xg_X5 3 C h (by decide) tb_6_11 rfl rfl dX5_list_96 ?_
          refine lv_aload_n hx hb dX5_list_99 rfl (lv_at hl 1 rfl) ?_
          refine xg_X5 2 C h (by decide) tb_54_13 rfl rfl dX5_list_100 ?_
          refine lv_bipush (v := (10 : Int32)) hx hb dX5_list_103 (by decide) ?_
          refine lv_aload_n hx hb dX5_list_105 rfl (lv_at hl 1 rfl) ?_
          refine xg_X5 1 C h (by decide) tb_6_10 rfl rfl dX5_list_106 ?_
          refine lv_iload_n hx hb dX5_list_109 rfl (lv_at hl 4 rfl) ?_
          replace hf := bndc_some hf
          obtain ⟨x7, g8, hc, hf⟩ := hf
          refine m_callVi [.int y3] C h cv_X5_66 (qX10_freeAt hc) rfl ⟨rfl, rfl⟩ ⟨Nat.le_of_ble_eq_true rfl, Nat.le_of_ble_eq_true rfl⟩ (rv_X10 C h) hl.1 rfl (Nat.le_of_ble_eq_true rfl) ⟨Nat.le_refl _, Nat.le_refl _⟩ dX5_list_110 (fun H locs h => ?_)
          clear hc
          refine lv_imul hx hb dX5_list_113 ?_
          refine lv_iload hx hb dX5_list_114 (lv_at hl 5 rfl) ?_
          refine lv_iadd hx hb dX5_list_116 ?_
          replace hf := chk_some hf
          obtain ⟨hq, hf⟩ := hf
          replace hf := bnd_ex hf
          obtain ⟨g9, eg9, hf⟩ := hf
          refine ys_23 C h hq dX5_list_117 (fun H locs h => ?_)
          rw [← eg9] at h
          clear hq eg9
          refine lv_aload_n hx hb dX5_list_118 rfl (lv_at hl 1 rfl) ?_
          refine xg_X5 4 C h (by decide) tb_6_12 rfl rfl dX5_list_119 ?_
          refine lv_aload_n hx hb dX5_list_122 rfl (lv_at hl 1 rfl) ?_
          refine xg_X5 2 C h (by decide) tb_54_13 rfl rfl dX5_list_123 ?_
          refine lv_iload hx hb dX5_list_126 (lv_at hl 0 rfl) ?_
          replace hf := chk_some hf
          obtain ⟨hq, hf⟩ := hf
          replace hf := bnd_ex hf
          obtain ⟨g10, eg10, hf⟩ := hf
          refine ys_24 C h hq dX5_list_128 (fun H locs h => ?_)
          rw [← eg10] at h
          clear hq eg10
          refine lv_aload_n hx hb dX5_list_129 rfl (lv_at hl 1 rfl) ?_
          refine lv_dup hx hb dX5_list_130 rfl ?_
          refine xg_X5 2 C h (by decide) tb_54_13 rfl rfl dX5_list_131 ?_
          refine lv_iconst (v := (1 : Int32)) hx hb dX5_list_134 (by decide) ?_
          refine lv_iadd hx hb dX5_list_135 ?_
          replace hf := bnd_ex hf
          obtain ⟨g11, eg11, hf⟩ := hf
          refine xp_X5_2 C h tb_54_13 dX5_list_136 (fun H locs h => ?_)
          rw [← eg11] at h
          clear eg11
          obtain ⟨x12, ex12⟩ : ∃ z : Int32, z = y5 + (1 : Int32) := ⟨_, rfl⟩
          replace hf := bnd_at ex12 hf
          refine lv_iinc (v := x12) (lv' := [(5, .int x12), (4, .int x4), (0, .ref (ad 22)), (1, .int y1), (2, .int y2), (3, .int y3)]) hx hb dX5_list_139 hl (k := 5) rfl (by rw [ex12]; rfl) (by decide) rfl (fun ls hl => ?_)
          clear ex12
          refine lv_goto (tgt := 44) hx hb dX5_list_142 (by decide) ?_
          exact ih g11 y1 y2 y3 x4 x12 hf H locs ls h (lv_sub hl [2, 3, 4, 5, 1, 0] rfl)

set_option maxHeartbeats 4000000 in
set_option maxRecDepth 100000 in
theorem wX5_list_21 (C : MCx p s m args meth c A RX5 cX5_list 6 none D cs)  {g' : CS}  : ∀ (n : Nat) (g : CS) (y1 : Int32) (y2 : Int32) (y3 : Int32), fX5_list_21 P n g y1 y2 y3 = some g' → ∀ (H : Heap) (locs : List Loc) (ls : Array Slot), MH D (SW cs ad al P g) A s H locs → lv_has ls 6 [(0, .ref (ad 22)), (1, .int y1), (2, .int y2), (3, .int y3)] → W p l e (rM 5) s m args below meth c H locs 0 0 (MQ below (GPost D none (SW cs ad al P g') A) args s 0 0 A) (F0 m 21 ls []) := by
  have hx := C.1
  have hb := C.2.1
  intro n
  induction n with
  | zero =>
    intro g y1 y2 y3 hf
    exact absurd hf (by simp [fX5_list_21])
  | succ n ih =>
    intro g y1 y2 y3 hf H locs ls h hl
    rw [fX5_list_21] at hf
    refine lv_iload_n hx hb dX5_list_21 rfl (lv_at hl 3 rfl) ?_
    refine lv_aload_n hx hb dX5_list_22 rfl (lv_at hl 0 rfl) ?_
    refine xg_X5 1 C h (by decide) tb_6_10 rfl rfl dX5_list_23 ?_
    refine xg_X10 7 C h (by decide) tb_54_15 rfl rfl dX5_list_26 ?_
    refine lv_icmp_ge (tgt := 151) hx hb dX5_list_29 (by decide) (fun hq => ?_) (fun hq => ?_)
    · replace hf := if_t hq hf
      clear hq
      have e1 := Option.some.inj hf
      subst e1
      exact m_vret C h dX5_list_151
    · replace hf := if_f hq hf
      clear hq
      refine lv_aload_n hx hb dX5_list_32 rfl (lv_at hl 0 rfl) ?_
      refine xg_X5 0 C h (by decide) tb_6_9 rfl rfl dX5_list_33 ?_
      refine xg_X6 3 (by simp [okS, okT, ok6]) C h (by decide) tb_54_16 rfl rfl dX5_list_36 ?_
      refine lv_topi (fun x13 ex13 => ?_)
      replace hf := bnd_at ex13 hf
      clear ex13
      refine lv_istore (lv' := [(4, .int x13), (0, .ref (ad 22)), (1, .int y1), (2, .int y2), (3, .int y3)]) hx hb dX5_list_39 hl (by decide) rfl (fun ls hl => ?_)
      refine lv_iconst (v := (1 : Int32)) hx hb dX5_list_41 (by decide) ?_
      refine lv_istore (lv' := [(5, .int (1 : Int32)), (4, .int x13), (0, .ref (ad 22)), (1, .int y1), (2, .int y2), (3, .int y3)]) hx hb dX5_list_42 hl (by decide) rfl (fun ls hl => ?_)
      exact wX5_list_44 (P := P) C ih fuel g y1 y2 y3 x13 (1 : Int32) hf H locs ls h (lv_sub hl [2, 3, 4, 5, 1, 0] rfl)

set_option maxHeartbeats 4000000 in
set_option maxRecDepth 100000 in
theorem qX5_list {l : Launch} {D : va_G} {cs : Nat → ClassId} {ad al : Nat → Nat} {P : PL} {g' : CS} {g : CS}  {a0 : Int32} {a1 : Int32} (hf : fX5_list P g a0 a1 = some g') : GCon l D cs yX5_list cX5_list 6 none (rM 5) 0 0 [.ref (ad 22), .int a0, .int a1] (SW cs ad al P g) none (SW cs ad al P g') := by
  refine GCon.of (by decide) (Nat.le_of_ble_eq_true rfl) ?_
  intro p e s m args below meth c A ls H locs C h hl
  have hx := C.1
  have hb := C.2.1
  have C : MCx p s m args meth c A RX5 cX5_list 6 none D cs := C
  have hl : lv_has ls 6 [(0, .ref (ad 22)), (1, .int a0), (2, .int a1)] := hl
  unfold fX5_list at hf
  refine lv_aload_n hx hb dX5_list_0 rfl (lv_at hl 0 rfl) ?_
  refine lv_iconst (v := (0 : Int32)) hx hb dX5_list_1 (by decide) ?_
  replace hf := bnd_ex hf
  obtain ⟨g14, eg14, hf⟩ := hf
  refine xp_X5_2 C h tb_54_13 dX5_list_2 (fun H locs h => ?_)
  rw [← eg14] at h
  clear eg14
  refine lv_aload_n hx hb dX5_list_5 rfl (lv_at hl 0 rfl) ?_
  refine xg_X5 1 C h (by decide) tb_6_10 rfl rfl dX5_list_6 ?_
  refine lv_aload_n hx hb dX5_list_9 rfl (lv_at hl 0 rfl) ?_
  refine xg_X5 0 C h (by decide) tb_6_9 rfl rfl dX5_list_10 ?_
  refine xg_X6 5 (by simp [okS, okT, ok6]) C h (by decide) tb_54_14 rfl rfl dX5_list_13 ?_
  replace hf := bndv_some hf
  obtain ⟨g15, hc, hf⟩ := hf
  refine m_callVv [.int (g14.1 30 5)] C h cv_X5_41 (qX10_begin hc) rfl ⟨rfl, rfl⟩ ⟨Nat.le_of_ble_eq_true rfl, Nat.le_of_ble_eq_true rfl⟩ (rv_X10 C h) hl.1 rfl (Nat.le_of_ble_eq_true rfl) ⟨Nat.le_refl _, Nat.le_refl _⟩ dX5_list_16 (fun H locs h => ?_)
  clear hc
  refine lv_iconst (v := (0 : Int32)) hx hb dX5_list_19 (by decide) ?_
  refine lv_istore_n (lv' := [(3, .int (0 : Int32)), (0, .ref (ad 22)), (1, .int a0), (2, .int a1)]) hx hb dX5_list_20 rfl hl (by decide) rfl (fun ls hl => ?_)
  exact wX5_list_21 (P := P) C fuel g15 a0 a1 (0 : Int32) hf H locs ls h (lv_sub hl [1, 2, 3, 0] rfl)

set_option maxHeartbeats 4000000 in
set_option maxRecDepth 100000 in
theorem wJ7_fill_53178_5 (C : MCx p s m args meth c A RJ7 cJ7_fill_53178 4 none D cs)  {g' : CS}  : ∀ (n : Nat) (g : CS) (y0 : Nat) (y1 : Int32) (y2 : Int32) (y3 : Int32), ok6 y0 → fJ7_fill_53178_5 P n g y0 y1 y2 y3 = some g' → ∀ (H : Heap) (locs : List Loc) (ls : Array Slot), MH D (SW cs ad al P g) A s H locs → lv_has ls 4 [(0, .ref (ad y0)), (1, .int y1), (2, .int y2), (3, .int y3)] → W p l e (rM 0) s m args below meth c H locs 0 0 (MQ below (GPost D none (SW cs ad al P g') A) args s 0 0 A) (F0 m 5 ls []) := by
  have hx := C.1
  have hb := C.2.1
  intro n
  induction n with
  | zero =>
    intro g y0 y1 y2 y3 hn_y0 hf
    exact absurd hf (by simp [fJ7_fill_53178_5])
  | succ n ih =>
    intro g y0 y1 y2 y3 hn_y0 hf H locs ls h hl
    rw [fJ7_fill_53178_5] at hf
    refine lv_iload_n hx hb dJ7_fill_53178_5 rfl (lv_at hl 2 rfl) ?_
    refine lv_iload_n hx hb dJ7_fill_53178_6 rfl (lv_at hl 3 rfl) ?_
    refine lv_icmp_ge (tgt := 20) hx hb dJ7_fill_53178_7 (by decide) (fun hq => ?_) (fun hq => ?_)
    · replace hf := if_t hq hf
      clear hq
      have e1 := Option.some.inj hf
      subst e1
      exact m_vret C h dJ7_fill_53178_20
    · replace hf := if_f hq hf
      clear hq
      refine lv_aload_n hx hb dJ7_fill_53178_10 rfl (lv_at hl 0 rfl) ?_
      refine lv_iload_n hx hb dJ7_fill_53178_11 rfl (lv_at hl 2 rfl) ?_
      refine lv_iload_n hx hb dJ7_fill_53178_12 rfl (lv_at hl 1 rfl) ?_
      replace hf := chk_some hf
      obtain ⟨hq, hf⟩ := hf
      replace hf := bnd_ex hf
      obtain ⟨g1, eg1, hf⟩ := hf
      refine ys_f6 hn_y0 C h hq dJ7_fill_53178_13 (fun H locs h => ?_)
      rw [← eg1] at h
      clear hq eg1
      obtain ⟨x2, ex2⟩ : ∃ z : Int32, z = y2 + (1 : Int32) := ⟨_, rfl⟩
      replace hf := bnd_at ex2 hf
      refine lv_iinc (v := x2) (lv' := [(2, .int x2), (0, .ref (ad y0)), (1, .int y1), (3, .int y3)]) hx hb dJ7_fill_53178_14 hl (k := 2) rfl (by rw [ex2]; rfl) (by decide) rfl (fun ls hl => ?_)
      clear ex2
      refine lv_goto (tgt := 5) hx hb dJ7_fill_53178_17 (by decide) ?_
      exact ih g1 y0 y1 x2 y3 hn_y0 hf H locs ls h (lv_sub hl [1, 2, 0, 3] rfl)

set_option maxHeartbeats 4000000 in
set_option maxRecDepth 100000 in
theorem qJ7_fill_53178 {l : Launch} {D : va_G} {cs : Nat → ClassId} {ad al : Nat → Nat} {P : PL} {g' : CS} {g : CS}  {a0 : Nat} {a1 : Int32} (hn_a0 : ok6 a0) (hf : fJ7_fill_53178 P g a0 a1 = some g') : GCon l D cs yJ7_fill_53178 cJ7_fill_53178 4 none (rM 0) 0 0 [.ref (ad a0), .int a1] (SW cs ad al P g) none (SW cs ad al P g') := by
  refine GCon.of (by decide) (Nat.le_of_ble_eq_true rfl) ?_
  intro p e s m args below meth c A ls H locs C h hl
  have hx := C.1
  have hb := C.2.1
  have C : MCx p s m args meth c A RJ7 cJ7_fill_53178 4 none D cs := C
  have hl : lv_has ls 4 [(0, .ref (ad a0)), (1, .int a1)] := hl
  unfold fJ7_fill_53178 at hf
  refine lv_iconst (v := (0 : Int32)) hx hb dJ7_fill_53178_0 (by decide) ?_
  refine lv_istore_n (lv' := [(2, .int (0 : Int32)), (0, .ref (ad a0)), (1, .int a1)]) hx hb dJ7_fill_53178_1 rfl hl (by decide) rfl (fun ls hl => ?_)
  refine lv_aload_n hx hb dJ7_fill_53178_2 rfl (lv_at hl 1 rfl) ?_
  refine ya_f6 hn_a0 (v := (6 : Int32)) C h (by decide) dJ7_fill_53178_3 ?_
  refine lv_istore_n (lv' := [(3, .int (6 : Int32)), (2, .int (0 : Int32)), (0, .ref (ad a0)), (1, .int a1)]) hx hb dJ7_fill_53178_4 rfl hl (by decide) rfl (fun ls hl => ?_)
  exact wJ7_fill_53178_5 (P := P) C fuel g a0 a1 (0 : Int32) (6 : Int32) hn_a0 hf H locs ls h (lv_sub hl [2, 3, 1, 0] rfl)

set_option maxHeartbeats 4000000 in
set_option maxRecDepth 100000 in
theorem wX5_mostAlike_12 (C : MCx p s m args meth c A RX5 cX5_mostAlike 5 (some .int) D cs)  {r : Int32} {g' : CS}  : ∀ (n : Nat) (g : CS) (y1 : Int32) (y2 : Int32) (y3 : Int32), fX5_mostAlike_12 P n g y1 y2 y3 = some (r, g') → ∀ (H : Heap) (locs : List Loc) (ls : Array Slot), MH D (SW cs ad al P g) A s H locs → lv_has ls 5 [(0, .ref (ad 22)), (1, .int y1), (2, .int y2), (3, .int y3)] → W p l e (rM 1) s m args below meth c H locs 0 0 (MQ below (GPost D (some (.int r)) (SW cs ad al P g') A) args s 0 0 A) (F0 m 12 ls []) := by
  have hx := C.1
  have hb := C.2.1
  intro n
  induction n with
  | zero =>
    intro g y1 y2 y3 hf
    exact absurd hf (by simp [fX5_mostAlike_12])
  | succ n ih =>
    intro g y1 y2 y3 hf H locs ls h hl
    rw [fX5_mostAlike_12] at hf
    refine lv_iload_n hx hb dX5_mostAlike_12 rfl (lv_at hl 3 rfl) ?_
    refine lv_aload_n hx hb dX5_mostAlike_13 rfl (lv_at hl 0 rfl) ?_
    refine xg_X5 2 C h (by decide) tb_54_13 rfl rfl dX5_mostAlike_14 ?_
    refine lv_icmp_ge (tgt := 68) hx hb dX5_mostAlike_17 (by decide) (fun hq => ?_) (fun hq => ?_)
    · replace hf := if_t hq hf
      clear hq
      refine lv_iload_n hx hb dX5_mostAlike_68 rfl (lv_at hl 2 rfl) ?_
      obtain ⟨e1, e2⟩ := pr_inj hf
      subst e1 e2
      exact m_iret C h dX5_mostAlike_69
    · replace hf := if_f hq hf
      clear hq
      refine lv_aload_n hx hb dX5_mostAlike_20 rfl (lv_at hl 0 rfl) ?_
      refine xg_X5 4 C h (by decide) tb_6_12 rfl rfl dX5_mostAlike_21 ?_
      refine lv_iload_n hx hb dX5_mostAlike_24 rfl (lv_at hl 3 rfl) ?_
      replace hf := chk_some hf
      obtain ⟨hq, hf⟩ := hf
      refine yl_24 C h hq dX5_mostAlike_25 ?_
      clear hq
      refine lv_iload_n hx hb dX5_mostAlike_26 rfl (lv_at hl 1 rfl) ?_
      replace hf := bndv_some hf
      obtain ⟨x1, hc, hf⟩ := hf
      refine m_callSi [.int (g.2.1 24 (ix y3)), .int y1] C h cs_X5_75 (qX1_at hc) rfl ⟨rfl, rfl⟩ ⟨Nat.le_of_ble_eq_true rfl, Nat.le_of_ble_eq_true rfl⟩ hl.1 rfl (Nat.le_of_ble_eq_true rfl) ⟨Nat.le_refl _, Nat.le_refl _⟩ dX5_mostAlike_27 (fun H locs h => ?_)
      clear hc
      refine lv_istore (lv' := [(4, .int x1), (0, .ref (ad 22)), (1, .int y1), (2, .int y2), (3, .int y3)]) hx hb dX5_mostAlike_30 hl (by decide) rfl (fun ls hl => ?_)
      refine lv_iload hx hb dX5_mostAlike_32 (lv_at hl 0 rfl) ?_
      refine lv_bipush (v := (6 : Int32)) hx hb dX5_mostAlike_34 (by decide) ?_
      refine lv_icmp_ge (tgt := 62) hx hb dX5_mostAlike_36 (by decide) (fun hq => ?_) (fun hq => ?_)
      · replace hf := if_t hq hf
        clear hq
        obtain ⟨x2, ex2⟩ : ∃ z : Int32, z = y3 + (1 : Int32) := ⟨_, rfl⟩
        replace hf := bnd_at ex2 hf
        refine lv_iinc (v := x2) (lv' := [(3, .int x2), (4, .int x1), (0, .ref (ad 22)), (1, .int y1), (2, .int y2)]) hx hb dX5_mostAlike_62 hl (k := 4) rfl (by rw [ex2]; rfl) (by decide) rfl (fun ls hl => ?_)
        clear ex2
        refine lv_goto (tgt := 12) hx hb dX5_mostAlike_65 (by decide) ?_
        exact ih g y1 y2 x2 hf H locs ls h (lv_sub hl [2, 3, 4, 0] rfl)
      · replace hf := if_f hq hf
        clear hq
        refine lv_aload_n hx hb dX5_mostAlike_39 rfl (lv_at hl 1 rfl) ?_
        refine xg_X5 5 C h (by decide) tb_6_13 rfl rfl dX5_mostAlike_40 ?_
        refine lv_iload hx hb dX5_mostAlike_43 (lv_at hl 0 rfl) ?_
        refine lv_dup2_11 hx hb dX5_mostAlike_45 rfl rfl ?_
        replace hf := chk_some hf
        obtain ⟨hq, hf⟩ := hf
        refine yl_25 C h hq dX5_mostAlike_46 ?_
        clear hq
        refine lv_iconst (v := (1 : Int32)) hx hb dX5_mostAlike_47 (by decide) ?_
        refine lv_iadd hx hb dX5_mostAlike_48 ?_
        replace hf := chk_some hf
        obtain ⟨hq, hf⟩ := hf
        replace hf := bnd_ex hf
        obtain ⟨g3, eg3, hf⟩ := hf
        refine ys_25 C h hq dX5_mostAlike_49 (fun H locs h => ?_)
        rw [← eg3] at h
        clear hq eg3
        refine lv_iload_n hx hb dX5_mostAlike_50 rfl (lv_at hl 3 rfl) ?_
        refine lv_aload_n hx hb dX5_mostAlike_51 rfl (lv_at hl 1 rfl) ?_
        refine xg_X5 5 C h (by decide) tb_6_13 rfl rfl dX5_mostAlike_52 ?_
        refine lv_iload hx hb dX5_mostAlike_55 (lv_at hl 0 rfl) ?_
        replace hf := chk_some hf
        obtain ⟨hq, hf⟩ := hf
        refine yl_25 C h hq dX5_mostAlike_57 ?_
        clear hq
        refine x_max tb_64_10 C hl.1 (Nat.le_of_ble_eq_true rfl) (Nat.le_of_ble_eq_true rfl) (Nat.le_refl _) (Nat.le_refl _) dX5_mostAlike_58 ?_
        refine lv_topi (fun x4 ex4 => ?_)
        replace hf := bnd_at ex4 hf
        clear ex4
        refine lv_istore_n (lv' := [(2, .int x4), (4, .int x1), (0, .ref (ad 22)), (1, .int y1), (3, .int y3)]) hx hb dX5_mostAlike_61 rfl hl (by decide) rfl (fun ls hl => ?_)
        obtain ⟨x5, ex5⟩ : ∃ z : Int32, z = y3 + (1 : Int32) := ⟨_, rfl⟩
        replace hf := bnd_at ex5 hf
        refine lv_iinc (v := x5) (lv' := [(3, .int x5), (2, .int x4), (4, .int x1), (0, .ref (ad 22)), (1, .int y1)]) hx hb dX5_mostAlike_62 hl (k := 4) rfl (by rw [ex5]; rfl) (by decide) rfl (fun ls hl => ?_)
        clear ex5
        refine lv_goto (tgt := 12) hx hb dX5_mostAlike_65 (by decide) ?_
        exact ih g3 y1 x4 x5 hf H locs ls h (lv_sub hl [3, 4, 1, 0] rfl)

set_option maxHeartbeats 4000000 in
set_option maxRecDepth 100000 in
theorem qX5_mostAlike {l : Launch} {D : va_G} {cs : Nat → ClassId} {ad al : Nat → Nat} {P : PL} {r : Int32} {g' : CS} {g : CS}  {a0 : Int32} (hf : fX5_mostAlike P g a0 = some (r, g')) : GCon l D cs yX5_mostAlike cX5_mostAlike 5 (some .int) (rM 1) 0 0 [.ref (ad 22), .int a0] (SW cs ad al P g) (some (.int r)) (SW cs ad al P g') := by
  refine GCon.of (by decide) (Nat.le_of_ble_eq_true rfl) ?_
  intro p e s m args below meth c A ls H locs C h hl
  have hx := C.1
  have hb := C.2.1
  have C : MCx p s m args meth c A RX5 cX5_mostAlike 5 (some .int) D cs := C
  have hl : lv_has ls 5 [(0, .ref (ad 22)), (1, .int a0)] := hl
  unfold fX5_mostAlike at hf
  refine lv_aload_n hx hb dX5_mostAlike_0 rfl (lv_at hl 0 rfl) ?_
  refine xg_X5 5 C h (by decide) tb_6_13 rfl rfl dX5_mostAlike_1 ?_
  refine lv_iconst (v := (0 : Int32)) hx hb dX5_mostAlike_4 (by decide) ?_
  replace hf := bndv_some hf
  obtain ⟨g6, hc, hf⟩ := hf
  refine m_callSWv [.ref (ad 25), .int (0 : Int32)] C h cs_X5_69 (qJ7_fill_53178 (by simp [okS, okT, ok6]) hc) rfl ⟨rfl, rfl⟩ ⟨Nat.le_of_ble_eq_true rfl, Nat.le_of_ble_eq_true rfl⟩ hl.1 rfl (Nat.le_of_ble_eq_true rfl) ⟨Nat.le_refl _, Nat.le_refl _⟩ dX5_mostAlike_5 (fun H locs h => ?_)
  clear hc
  refine lv_iconst (v := (0 : Int32)) hx hb dX5_mostAlike_8 (by decide) ?_
  refine lv_istore_n (lv' := [(2, .int (0 : Int32)), (0, .ref (ad 22)), (1, .int a0)]) hx hb dX5_mostAlike_9 rfl hl (by decide) rfl (fun ls hl => ?_)
  refine lv_iconst (v := (0 : Int32)) hx hb dX5_mostAlike_10 (by decide) ?_
  refine lv_istore_n (lv' := [(3, .int (0 : Int32)), (2, .int (0 : Int32)), (0, .ref (ad 22)), (1, .int a0)]) hx hb dX5_mostAlike_11 rfl hl (by decide) rfl (fun ls hl => ?_)
  exact wX5_mostAlike_12 (P := P) C fuel g6 a0 (0 : Int32) (0 : Int32) hf H locs ls h (lv_sub hl [2, 3, 1, 0] rfl)

set_option maxHeartbeats 4000000 in
set_option maxRecDepth 100000 in
theorem wX5_share_57 (C : MCx p s m args meth c A RX5 cX5_share 8 none D cs)  {dR dd : Nat} (hdR : 2 + 1 * dd + 1 ≤ dR) {r_share : CS → Int32 → Int32 → Int32 → Int32 → Option (CS)} (h_share : ∀ {g1 g2 : CS} {a1 : Int32} {a2 : Int32} {a3 : Int32} {a4 : Int32}, r_share g1 a1 a2 a3 a4 = some g2 → GCon l D cs yX5_share cX5_share 8 none (rM (2 + 1 * dd)) 0 0 [.ref (ad 22), .int a1, .int a2, .int a3, .int a4] (SW cs ad al P g1) none (SW cs ad al P g2)) {g' : CS}  : ∀ (n : Nat) (g : CS) (y1 : Int32) (y2 : Int32) (y4 : Int32) (y5 : Int32) (y6 : Int32) (y7 : Int32), fX5_share_57 P r_share n g y1 y2 y4 y5 y6 y7 = some g' → ∀ (H : Heap) (locs : List Loc) (ls : Array Slot), MH D (SW cs ad al P g) A s H locs → lv_has ls 8 [(0, .ref (ad 22)), (1, .int y1), (2, .int y2), (4, .int y4), (5, .int y5), (6, .int y6), (7, .int y7)] → W p l e (rM dR) s m args below meth c H locs 0 0 (MQ below (GPost D none (SW cs ad al P g') A) args s 0 0 A) (F0 m 57 ls []) := by
  have hx := C.1
  have hb := C.2.1
  intro n
  induction n with
  | zero =>
    intro g y1 y2 y4 y5 y6 y7 hf
    exact absurd hf (by simp [fX5_share_57])
  | succ n ih =>
    intro g y1 y2 y4 y5 y6 y7 hf H locs ls h hl
    rw [fX5_share_57] at hf
    refine lv_iload hx hb dX5_share_57 (lv_at hl 6 rfl) ?_
    refine lv_iload_n hx hb dX5_share_59 rfl (lv_at hl 2 rfl) ?_
    refine lv_icmp_gt (tgt := 123) hx hb dX5_share_60 (by decide) (fun hq => ?_) (fun hq => ?_)
    · replace hf := if_t hq hf
      clear hq
      have e1 := Option.some.inj hf
      subst e1
      exact m_vret C h dX5_share_123
    · replace hf := if_f hq hf
      clear hq
      refine lv_aload_n hx hb dX5_share_63 rfl (lv_at hl 0 rfl) ?_
      refine lv_iload_n hx hb dX5_share_64 rfl (lv_at hl 1 rfl) ?_
      refine lv_iconst (v := (1 : Int32)) hx hb dX5_share_65 (by decide) ?_
      refine lv_iadd hx hb dX5_share_66 ?_
      refine lv_iload_n hx hb dX5_share_67 rfl (lv_at hl 2 rfl) ?_
      refine lv_iload hx hb dX5_share_68 (lv_at hl 6 rfl) ?_
      refine lv_isub hx hb dX5_share_70 ?_
      refine lv_iload hx hb dX5_share_71 (lv_at hl 4 rfl) ?_
      refine lv_iload hx hb dX5_share_73 (lv_at hl 3 rfl) ?_
      refine lv_iload hx hb dX5_share_75 (lv_at hl 5 rfl) ?_
      refine lv_imul hx hb dX5_share_77 ?_
      replace hf := bndv_some hf
      obtain ⟨g1, hc, hf⟩ := hf
      refine m_callSWv [.ref (ad 22), .int (y1 + (1 : Int32)), .int (y2 - y7), .int y5, .int (y4 * y6)] C h cs_X5_87 (h_share hc) rfl ⟨rfl, rfl⟩ ⟨by simp only [rM]; omega, by simp only [rM]; omega⟩ hl.1 rfl (Nat.le_of_ble_eq_true rfl) ⟨Nat.le_refl _, Nat.le_refl _⟩ dX5_share_78 (fun H locs h => ?_)
      clear hc
      refine lv_iload hx hb dX5_share_81 (lv_at hl 4 rfl) ?_
      refine lv_aload_n hx hb dX5_share_83 rfl (lv_at hl 0 rfl) ?_
      refine xg_X5 1 C h (by decide) tb_6_10 rfl rfl dX5_share_84 ?_
      refine lv_iload_n hx hb dX5_share_87 rfl (lv_at hl 1 rfl) ?_
      replace hf := bndc_some hf
      obtain ⟨x2, g3, hc, hf⟩ := hf
      refine m_callVi [.int y1] C h cv_X5_56 (qX10_pullAt hc) rfl ⟨rfl, rfl⟩ ⟨by simp only [rM]; omega, by simp only [rM]; omega⟩ (rv_X10 C h) hl.1 rfl (Nat.le_of_ble_eq_true rfl) ⟨Nat.le_refl _, Nat.le_refl _⟩ dX5_share_88 (fun H locs h => ?_)
      clear hc
      refine lv_aload_n hx hb dX5_share_91 rfl (lv_at hl 0 rfl) ?_
      refine xg_X5 0 C h (by decide) tb_6_9 rfl rfl dX5_share_92 ?_
      refine xg_X6 1 (by simp [okS, okT, ok6]) C h (by decide) tb_54_17 rfl rfl dX5_share_95 ?_
      replace hf := bndv_some hf
      obtain ⟨x4, hc, hf⟩ := hf
      refine m_callSi [.int y5, .int x2, .int (g3.1 30 1)] C h cs_X5_60 (qX1_plus hc) rfl ⟨rfl, rfl⟩ ⟨by simp only [rM]; omega, by simp only [rM]; omega⟩ hl.1 rfl (Nat.le_of_ble_eq_true rfl) ⟨Nat.le_refl _, Nat.le_refl _⟩ dX5_share_98 (fun H locs h => ?_)
      clear hc
      refine lv_istore (lv' := [(5, .int x4), (0, .ref (ad 22)), (1, .int y1), (2, .int y2), (4, .int y4), (6, .int y6), (7, .int y7)]) hx hb dX5_share_101 hl (by decide) rfl (fun ls hl => ?_)
      refine lv_iload hx hb dX5_share_103 (lv_at hl 5 rfl) ?_
      refine lv_iload_n hx hb dX5_share_105 rfl (lv_at hl 3 rfl) ?_
      refine lv_iload hx hb dX5_share_106 (lv_at hl 6 rfl) ?_
      refine lv_isub hx hb dX5_share_108 ?_
      refine lv_imul hx hb dX5_share_109 ?_
      refine lv_iload hx hb dX5_share_110 (lv_at hl 6 rfl) ?_
      refine lv_iconst (v := (1 : Int32)) hx hb dX5_share_112 (by decide) ?_
      refine lv_iadd hx hb dX5_share_113 ?_
      replace hf := chk_some hf
      obtain ⟨hq, hf⟩ := hf
      refine lv_idiv hx hb dX5_share_114 (nz_ne hq) ?_
      clear hq
      refine lv_topi (fun x5 ex5 => ?_)
      replace hf := bnd_at ex5 hf
      clear ex5
      refine lv_istore (lv' := [(6, .int x5), (5, .int x4), (0, .ref (ad 22)), (1, .int y1), (2, .int y2), (4, .int y4), (7, .int y7)]) hx hb dX5_share_115 hl (by decide) rfl (fun ls hl => ?_)
      obtain ⟨x6, ex6⟩ : ∃ z : Int32, z = y7 + (1 : Int32) := ⟨_, rfl⟩
      replace hf := bnd_at ex6 hf
      refine lv_iinc (v := x6) (lv' := [(7, .int x6), (6, .int x5), (5, .int x4), (0, .ref (ad 22)), (1, .int y1), (2, .int y2), (4, .int y4)]) hx hb dX5_share_117 hl (k := 6) rfl (by rw [ex6]; rfl) (by decide) rfl (fun ls hl => ?_)
      clear ex6
      refine lv_goto (tgt := 57) hx hb dX5_share_120 (by decide) ?_
      exact ih g3 y1 y2 y4 x4 x5 x6 hf H locs ls h (lv_sub hl [3, 4, 5, 6, 2, 1, 0] rfl)

set_option maxHeartbeats 4000000 in
set_option maxRecDepth 100000 in
theorem wX5_share_15 (C : MCx p s m args meth c A RX5 cX5_share 8 none D cs)  {dR dd : Nat} (hdR : 2 + 1 * dd + 1 ≤ dR) {r_share : CS → Int32 → Int32 → Int32 → Int32 → Option (CS)} (h_share : ∀ {g1 g2 : CS} {a1 : Int32} {a2 : Int32} {a3 : Int32} {a4 : Int32}, r_share g1 a1 a2 a3 a4 = some g2 → GCon l D cs yX5_share cX5_share 8 none (rM (2 + 1 * dd)) 0 0 [.ref (ad 22), .int a1, .int a2, .int a3, .int a4] (SW cs ad al P g1) none (SW cs ad al P g2)) {g' : CS}  : ∀ (g : CS) (y2 : Int32) (y3 : Int32) (y4 : Int32), fX5_share_15 P r_share g y2 y3 y4 = some g' → ∀ (H : Heap) (locs : List Loc) (ls : Array Slot), MH D (SW cs ad al P g) A s H locs → lv_has ls 8 [(0, .ref (ad 22)), (2, .int y2), (3, .int y3), (4, .int y4)] → W p l e (rM dR) s m args below meth c H locs 0 0 (MQ below (GPost D none (SW cs ad al P g') A) args s 0 0 A) (F0 m 15 ls []) := by
  have hx := C.1
  have hb := C.2.1
  intro g y2 y3 y4 hf H locs ls h hl
  unfold fX5_share_15 at hf
  refine lv_aload_n hx hb dX5_share_15 rfl (lv_at hl 0 rfl) ?_
  refine xg_X5 0 C h (by decide) tb_6_9 rfl rfl dX5_share_16 ?_
  refine lv_iload_n hx hb dX5_share_19 rfl (lv_at hl 2 rfl) ?_
  replace hf := bndc_some hf
  obtain ⟨x7, g8, hc, hf⟩ := hf
  refine m_callVi [.int y3] C h cv_X5_91 (qX6_chairOf (by simp [okS, okT, ok6]) hc) rfl ⟨rfl, rfl⟩ ⟨by simp only [rM]; omega, by simp only [rM]; omega⟩ (rv_X6 (by simp [okS, okT, ok6]) C h) hl.1 rfl (Nat.le_of_ble_eq_true rfl) ⟨Nat.le_refl _, Nat.le_refl _⟩ dX5_share_20 (fun H locs h => ?_)
  clear hc
  refine lv_istore (lv' := [(5, .int x7), (0, .ref (ad 22)), (2, .int y2), (3, .int y3), (4, .int y4)]) hx hb dX5_share_23 hl (by decide) rfl (fun ls hl => ?_)
  refine lv_iload_n hx hb dX5_share_25 rfl (lv_at hl 2 rfl) ?_
  refine lv_if_ne (tgt := 47) hx hb dX5_share_26 (by decide) (fun hq => ?_) (fun hq => ?_)
  · replace hf := if_tn hq hf
    clear hq
    have e1 := Option.some.inj hf
    subst e1
    exact m_vret C h dX5_share_47
  · replace hf := if_t hq hf
    clear hq
    refine lv_iload hx hb dX5_share_29 (lv_at hl 0 rfl) ?_
    refine lv_iconst (v := (-1 : Int32)) hx hb dX5_share_31 (by decide) ?_
    refine lv_icmp_eq (tgt := 47) hx hb dX5_share_32 (by decide) (fun hq => ?_) (fun hq => ?_)
    · replace hf := if_t hq hf
      clear hq
      have e1 := Option.some.inj hf
      subst e1
      exact m_vret C h dX5_share_47
    · replace hf := if_f hq hf
      clear hq
      refine lv_aload_n hx hb dX5_share_35 rfl (lv_at hl 1 rfl) ?_
      refine xg_X5 6 C h (by decide) tb_6_14 rfl rfl dX5_share_36 ?_
      refine lv_iload hx hb dX5_share_39 (lv_at hl 0 rfl) ?_
      refine lv_dup2_11 hx hb dX5_share_41 rfl rfl ?_
      replace hf := chk_some hf
      obtain ⟨hq, hf⟩ := hf
      refine yl_26 C h hq dX5_share_42 ?_
      clear hq
      refine lv_iload hx hb dX5_share_43 (lv_at hl 4 rfl) ?_
      refine lv_iadd hx hb dX5_share_45 ?_
      replace hf := chk_some hf
      obtain ⟨hq, hf⟩ := hf
      replace hf := bnd_ex hf
      obtain ⟨g9, eg9, hf⟩ := hf
      refine ys_26 C h hq dX5_share_46 (fun H locs h => ?_)
      rw [← eg9] at h
      clear hq eg9
      have e1 := Option.some.inj hf
      subst e1
      exact m_vret C h dX5_share_47

set_option maxHeartbeats 4000000 in
set_option maxRecDepth 100000 in
theorem qX5_shareB {l : Launch} {D : va_G} {cs : Nat → ClassId} {ad al : Nat → Nat} {P : PL} {dR dd : Nat} (hdR : 2 + 1 * dd + 1 ≤ dR) {r_share : CS → Int32 → Int32 → Int32 → Int32 → Option (CS)} (h_share : ∀ {g1 g2 : CS} {a1 : Int32} {a2 : Int32} {a3 : Int32} {a4 : Int32}, r_share g1 a1 a2 a3 a4 = some g2 → GCon l D cs yX5_share cX5_share 8 none (rM (2 + 1 * dd)) 0 0 [.ref (ad 22), .int a1, .int a2, .int a3, .int a4] (SW cs ad al P g1) none (SW cs ad al P g2)) {g' : CS} {g : CS}  {a1 : Int32} {a2 : Int32} {a3 : Int32} {a4 : Int32} (hf : fX5_shareB P r_share g a1 a2 a3 a4 = some g') : GCon l D cs yX5_share cX5_share 8 none (rM dR) 0 0 [.ref (ad 22), .int a1, .int a2, .int a3, .int a4] (SW cs ad al P g) none (SW cs ad al P g') := by
  refine GCon.of (by decide) (Nat.le_of_ble_eq_true rfl) ?_
  intro p e s m args below meth c A ls H locs C h hl
  have hx := C.1
  have hb := C.2.1
  have C : MCx p s m args meth c A RX5 cX5_share 8 none D cs := C
  have hl : lv_has ls 8 [(0, .ref (ad 22)), (1, .int a1), (2, .int a2), (3, .int a3), (4, .int a4)] := hl
  unfold fX5_shareB at hf
  refine lv_iload_n hx hb dX5_share_0 rfl (lv_at hl 1 rfl) ?_
  refine lv_aload_n hx hb dX5_share_1 rfl (lv_at hl 0 rfl) ?_
  refine xg_X5 1 C h (by decide) tb_6_10 rfl rfl dX5_share_2 ?_
  refine xg_X10 7 C h (by decide) tb_54_15 rfl rfl dX5_share_5 ?_
  refine lv_icmp_ge (tgt := 15) hx hb dX5_share_8 (by decide) (fun hq => ?_) (fun hq => ?_)
  · replace hf := if_t hq hf
    clear hq
    exact wX5_share_15 (P := P) C hdR h_share g a2 a3 a4 hf H locs ls h (lv_sub hl [0, 2, 3, 4] rfl)
  · replace hf := if_f hq hf
    clear hq
    refine lv_iload_n hx hb dX5_share_11 rfl (lv_at hl 2 rfl) ?_
    refine lv_if_ne (tgt := 48) hx hb dX5_share_12 (by decide) (fun hq => ?_) (fun hq => ?_)
    · replace hf := if_tn hq hf
      clear hq
      refine lv_iload_n hx hb dX5_share_48 rfl (lv_at hl 3 rfl) ?_
      refine lv_istore (lv' := [(5, .int a3), (0, .ref (ad 22)), (1, .int a1), (2, .int a2), (3, .int a3), (4, .int a4)]) hx hb dX5_share_49 hl (by decide) rfl (fun ls hl => ?_)
      refine lv_iconst (v := (1 : Int32)) hx hb dX5_share_51 (by decide) ?_
      refine lv_istore (lv' := [(6, .int (1 : Int32)), (5, .int a3), (0, .ref (ad 22)), (1, .int a1), (2, .int a2), (3, .int a3), (4, .int a4)]) hx hb dX5_share_52 hl (by decide) rfl (fun ls hl => ?_)
      refine lv_iconst (v := (0 : Int32)) hx hb dX5_share_54 (by decide) ?_
      refine lv_istore (lv' := [(7, .int (0 : Int32)), (6, .int (1 : Int32)), (5, .int a3), (0, .ref (ad 22)), (1, .int a1), (2, .int a2), (3, .int a3), (4, .int a4)]) hx hb dX5_share_55 hl (by decide) rfl (fun ls hl => ?_)
      exact wX5_share_57 (P := P) C hdR h_share fuel g a1 a2 a4 a3 (1 : Int32) (0 : Int32) hf H locs ls h (lv_sub hl [3, 4, 5, 7, 2, 1, 0] rfl)
    · replace hf := if_t hq hf
      clear hq
      exact wX5_share_15 (P := P) C hdR h_share g a2 a3 a4 hf H locs ls h (lv_sub hl [0, 2, 3, 4] rfl)

theorem qX5_shareD {l : Launch} {D : va_G} {cs : Nat → ClassId} {ad al : Nat → Nat} {P : PL} : ∀ (n : Nat) {g g' : CS} {a1 : Int32} {a2 : Int32} {a3 : Int32} {a4 : Int32}, fX5_shareD P n g a1 a2 a3 a4 = some g' → GCon l D cs yX5_share cX5_share 8 none (rM (2 + 1 * n)) 0 0 [.ref (ad 22), .int a1, .int a2, .int a3, .int a4] (SW cs ad al P g) none (SW cs ad al P g') := by
  intro n
  induction n with
  | zero =>
    intro g g' a1 a2 a3 a4 hf
    exact absurd hf (by simp [fX5_shareD])
  | succ n ih =>
    intro g g' a1 a2 a3 a4 hf
    rw [fX5_shareD] at hf
    exact qX5_shareB (dR := 2 + 1 * (n + 1)) (dd := n) (by omega) ih hf

theorem qX5_share {l : Launch} {D : va_G} {cs : Nat → ClassId} {ad al : Nat → Nat} {P : PL} {g g' : CS} {a1 : Int32} {a2 : Int32} {a3 : Int32} {a4 : Int32} (hf : fX5_share P g a1 a2 a3 a4 = some g') : GCon l D cs yX5_share cX5_share 8 none (rM 12) 0 0 [.ref (ad 22), .int a1, .int a2, .int a3, .int a4] (SW cs ad al P g) none (SW cs ad al P g') := qX5_shareD 10 hf

set_option maxHeartbeats 4000000 in
set_option maxRecDepth 100000 in
theorem wX5_scatter_83 (C : MCx p s m args meth c A RX5 cX5_scatter 3 none D cs)  {g' : CS}  : ∀ (g : CS) (t1 : Int32) (t2 : Int32), fX5_scatter_83 P g t1 t2 = some g' → ∀ (H : Heap) (locs : List Loc) (ls : Array Slot), MH D (SW cs ad al P g) A s H locs → lv_has ls 3 [(0, .ref (ad 22))] → W p l e (rM 13) s m args below meth c H locs 0 0 (MQ below (GPost D none (SW cs ad al P g') A) args s 0 0 A) (F0 m 83 ls [.int t2, .int t1, .ref (ad 22)]) := by
  have hx := C.1
  have hb := C.2.1
  intro g t1 t2 hf H locs ls h hl
  unfold fX5_scatter_83 at hf
  refine lv_aload_n hx hb dX5_scatter_83 rfl (lv_at hl 0 rfl) ?_
  refine xg_X5 0 C h (by decide) tb_6_9 rfl rfl dX5_scatter_84 ?_
  refine xg_X6 3 (by simp [okS, okT, ok6]) C h (by decide) tb_54_16 rfl rfl dX5_scatter_87 ?_
  refine lv_iconst (v := (1 : Int32)) hx hb dX5_scatter_90 (by decide) ?_
  replace hf := bndv_some hf
  obtain ⟨g1, hc, hf⟩ := hf
  refine m_callSWv [.ref (ad 22), .int t1, .int t2, .int (g.1 30 3), .int (1 : Int32)] C h cs_X5_87 (qX5_share hc) rfl ⟨rfl, rfl⟩ ⟨Nat.le_of_ble_eq_true rfl, Nat.le_of_ble_eq_true rfl⟩ hl.1 rfl (Nat.le_of_ble_eq_true rfl) ⟨Nat.le_refl _, Nat.le_refl _⟩ dX5_scatter_91 (fun H locs h => ?_)
  clear hc
  have e1 := Option.some.inj hf
  subst e1
  exact m_vret C h dX5_scatter_94

set_option maxHeartbeats 4000000 in
set_option maxRecDepth 100000 in
theorem wX5_scatter_66 (C : MCx p s m args meth c A RX5 cX5_scatter 3 none D cs)  {g' : CS}  : ∀ (g : CS) (y1 : Int32), fX5_scatter_66 P g y1 = some g' → ∀ (H : Heap) (locs : List Loc) (ls : Array Slot), MH D (SW cs ad al P g) A s H locs → lv_has ls 3 [(0, .ref (ad 22)), (1, .int y1)] → W p l e (rM 13) s m args below meth c H locs 0 0 (MQ below (GPost D none (SW cs ad al P g') A) args s 0 0 A) (F0 m 66 ls []) := by
  have hx := C.1
  have hb := C.2.1
  intro g y1 hf H locs ls h hl
  unfold fX5_scatter_66 at hf
  refine lv_aload_n hx hb dX5_scatter_66 rfl (lv_at hl 0 rfl) ?_
  refine lv_iconst (v := (0 : Int32)) hx hb dX5_scatter_67 (by decide) ?_
  refine lv_aload_n hx hb dX5_scatter_68 rfl (lv_at hl 0 rfl) ?_
  refine xg_X5 1 C h (by decide) tb_6_10 rfl rfl dX5_scatter_69 ?_
  refine xg_X10 7 C h (by decide) tb_54_15 rfl rfl dX5_scatter_72 ?_
  refine lv_if_le (tgt := 82) hx hb dX5_scatter_75 (by decide) (fun hq => ?_) (fun hq => ?_)
  · replace hf := if_t hq hf
    clear hq
    refine lv_iconst (v := (0 : Int32)) hx hb dX5_scatter_82 (by decide) ?_
    exact wX5_scatter_83 (P := P) C g (0 : Int32) (0 : Int32) hf H locs ls h (lv_sub hl [0] rfl)
  · replace hf := if_f hq hf
    clear hq
    refine lv_iload_n hx hb dX5_scatter_78 rfl (lv_at hl 1 rfl) ?_
    refine lv_goto (tgt := 83) hx hb dX5_scatter_79 (by decide) ?_
    exact wX5_scatter_83 (P := P) C g (0 : Int32) y1 hf H locs ls h (lv_sub hl [0] rfl)

set_option maxHeartbeats 4000000 in
set_option maxRecDepth 100000 in
theorem wX5_scatter_29 (C : MCx p s m args meth c A RX5 cX5_scatter 3 none D cs)  {g' : CS}  : ∀ (n : Nat) (g : CS) (y1 : Int32) (y2 : Int32), fX5_scatter_29 P n g y1 y2 = some g' → ∀ (H : Heap) (locs : List Loc) (ls : Array Slot), MH D (SW cs ad al P g) A s H locs → lv_has ls 3 [(0, .ref (ad 22)), (1, .int y1), (2, .int y2)] → W p l e (rM 13) s m args below meth c H locs 0 0 (MQ below (GPost D none (SW cs ad al P g') A) args s 0 0 A) (F0 m 29 ls []) := by
  have hx := C.1
  have hb := C.2.1
  intro n
  induction n with
  | zero =>
    intro g y1 y2 hf
    exact absurd hf (by simp [fX5_scatter_29])
  | succ n ih =>
    intro g y1 y2 hf H locs ls h hl
    rw [fX5_scatter_29] at hf
    refine lv_iload_n hx hb dX5_scatter_29 rfl (lv_at hl 2 rfl) ?_
    refine lv_iload_n hx hb dX5_scatter_30 rfl (lv_at hl 1 rfl) ?_
    refine lv_icmp_ge (tgt := 66) hx hb dX5_scatter_31 (by decide) (fun hq => ?_) (fun hq => ?_)
    · replace hf := if_t hq hf
      clear hq
      exact wX5_scatter_66 (P := P) C g y1 hf H locs ls h (lv_sub hl [0, 1] rfl)
    · replace hf := if_f hq hf
      clear hq
      refine lv_aload_n hx hb dX5_scatter_34 rfl (lv_at hl 0 rfl) ?_
      refine xg_X5 1 C h (by decide) tb_6_10 rfl rfl dX5_scatter_35 ?_
      refine xg_X10 7 C h (by decide) tb_54_15 rfl rfl dX5_scatter_38 ?_
      refine lv_if_le (tgt := 66) hx hb dX5_scatter_41 (by decide) (fun hq => ?_) (fun hq => ?_)
      · replace hf := if_t hq hf
        clear hq
        exact wX5_scatter_66 (P := P) C g y1 hf H locs ls h (lv_sub hl [0, 1] rfl)
      · replace hf := if_f hq hf
        clear hq
        refine lv_aload_n hx hb dX5_scatter_44 rfl (lv_at hl 0 rfl) ?_
        refine lv_dup hx hb dX5_scatter_45 rfl ?_
        refine xg_X5 7 C h (by decide) tb_65_14 rfl rfl dX5_scatter_46 ?_
        refine lv_aload_n hx hb dX5_scatter_49 rfl (lv_at hl 0 rfl) ?_
        refine xg_X5 1 C h (by decide) tb_6_10 rfl rfl dX5_scatter_50 ?_
        refine xg_X10 7 C h (by decide) tb_54_15 rfl rfl dX5_scatter_53 ?_
        refine lv_imul hx hb dX5_scatter_56 ?_
        replace hf := bnd_ex hf
        obtain ⟨g2, eg2, hf⟩ := hf
        refine xp_X5_7 C h tb_65_14 dX5_scatter_57 (fun H locs h => ?_)
        rw [← eg2] at h
        clear eg2
        obtain ⟨x3, ex3⟩ : ∃ z : Int32, z = y2 + (1 : Int32) := ⟨_, rfl⟩
        replace hf := bnd_at ex3 hf
        refine lv_iinc (v := x3) (lv' := [(2, .int x3), (0, .ref (ad 22)), (1, .int y1)]) hx hb dX5_scatter_60 hl (k := 2) rfl (by rw [ex3]; rfl) (by decide) rfl (fun ls hl => ?_)
        clear ex3
        refine lv_goto (tgt := 29) hx hb dX5_scatter_63 (by decide) ?_
        exact ih g2 y1 x3 hf H locs ls h (lv_sub hl [1, 2, 0] rfl)

set_option maxHeartbeats 4000000 in
set_option maxRecDepth 100000 in
theorem qX5_scatter {l : Launch} {D : va_G} {cs : Nat → ClassId} {ad al : Nat → Nat} {P : PL} {g' : CS} {g : CS}  {a0 : Int32} (hf : fX5_scatter P g a0 = some g') : GCon l D cs yX5_scatter cX5_scatter 3 none (rM 13) 0 0 [.ref (ad 22), .int a0] (SW cs ad al P g) none (SW cs ad al P g') := by
  refine GCon.of (by decide) (Nat.le_of_ble_eq_true rfl) ?_
  intro p e s m args below meth c A ls H locs C h hl
  have hx := C.1
  have hb := C.2.1
  have C : MCx p s m args meth c A RX5 cX5_scatter 3 none D cs := C
  have hl : lv_has ls 3 [(0, .ref (ad 22)), (1, .int a0)] := hl
  unfold fX5_scatter at hf
  refine lv_aload_n hx hb dX5_scatter_0 rfl (lv_at hl 0 rfl) ?_
  refine xg_X5 6 C h (by decide) tb_6_14 rfl rfl dX5_scatter_1 ?_
  refine lv_iconst (v := (0 : Int32)) hx hb dX5_scatter_4 (by decide) ?_
  replace hf := bndv_some hf
  obtain ⟨g4, hc, hf⟩ := hf
  refine m_callSWv [.ref (ad 26), .int (0 : Int32)] C h cs_X5_69 (qJ7_fill_53178 (by simp [okS, okT, ok6]) hc) rfl ⟨rfl, rfl⟩ ⟨Nat.le_of_ble_eq_true rfl, Nat.le_of_ble_eq_true rfl⟩ hl.1 rfl (Nat.le_of_ble_eq_true rfl) ⟨Nat.le_refl _, Nat.le_refl _⟩ dX5_scatter_5 (fun H locs h => ?_)
  clear hc
  refine lv_aload_n hx hb dX5_scatter_8 rfl (lv_at hl 0 rfl) ?_
  refine xg_X5 1 C h (by decide) tb_6_10 rfl rfl dX5_scatter_9 ?_
  refine lv_aload_n hx hb dX5_scatter_12 rfl (lv_at hl 0 rfl) ?_
  refine xg_X5 0 C h (by decide) tb_6_9 rfl rfl dX5_scatter_13 ?_
  refine xg_X6 5 (by simp [okS, okT, ok6]) C h (by decide) tb_54_14 rfl rfl dX5_scatter_16 ?_
  replace hf := bndv_some hf
  obtain ⟨g5, hc, hf⟩ := hf
  refine m_callVv [.int (g4.1 30 5)] C h cv_X5_41 (qX10_begin hc) rfl ⟨rfl, rfl⟩ ⟨Nat.le_of_ble_eq_true rfl, Nat.le_of_ble_eq_true rfl⟩ (rv_X10 C h) hl.1 rfl (Nat.le_of_ble_eq_true rfl) ⟨Nat.le_refl _, Nat.le_refl _⟩ dX5_scatter_19 (fun H locs h => ?_)
  clear hc
  refine lv_aload_n hx hb dX5_scatter_22 rfl (lv_at hl 0 rfl) ?_
  refine lv_iconst (v := (1 : Int32)) hx hb dX5_scatter_23 (by decide) ?_
  replace hf := bnd_ex hf
  obtain ⟨g6, eg6, hf⟩ := hf
  refine xp_X5_7 C h tb_65_14 dX5_scatter_24 (fun H locs h => ?_)
  rw [← eg6] at h
  clear eg6
  refine lv_iconst (v := (0 : Int32)) hx hb dX5_scatter_27 (by decide) ?_
  refine lv_istore_n (lv' := [(2, .int (0 : Int32)), (0, .ref (ad 22)), (1, .int a0)]) hx hb dX5_scatter_28 rfl hl (by decide) rfl (fun ls hl => ?_)
  exact wX5_scatter_29 (P := P) C fuel g6 a0 (0 : Int32) hf H locs ls h (lv_sub hl [1, 2, 0] rfl)

set_option maxHeartbeats 4000000 in
set_option maxRecDepth 100000 in
theorem qX6_settleAs {l : Launch} {D : va_G} {cs : Nat → ClassId} {ad al : Nat → Nat} {P : PL} {g' : CS} {g : CS}  {o : Nat} (hn_o : okS o) (hf : fX6_settleAs P g o = some g') : GCon l D cs yX6_settleAs cX6_settleAs 2 none (rM 0) 0 0 [.ref (ad o), .ref (ad 4)] (SW cs ad al P g) none (SW cs ad al P g') := by
  refine GCon.of (by decide) (Nat.le_of_ble_eq_true rfl) ?_
  intro p e s m args below meth c A ls H locs C h hl
  have hx := C.1
  have hb := C.2.1
  have C : MCx p s m args meth c A RX6 cX6_settleAs 2 none D cs := C
  have hl : lv_has ls 2 [(0, .ref (ad o)), (1, .ref (ad 4))] := hl
  unfold fX6_settleAs at hf
  refine lv_aload_n hx hb dX6_settleAs_0 rfl (lv_at hl 0 rfl) ?_
  refine lv_aload_n hx hb dX6_settleAs_1 rfl (lv_at hl 1 rfl) ?_
  refine xg_X3 4 C h (by decide) tb_19_8 rfl rfl dX6_settleAs_2 ?_
  replace hf := bnd_ex hf
  obtain ⟨g1, eg1, hf⟩ := hf
  refine xp_X6_1 hn_o C h tb_4_14 dX6_settleAs_5 (fun H locs h => ?_)
  rw [← eg1] at h
  clear eg1
  refine lv_aload_n hx hb dX6_settleAs_8 rfl (lv_at hl 0 rfl) ?_
  refine lv_aload_n hx hb dX6_settleAs_9 rfl (lv_at hl 1 rfl) ?_
  refine xg_X3 5 C h (by decide) tb_19_9 rfl rfl dX6_settleAs_10 ?_
  replace hf := bnd_ex hf
  obtain ⟨g2, eg2, hf⟩ := hf
  refine xp_X6_2 hn_o C h tb_19_10 dX6_settleAs_13 (fun H locs h => ?_)
  rw [← eg2] at h
  clear eg2
  refine lv_aload_n hx hb dX6_settleAs_16 rfl (lv_at hl 0 rfl) ?_
  refine lv_aload_n hx hb dX6_settleAs_17 rfl (lv_at hl 1 rfl) ?_
  refine xg_X3 6 C h (by decide) tb_19_11 rfl rfl dX6_settleAs_18 ?_
  replace hf := bnd_ex hf
  obtain ⟨g3, eg3, hf⟩ := hf
  refine xp_X6_3 hn_o C h tb_19_12 dX6_settleAs_21 (fun H locs h => ?_)
  rw [← eg3] at h
  clear eg3
  refine lv_aload_n hx hb dX6_settleAs_24 rfl (lv_at hl 0 rfl) ?_
  refine lv_aload_n hx hb dX6_settleAs_25 rfl (lv_at hl 1 rfl) ?_
  refine xg_X3 7 C h (by decide) tb_19_13 rfl rfl dX6_settleAs_26 ?_
  replace hf := bnd_ex hf
  obtain ⟨g4, eg4, hf⟩ := hf
  refine xp_X6_4 hn_o C h tb_4_15 dX6_settleAs_29 (fun H locs h => ?_)
  rw [← eg4] at h
  clear eg4
  refine lv_aload_n hx hb dX6_settleAs_32 rfl (lv_at hl 0 rfl) ?_
  refine lv_aload_n hx hb dX6_settleAs_33 rfl (lv_at hl 1 rfl) ?_
  refine xg_X3 8 C h (by decide) tb_19_14 rfl rfl dX6_settleAs_34 ?_
  replace hf := bnd_ex hf
  obtain ⟨g5, eg5, hf⟩ := hf
  refine xp_X6_5 hn_o C h tb_19_15 dX6_settleAs_37 (fun H locs h => ?_)
  rw [← eg5] at h
  clear eg5
  refine lv_aload_n hx hb dX6_settleAs_40 rfl (lv_at hl 0 rfl) ?_
  refine lv_aload_n hx hb dX6_settleAs_41 rfl (lv_at hl 1 rfl) ?_
  refine xg_X3 9 C h (by decide) tb_19_16 rfl rfl dX6_settleAs_42 ?_
  replace hf := bnd_ex hf
  obtain ⟨g6, eg6, hf⟩ := hf
  refine xp_X6_8 hn_o C h tb_4_16 dX6_settleAs_45 (fun H locs h => ?_)
  rw [← eg6] at h
  clear eg6
  refine lv_aload_n hx hb dX6_settleAs_48 rfl (lv_at hl 0 rfl) ?_
  refine lv_aload_n hx hb dX6_settleAs_49 rfl (lv_at hl 1 rfl) ?_
  refine xg_X3 10 C h (by decide) tb_19_17 rfl rfl dX6_settleAs_50 ?_
  replace hf := bnd_ex hf
  obtain ⟨g7, eg7, hf⟩ := hf
  refine xp_X6_9 hn_o C h tb_4_17 dX6_settleAs_53 (fun H locs h => ?_)
  rw [← eg7] at h
  clear eg7
  refine lv_aload_n hx hb dX6_settleAs_56 rfl (lv_at hl 0 rfl) ?_
  refine lv_aload_n hx hb dX6_settleAs_57 rfl (lv_at hl 1 rfl) ?_
  refine xg_X3 11 C h (by decide) tb_19_18 rfl rfl dX6_settleAs_58 ?_
  replace hf := bnd_ex hf
  obtain ⟨g8, eg8, hf⟩ := hf
  refine xp_X6_10 hn_o C h tb_4_18 dX6_settleAs_61 (fun H locs h => ?_)
  rw [← eg8] at h
  clear eg8
  refine lv_aload_n hx hb dX6_settleAs_64 rfl (lv_at hl 0 rfl) ?_
  refine lv_iconst (v := (0 : Int32)) hx hb dX6_settleAs_65 (by decide) ?_
  replace hf := bnd_ex hf
  obtain ⟨g9, eg9, hf⟩ := hf
  refine xp_X6_6 hn_o C h tb_19_19 dX6_settleAs_66 (fun H locs h => ?_)
  rw [← eg9] at h
  clear eg9
  refine lv_aload_n hx hb dX6_settleAs_69 rfl (lv_at hl 0 rfl) ?_
  refine lv_dup hx hb dX6_settleAs_70 rfl ?_
  refine xg_X6 7 hn_o C h (by decide) tb_19_20 rfl rfl dX6_settleAs_71 ?_
  refine lv_iconst (v := (1 : Int32)) hx hb dX6_settleAs_74 (by decide) ?_
  refine lv_iadd hx hb dX6_settleAs_75 ?_
  replace hf := bnd_ex hf
  obtain ⟨g10, eg10, hf⟩ := hf
  refine xp_X6_7 hn_o C h tb_19_20 dX6_settleAs_76 (fun H locs h => ?_)
  rw [← eg10] at h
  clear eg10
  have e1 := Option.some.inj hf
  subst e1
  exact m_vret C h dX6_settleAs_79
end
