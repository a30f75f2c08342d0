theorem tb_15_11 : Cond.fieldLink RX3 133 "SwivelBoard$LawWriter" "wanted" "Z" ∈ bT := List.mem_append_left _ (in_r15 _ (List.mem_of_getElem? (i := 11) rfl))
theorem tb_3_14 : Cond.fieldLink RX3 27 "SwivelBoard$Parser" "unwritten" "[I" ∈ bT := List.mem_append_left _ (in_r3 _ (List.mem_of_getElem? (i := 14) rfl))
theorem tb_3_15 : Cond.fieldLink RX3 31 "SwivelBoard$Parser" "drags" "[I" ∈ bT := List.mem_append_left _ (in_r3 _ (List.mem_of_getElem? (i := 15) rfl))
theorem tb_3_16 : Cond.fieldLink RX3 34 "SwivelBoard$Parser" "costs" "[I" ∈ bT := List.mem_append_left _ (in_r3 _ (List.mem_of_getElem? (i := 16) rfl))
theorem tb_3_17 : Cond.fieldLink RX3 37 "SwivelBoard$Parser" "goes" "[I" ∈ bT := List.mem_append_left _ (in_r3 _ (List.mem_of_getElem? (i := 17) rfl))
theorem tb_1_20 : Cond.fieldLink RX11 22 "SwivelBoard" "parser" "LSwivelBoard$Parser;" ∈ bT := List.mem_append_left _ (in_r1 _ (List.mem_of_getElem? (i := 20) rfl))
theorem tb_9_6 : Cond.fieldLink RX11 97 "SwivelBoard$Parser" "fault" "I" ∈ bT := List.mem_append_left _ (in_r9 _ (List.mem_of_getElem? (i := 6) rfl))
theorem tb_9_8 : Cond.fieldLink RX11 103 "SwivelBoard$Parser" "place" "I" ∈ bT := List.mem_append_left _ (in_r9 _ (List.mem_of_getElem? (i := 8) rfl))
theorem tb_3_13 : Cond.arrayClass .int ∈ bT := List.mem_append_left _ (in_r3 _ (List.mem_of_getElem? (i := 13) rfl))
theorem tb_19_0 : Cond.methodLink RJ7 150 arraycopyName ∈ bT := List.mem_append_left _ (in_r19 _ (List.mem_of_getElem? (i := 0) rfl))
theorem tb_18_23 : Cond.methodLink RJ7 304 Lib.Math.min.name ∈ bT := List.mem_append_left _ (in_r18 _ (List.mem_of_getElem? (i := 23) rfl))
theorem tb_9_10 : Cond.methodLink RX11 94 yX3_read ∈ bT := List.mem_append_left _ (in_r9 _ (List.mem_of_getElem? (i := 10) rfl))
theorem tb_9_13 : Cond.code yX3_read cX3_read 3 none ∈ bT := List.mem_append_left _ (in_r9 _ (List.mem_of_getElem? (i := 13) rfl))
theorem tb_9_11 : Cond.instanceMethod yX3_read ∈ bT := List.mem_append_left _ (in_r9 _ (List.mem_of_getElem? (i := 11) rfl))
theorem tb_9_12 : Cond.selects RX3 yX3_read yX3_read ∈ bT := List.mem_append_left _ (in_r9 _ (List.mem_of_getElem? (i := 12) rfl))
theorem tb_19_4 : Cond.methodLink RX11 106 yX6_settleAs ∈ bT := List.mem_append_left _ (in_r19 _ (List.mem_of_getElem? (i := 4) rfl))
theorem tb_19_7 : Cond.code yX6_settleAs cX6_settleAs 2 none ∈ bT := List.mem_append_left _ (in_r19 _ (List.mem_of_getElem? (i := 7) rfl))
theorem tb_19_5 : Cond.instanceMethod yX6_settleAs ∈ bT := List.mem_append_left _ (in_r19 _ (List.mem_of_getElem? (i := 5) rfl))
theorem tb_19_6 : Cond.selects RX6 yX6_settleAs yX6_settleAs ∈ bT := List.mem_append_left _ (in_r19 _ (List.mem_of_getElem? (i := 6) rfl))
theorem tb_18_13 : Cond.methodLink RX2 51 yJ7_copyOf_59c91 ∈ bT := List.mem_append_left _ (in_r18 _ (List.mem_of_getElem? (i := 13) rfl))
theorem tb_18_16 : Cond.code yJ7_copyOf_59c91 cJ7_copyOf_59c91 3 (some (.array .int)) ∈ bT := List.mem_append_left _ (in_r18 _ (List.mem_of_getElem? (i := 16) rfl))
theorem tb_18_14 : Cond.static yJ7_copyOf_59c91 ∈ bT := List.mem_append_left _ (in_r18 _ (List.mem_of_getElem? (i := 14) rfl))
theorem tb_9_20 : Cond.methodLink RX3 56 yX8_begin ∈ bT := List.mem_append_left _ (in_r9 _ (List.mem_of_getElem? (i := 20) rfl))
theorem tb_9_23 : Cond.code yX8_begin cX8_begin 2 none ∈ bT := List.mem_append_left _ (in_r9 _ (List.mem_of_getElem? (i := 23) rfl))
theorem tb_9_21 : Cond.instanceMethod yX8_begin ∈ bT := List.mem_append_left _ (in_r9 _ (List.mem_of_getElem? (i := 21) rfl))
theorem tb_9_22 : Cond.selects RX8 yX8_begin yX8_begin ∈ bT := List.mem_append_left _ (in_r9 _ (List.mem_of_getElem? (i := 22) rfl))
theorem tb_11_5 : Cond.methodLink RX3 60 yX3_readBoard ∈ bT := List.mem_append_left _ (in_r11 _ (List.mem_of_getElem? (i := 5) rfl))
theorem tb_11_8 : Cond.code yX3_readBoard cX3_readBoard 1 none ∈ bT := List.mem_append_left _ (in_r11 _ (List.mem_of_getElem? (i := 8) rfl))
theorem tb_11_6 : Cond.instanceMethod yX3_readBoard ∈ bT := List.mem_append_left _ (in_r11 _ (List.mem_of_getElem? (i := 6) rfl))
theorem tb_11_7 : Cond.selects RX3 yX3_readBoard yX3_readBoard ∈ bT := List.mem_append_left _ (in_r11 _ (List.mem_of_getElem? (i := 7) rfl))
theorem tb_14_16 : Cond.methodLink RX3 66 yX3_readLine ∈ bT := List.mem_append_left _ (in_r14 _ (List.mem_of_getElem? (i := 16) rfl))
theorem tb_14_19 : Cond.code yX3_readLine cX3_readLine 1 none ∈ bT := List.mem_append_left _ (in_r14 _ (List.mem_of_getElem? (i := 19) rfl))
theorem tb_14_17 : Cond.instanceMethod yX3_readLine ∈ bT := List.mem_append_left _ (in_r14 _ (List.mem_of_getElem? (i := 17) rfl))
theorem tb_14_18 : Cond.selects RX3 yX3_readLine yX3_readLine ∈ bT := List.mem_append_left _ (in_r14 _ (List.mem_of_getElem? (i := 18) rfl))
theorem tb_14_20 : Cond.methodLink RX3 102 yX3_readMember ∈ bT := List.mem_append_left _ (in_r14 _ (List.mem_of_getElem? (i := 20) rfl))
theorem tb_14_23 : Cond.code yX3_readMember cX3_readMember 3 none ∈ bT := List.mem_append_left _ (in_r14 _ (List.mem_of_getElem? (i := 23) rfl))
theorem tb_14_21 : Cond.instanceMethod yX3_readMember ∈ bT := List.mem_append_left _ (in_r14 _ (List.mem_of_getElem? (i := 21) rfl))
theorem tb_14_22 : Cond.selects RX3 yX3_readMember yX3_readMember ∈ bT := List.mem_append_left _ (in_r14 _ (List.mem_of_getElem? (i := 22) rfl))
theorem tb_15_7 : Cond.methodLink RX3 106 yX3_readLaw ∈ bT := List.mem_append_left _ (in_r15 _ (List.mem_of_getElem? (i := 7) rfl))
theorem tb_15_10 : Cond.code yX3_readLaw cX3_readLaw 4 (some (.array .int)) ∈ bT := List.mem_append_left _ (in_r15 _ (List.mem_of_getElem? (i := 10) rfl))
theorem tb_15_8 : Cond.instanceMethod yX3_readLaw ∈ bT := List.mem_append_left _ (in_r15 _ (List.mem_of_getElem? (i := 8) rfl))
theorem tb_15_9 : Cond.selects RX3 yX3_readLaw yX3_readLaw ∈ bT := List.mem_append_left _ (in_r15 _ (List.mem_of_getElem? (i := 9) rfl))
theorem tb_15_12 : Cond.methodLink RX3 128 yX2_begin ∈ bT := List.mem_append_left _ (in_r15 _ (List.mem_of_getElem? (i := 12) rfl))
theorem tb_15_15 : Cond.code yX2_begin cX2_begin 2 none ∈ bT := List.mem_append_left _ (in_r15 _ (List.mem_of_getElem? (i := 15) rfl))
theorem tb_15_13 : Cond.instanceMethod yX2_begin ∈ bT := List.mem_append_left _ (in_r15 _ (List.mem_of_getElem? (i := 13) rfl))
theorem tb_15_14 : Cond.selects RX2 yX2_begin yX2_begin ∈ bT := List.mem_append_left _ (in_r15 _ (List.mem_of_getElem? (i := 14) rfl))
theorem tb_16_0 : Cond.methodLink RX3 129 yX3_lawEnds ∈ bT := List.mem_append_left _ (in_r16 _ (List.mem_of_getElem? (i := 0) rfl))
theorem tb_16_3 : Cond.code yX3_lawEnds cX3_lawEnds 1 (some .boolean) ∈ bT := List.mem_append_left _ (in_r16 _ (List.mem_of_getElem? (i := 3) rfl))
theorem tb_16_1 : Cond.instanceMethod yX3_lawEnds ∈ bT := List.mem_append_left _ (in_r16 _ (List.mem_of_getElem? (i := 1) rfl))
theorem tb_16_2 : Cond.selects RX3 yX3_lawEnds yX3_lawEnds ∈ bT := List.mem_append_left _ (in_r16 _ (List.mem_of_getElem? (i := 2) rfl))
theorem tb_16_8 : Cond.methodLink RX3 137 yX2_takeOperand ∈ bT := List.mem_append_left _ (in_r16 _ (List.mem_of_getElem? (i := 8) rfl))
theorem tb_16_11 : Cond.code yX2_takeOperand cX2_takeOperand 3 (some .int) ∈ bT := List.mem_append_left _ (in_r16 _ (List.mem_of_getElem? (i := 11) rfl))
theorem tb_16_9 : Cond.instanceMethod yX2_takeOperand ∈ bT := List.mem_append_left _ (in_r16 _ (List.mem_of_getElem? (i := 9) rfl))
theorem tb_16_10 : Cond.selects RX2 yX2_takeOperand yX2_takeOperand ∈ bT := List.mem_append_left _ (in_r16 _ (List.mem_of_getElem? (i := 10) rfl))
theorem tb_17_8 : Cond.methodLink RX3 141 yX2_takeLink ∈ bT := List.mem_append_left _ (in_r17 _ (List.mem_of_getElem? (i := 8) rfl))
theorem tb_17_11 : Cond.code yX2_takeLink cX2_takeLink 5 (some .int) ∈ bT := List.mem_append_left _ (in_r17 _ (List.mem_of_getElem? (i := 11) rfl))
theorem tb_17_9 : Cond.instanceMethod yX2_takeLink ∈ bT := List.mem_append_left _ (in_r17 _ (List.mem_of_getElem? (i := 9) rfl))
theorem tb_17_10 : Cond.selects RX2 yX2_takeLink yX2_takeLink ∈ bT := List.mem_append_left _ (in_r17 _ (List.mem_of_getElem? (i := 10) rfl))
theorem tb_18_9 : Cond.methodLink RX3 144 yX2_written ∈ bT := List.mem_append_left _ (in_r18 _ (List.mem_of_getElem? (i := 9) rfl))
theorem tb_18_12 : Cond.code yX2_written cX2_written 1 (some (.array .int)) ∈ bT := List.mem_append_left _ (in_r18 _ (List.mem_of_getElem? (i := 12) rfl))
theorem tb_18_10 : Cond.instanceMethod yX2_written ∈ bT := List.mem_append_left _ (in_r18 _ (List.mem_of_getElem? (i := 10) rfl))
theorem tb_18_11 : Cond.selects RX2 yX2_written yX2_written ∈ bT := List.mem_append_left _ (in_r18 _ (List.mem_of_getElem? (i := 11) rfl))
theorem cv_X11_94 : CalV RX11 94 yX3_read cX3_read 3 none 1 := CalV.of tb_9_10 tb_9_11 tb_9_12 tb_1_19 tb_9_13 (by decide +kernel)
theorem cv_X11_106 : CalV RX11 106 yX6_settleAs cX6_settleAs 2 none 1 := CalV.of tb_19_4 tb_19_5 tb_19_6 tb_2_2 tb_19_7 (by decide +kernel)
theorem cs_X2_51 : CalS RX2 51 yJ7_copyOf_59c91 cJ7_copyOf_59c91 3 (some (.array .int)) 2 := CalS.of tb_18_13 tb_18_14 tb_18_15 tb_18_16 (by decide +kernel)
theorem cv_X3_56 : CalV RX3 56 yX8_begin cX8_begin 2 none 1 := CalV.of tb_9_20 tb_9_21 tb_9_22 tb_3_7 tb_9_23 (by decide +kernel)
theorem cv_X3_60 : CalV RX3 60 yX3_readBoard cX3_readBoard 1 none 0 := CalV.of tb_11_5 tb_11_6 tb_11_7 tb_1_19 tb_11_8 (by decide +kernel)
theorem cv_X3_66 : CalV RX3 66 yX3_readLine cX3_readLine 1 none 0 := CalV.of tb_14_16 tb_14_17 tb_14_18 tb_1_19 tb_14_19 (by decide +kernel)
theorem cv_X3_102 : CalV RX3 102 yX3_readMember cX3_readMember 3 none 0 := CalV.of tb_14_20 tb_14_21 tb_14_22 tb_1_19 tb_14_23 (by decide +kernel)
theorem cv_X3_106 : CalV RX3 106 yX3_readLaw cX3_readLaw 4 (some (.array .int)) 1 := CalV.of tb_15_7 tb_15_8 tb_15_9 tb_1_19 tb_15_10 (by decide +kernel)
theorem cv_X3_128 : CalV RX3 128 yX2_begin cX2_begin 2 none 1 := CalV.of tb_15_12 tb_15_13 tb_15_14 tb_3_11 tb_15_15 (by decide +kernel)
theorem cv_X3_129 : CalV RX3 129 yX3_lawEnds cX3_lawEnds 1 (some .boolean) 0 := CalV.of tb_16_0 tb_16_1 tb_16_2 tb_1_19 tb_16_3 (by decide +kernel)
theorem cv_X3_137 : CalV RX3 137 yX2_takeOperand cX2_takeOperand 3 (some .int) 1 := CalV.of tb_16_8 tb_16_9 tb_16_10 tb_3_11 tb_16_11 (by decide +kernel)
theorem cv_X3_141 : CalV RX3 141 yX2_takeLink cX2_takeLink 5 (some .int) 1 := CalV.of tb_17_8 tb_17_9 tb_17_10 tb_3_11 tb_17_11 (by decide +kernel)
theorem cv_X3_144 : CalV RX3 144 yX2_written cX2_written 1 (some (.array .int)) 0 := CalV.of tb_18_9 tb_18_10 tb_18_11 tb_3_11 tb_18_12 (by decide +kernel)
def rA (d c k : Nat) : Room := { frames := d, cells := c, slots := k, locals := 60 * d }
def pAdd (P : PL) (n : Nat) (f : Nat → Int32) : PL := (P.1 + 1, P.2.1 + n, fun i => if i = P.1 then (n, f) else P.2.2 i)
def alu (al : Nat → Nat) (n q : Nat) : Nat → Nat := fun i => if i = n then q else al i
/-- every law that is named lies in the pool -/
def wfL (P : PL) (g : CS) : Bool := decide (((g.2.2.2 4 9 < P.1 ∧ g.2.2.2 4 10 < P.1) ∧ (g.2.2.2 4 11 < P.1 ∧ g.2.2.2 4 12 < P.1)) ∧ (g.2.2.2 30 8 < P.1 ∧ g.2.2.2 30 9 < P.1 ∧ g.2.2.2 30 10 < P.1) ∧ (g.2.2.2 31 8 < P.1 ∧ g.2.2.2 31 9 < P.1 ∧ g.2.2.2 31 10 < P.1) ∧ (g.2.2.2 32 8 < P.1 ∧ g.2.2.2 32 9 < P.1 ∧ g.2.2.2 32 10 < P.1) ∧ (g.2.2.2 33 8 < P.1 ∧ g.2.2.2 33 9 < P.1 ∧ g.2.2.2 33 10 < P.1) ∧ (g.2.2.2 34 8 < P.1 ∧ g.2.2.2 34 9 < P.1 ∧ g.2.2.2 34 10 < P.1))
theorem alu_ne {al : Nat → Nat} {n q i : Nat} (h : i < n) : alu al n q i = al i := if_neg (by omega)
theorem alu_at {al : Nat → Nat} {n q : Nat} : alu al n q n = q := if_pos rfl
theorem SWf_alu {cs : Nat → ClassId} {ad al : Nat → Nat} {P : PL} {g : CS} {q : Nat} (h : wfL P g = true) : SWf cs ad (alu al P.1 q) g = SWf cs ad al g := by
  obtain ⟨⟨⟨h1, h2⟩, h3, h4⟩, s0, s1, s2, s3, s4⟩ := (of_decide_eq_true h : ((g.2.2.2 4 9 < P.1 ∧ g.2.2.2 4 10 < P.1) ∧ (g.2.2.2 4 11 < P.1 ∧ g.2.2.2 4 12 < P.1)) ∧ (g.2.2.2 30 8 < P.1 ∧ g.2.2.2 30 9 < P.1 ∧ g.2.2.2 30 10 < P.1) ∧ (g.2.2.2 31 8 < P.1 ∧ g.2.2.2 31 9 < P.1 ∧ g.2.2.2 31 10 < P.1) ∧ (g.2.2.2 32 8 < P.1 ∧ g.2.2.2 32 9 < P.1 ∧ g.2.2.2 32 10 < P.1) ∧ (g.2.2.2 33 8 < P.1 ∧ g.2.2.2 33 9 < P.1 ∧ g.2.2.2 33 10 < P.1) ∧ (g.2.2.2 34 8 < P.1 ∧ g.2.2.2 34 9 < P.1 ∧ g.2.2.2 34 10 < P.1))
  have e : ∀ o, okS o → FX6 ad (alu al P.1 q) g o = FX6 ad al g o := by
    intro o ho
    have hh : g.2.2.2 o 8 < P.1 ∧ g.2.2.2 o 9 < P.1 ∧ g.2.2.2 o 10 < P.1 := by
      rcases ho with z | z | z | z | z <;> subst z
      · exact s0
      · exact s1
      · exact s2
      · exact s3
      · exact s4
    unfold FX6
    rw [alu_ne hh.1, alu_ne hh.2.1, alu_ne hh.2.2]
  have e3 : FX3 ad (alu al P.1 q) g = FX3 ad al g := by
    unfold FX3
    rw [alu_ne h1, alu_ne h2, alu_ne h3, alu_ne h4]
  unfold SWf
  rw [e3, e 30 (by simp [okS]), e 31 (by simp [okS]), e 32 (by simp [okS]), e 33 (by simp [okS]), e 34 (by simp [okS])]
  rfl
theorem lawC_alu {cs : Nat → ClassId} {al : Nat → Nat} {P : PL} {n : Nat} {f : Nat → Int32} {q : Nat} : (List.range P.1).map (lawC cs (alu al P.1 q) (pAdd P n f)) = (List.range P.1).map (lawC cs al P) := by
  apply List.map_congr_left
  intro i hi
  have hi : i < P.1 := List.mem_range.mp hi
  unfold lawC
  rw [alu_ne hi, show (pAdd P n f).2.2 i = P.2.2 i from if_neg (by omega)]
theorem SW_add {cs : Nat → ClassId} {ad al : Nat → Nat} {P : PL} {g : CS} {n q : Nat} {f : Nat → Int32} (h : wfL P g = true) : SW cs ad (alu al P.1 q) (pAdd P n f) g = SW cs ad al P g ++ [(q, .inl (cs 0, n, .inl f))] := by
  unfold SW
  rw [SWf_alu h, show (pAdd P n f).1 = P.1 + 1 from rfl, List.range_succ, List.map_append, lawC_alu, List.append_assoc]
  have e : (List.map (lawC cs (alu al P.1 q) (pAdd P n f)) [P.1]) = [(q, .inl (cs 0, n, .inl f))] := by
    show [lawC cs (alu al P.1 q) (pAdd P n f) P.1] = _
    unfold lawC
    rw [alu_at, show (pAdd P n f).2.2 P.1 = (n, f) from if_pos rfl]
  rw [e]
theorem SW_alu {cs : Nat → ClassId} {ad al : Nat → Nat} {P : PL} {g : CS} {q : Nat} (h : wfL P g = true) : SW cs ad (alu al P.1 q) P g = SW cs ad al P g := by
  unfold SW
  rw [SWf_alu h]
  congr 1
  apply List.map_congr_left
  intro i hi
  have hi : i < P.1 := List.mem_range.mp hi
  unfold lawC
  rw [alu_ne hi]
/-- the end of a method that may add laws to the pool -/
def APost (D : va_G) (cs : Nat → ClassId) (ad : Nat → Nat) (rv : (Nat → Nat) → Option Value) (al : Nat → Nat) (n : Nat) (P' : PL) (g' : CS) (A : Nat → Prop) : Array Value → State → Outcome → State → Prop := fun _ st oc t =>
  ∃ al' : Nat → Nat, (∀ i, i < n → al' i = al i) ∧ oc = .returned (rv al') ∧ va_P D vwCl (SW cs ad al' P' g') t.heap ∧ va_D A (SW cs ad al' P' g') ∧ va_F A st t
def ACon (l : Launch) (D : va_G) (cs : Nat → ClassId) (ad al adK adV : Nat → Nat) (y : MethodName) (bc : ByteArray) (nc : Nat) (rc : Option FieldType) (rm : Room) (mc ms : Nat) (av : List Value) (P : PL) (g : CS) (rv : (Nat → Nat) → Option Value) (P' : PL) (g' : CS) : Prop :=
  ∀ sz : Nat, Met l y (wsOf y bc nc rc) rm (va_Pc av (fun U => U.heap.size = sz ∧ va_P D vwCl (SW cs ad al P g) U.heap ∧ va_K D vwCl (tyL cs) U ∧ va_D (fun _ => True) (SW cs ad al P g) ∧ KS adK adV (va_A (SW cs ad al P g) sz) U U.heap)) (APost D cs ad rv al P.1 P' g' (va_A (SW cs ad al P g) sz)) mc ms (va_A (SW cs ad al P g) sz)
section
variable {p : Program} {l : Launch} {e : Env} {R : Room} {s : State} {m : MethodId} {args : Array Value} {below : List Frame} {meth : Method} {c : Code} {H : Heap} {locs : List Loc} {cells slots : Nat} {Q : State → Prop}
variable {D : va_G} {cs : Nat → ClassId} {ad al adK adV : Nat → Nat} {A : Nat → Prop} {Wd : va_W} {own : String} {cc : ByteArray} {nL : Nat} {rt : Option FieldType} {pc : Nat} {ls : Array Slot} {rest : List Value} {P P' : PL} {g g' : CS} {rv : (Nat → Nat) → Option Value}
theorem ACon.of {y : MethodName} {bc : ByteArray} {nc : Nat} {rc : Option FieldType} {rm : Room} {mc ms : Nat} {av : List Value} (hy : plainName y.cls = true) (hlen : (lg_sl av).length ≤ nc)
    (body : ∀ (p : Program) (e : Env) (s : State) (m : MethodId) (args : Array Value) (below : List Frame) (meth : Method) (c : Code) (A : Nat → Prop) (ls : Array Slot) (H : Heap) (locs : List Loc), MCx p s m args meth c A y.cls bc nc rc D cs → KS adK adV A s s.heap → MH D (SW cs ad al P g) A s H locs → lv_has ls nc (lv_args 0 av) → W p l e rm s m args below meth c H locs 0 0 (MQ below (APost D cs ad rv al P.1 P' g' A) args s mc ms A) (F0 m 0 ls [])) :
    ACon l D cs ad al adK adV y bc nc rc rm mc ms av P g rv P' g' := by
  intro sz
  refine Met.ofW (cc := bc) (maxL := nc) (ret := rc) hy rfl ?_
  intro p e s m args below meth c s₁ B hml hv
  obtain ⟨rfl, hsz, hP, hK, hD0, hKS⟩ := hv
  have hts := atoms_spec (ws := wsOf y bc nc rc) B.pre
  have hown : s.vm.findClass y.cls = some m.cls := findClass_of_methodNamed B.named
  subst hsz
  have hl := lv_entry av (n := nc) hlen
  rw [lg_entry_eq]
  exact body p e s m _ below meth c (va_A (SW cs ad al P g) s.heap.size) _ s.heap [] ⟨B.exec, B.bytes, hml, hown, fun w h => hts w (List.mem_cons_of_mem _ h), B.returns, B.notSynchronized, hK, fun q h => Or.inr h⟩ hKS ⟨hP, hD0.self, va_S.rf⟩ hl
theorem a_back {st0 : List Value} {mc ms : Nat} {a : Array Value} (C : MCx p s m args meth c A own cc nL rt D cs) (h : MH D (SW cs ad al P g) A s H locs) (hr : va_Run p l e R s m args below meth c H locs cells slots mc ms (F0 m pc ls st0) rest (APost D cs ad rv al P.1 P' g' (va_A (SW cs ad al P g) H.size) a) (va_A (SW cs ad al P g) H.size))
    (kk : ∀ (al' : Nat → Nat) (H1 : Heap) (locs1 : List Loc), (∀ i, i < P.1 → al' i = al i) → MH D (SW cs ad al' P' g') A s H1 locs1 → W p l e R s m args below meth c H1 locs1 (cells + mc) (slots + ms) Q (F0 m (pc + 3) ls ((rv al').toList ++ rest))) : W p l e R s m args below meth c H locs cells slots Q (F0 m pc ls st0) := by
  obtain ⟨hx, hb, hml, hown, hts, hrt, hlocks, hK, hA⟩ := C
  obtain ⟨hP, hD, hS⟩ := h
  have hf := va_A_sub hD hS hA
  intro T hT X
  obtain ⟨v, st₀, t, T', L, h0, X', hL, e1, e2, ⟨al', hal, hv, hP1, hD1, hz, hk⟩, st⟩ := hr T hT X
  cases hv
  rw [h0] at hz hk
  obtain ⟨t2, a1, b1⟩ := kk al' T'.heap (locs ++ L) hal ⟨by rw [e1]; exact hP1, hD1.weaken (fun _ q _ => hf q.1),
    Nat.le_trans hS.1 (by rw [e1]; exact hz), fun q h1 h2 => by rw [e1, hk q (Nat.lt_of_lt_of_le h1 hS.1) (fun z => h2 (hf q z))]; exact hS.2.1 q h1 h2, fun q hq => by
      rcases List.mem_append.mp hq with h | h
      · exact hS.2.2 q h
      · exact hf _ (hL q h)⟩ T' rfl X'
  exact ⟨t2, st t2 a1, b1⟩
theorem a_callV {y : MethodName} {bc : ByteArray} {nc : Nat} {rc : Option FieldType} {rm : Room} {mc ms idx b n : Nat} {st : List Value} (av : List Value) (C : MCx p s m args meth c A own cc nL rt D cs) (hks : KS adK adV A s s.heap) (h : MH D (SW cs ad al P g) A s H locs)
    (cv : CalV own idx y bc nc rc n) (hM : ACon l D cs ad al adK adV y bc nc rc rm mc ms (.ref b :: av) P g rv P' g') (hn : av.length = n) (hrm : rm.cells = mc ∧ rm.slots = ms) (hR : rm.frames + 1 ≤ R.frames ∧ 8 + (nc + 11) + rm.locals ≤ R.locals)
    (hrecv : ∃ cell : Cell, H[b]? = some cell ∧ cell.vm.isStatics = false ∧ s.vm.findClass y.cls = some cell.cls) (hls : ls.size = nL) (hst : st = av.reverse ++ .ref b :: rest) (hW : (rest.map fun v => v.category).sum ≤ 8) (hf : cells + mc ≤ R.cells ∧ slots + ms ≤ R.slots) (hdg : decode cc pc = .ok (.invokevirtual idx, 3))
    (kk : ∀ (al' : Nat → Nat) (H1 : Heap) (locs1 : List Loc), (∀ i, i < P.1 → al' i = al i) → MH D (SW cs ad al' P' g') A s H1 locs1 → W p l e R s m args below meth c H1 locs1 (cells + mc) (slots + ms) Q (F0 m (pc + 3) ls ((rv al').toList ++ rest))) : W p l e R s m args below meth c H locs cells slots Q (F0 m pc ls st) := by
  refine a_back (a := (Value.ref b :: av).toArray) C h ?_ kk
  obtain ⟨hx, hb, hml, hown, hts, hrt, hlocks, hK, hA⟩ := C
  obtain ⟨hP, hD, hS⟩ := h
  exact va_runV (As := av) ⟨hx, hb, hml, hown, hts⟩ (hM H.size) (cwV n hts (bT_in cv.1) rfl hrm.1 hrm.2 ⟨rfl, cv.2⟩ hR) ⟨m_fbK, hrecv, fun U hU hW => ⟨rfl, by rw [hU], by rw [hU]; exact hP, va_K.moved hW.alike hK, hD.weaken (fun _ _ _ _ => trivial), by rw [hU]; exact hks.step hS (va_A_sub hD hS hA) hW⟩⟩ rfl hn hls hst (lv_room hW) hdg hf
theorem a_callS {y : MethodName} {bc : ByteArray} {nc : Nat} {rc : Option FieldType} {rm : Room} {mc ms idx n : Nat} {st : List Value} (av : List Value) (C : MCx p s m args meth c A own cc nL rt D cs) (hks : KS adK adV A s s.heap) (h : MH D (SW cs ad al P g) A s H locs)
    (cv : CalS own idx y bc nc rc n) (hM : ACon l D cs ad al adK adV y bc nc rc rm mc ms av P g rv P' g') (hn : av.length = n) (hrm : rm.cells = mc ∧ rm.slots = ms) (hR : rm.frames + 1 ≤ R.frames ∧ 8 + (nc + 11) + rm.locals ≤ R.locals)
    (hls : ls.size = nL) (hst : st = av.reverse ++ rest) (hW : (rest.map fun v => v.category).sum ≤ 8) (hf : cells + mc ≤ R.cells ∧ slots + ms ≤ R.slots) (hdg : decode cc pc = .ok (.invokestatic idx, 3))
    (kk : ∀ (al' : Nat → Nat) (H1 : Heap) (locs1 : List Loc), (∀ i, i < P.1 → al' i = al i) → MH D (SW cs ad al' P' g') A s H1 locs1 → W p l e R s m args below meth c H1 locs1 (cells + mc) (slots + ms) Q (F0 m (pc + 3) ls ((rv al').toList ++ rest))) : W p l e R s m args below meth c H locs cells slots Q (F0 m pc ls st) := by
  refine a_back (a := av.toArray) C h ?_ kk
  obtain ⟨hx, hb, hml, hown, hts, hrt, hlocks, hK, hA⟩ := C
  obtain ⟨hP, hD, hS⟩ := h
  exact va_runS (As := av) ⟨hx, hb, hml, hown, hts⟩ (hM H.size) (va_cwS n hts (bT_in cv.1) rfl hrm.1 hrm.2 cv.2 hR) ⟨m_fbK, fun U hU hW => ⟨rfl, by rw [hU], by rw [hU]; exact hP, va_K.moved hW.alike hK, hD.weaken (fun _ _ _ _ => trivial), by rw [hU]; exact hks.step hS (va_A_sub hD hS hA) hW⟩⟩ rfl hn hls hst (lv_room hW) hdg hf
theorem a_aret {q : Nat} {ty : FieldType} {al0 : Nat → Nat} {n : Nat} (C : MCx p s m args meth c A own cc nL (some ty) D cs) (h : MH D (SW cs ad al P g) A s H locs) (hal : ∀ i, i < n → al i = al0 i) (hrv : rv al = some (.ref q)) (hv : (∃ n, ty = .object n) ∨ ∃ t, ty = .array t) (hdg : decode cc pc = .ok (.areturn, 1)) : W p l e R s m args below meth c H locs cells slots (MQ below (APost D cs ad rv al0 n P g A) args s cells slots A) (F0 m pc ls [.ref q]) := by
  obtain ⟨hx, hb, hml, hown, hts, hr, hlocks, hK, hA⟩ := C
  obtain ⟨hP, hD, hS⟩ := h
  exact W.aret hx hb hr hv (Or.inr ⟨q, rfl⟩) (fun t ht hW => ⟨al, hal, by rw [hrv], by rw [ht]; exact hP, hD, hS.F ht⟩) hS.2.2 hdg
theorem a_vret {al0 : Nat → Nat} {n : Nat} (C : MCx p s m args meth c A own cc nL none D cs) (h : MH D (SW cs ad al P g) A s H locs) (hal : ∀ i, i < n → al i = al0 i) (hrv : rv al = none) (hdg : decode cc pc = .ok (.return_, 1)) : W p l e R s m args below meth c H locs cells slots (MQ below (APost D cs ad rv al0 n P g A) args s cells slots A) (F0 m pc ls []) := by
  obtain ⟨hx, hb, hml, hown, hts, hr, hlocks, hK, hA⟩ := C
  obtain ⟨hP, hD, hS⟩ := h
  exact W.vret hx hb hr (fun t ht hW => ⟨al, hal, by rw [hrv], by rw [ht]; exact hP, hD, hS.F ht⟩) hS.2.2 hdg
theorem a_iret {v : Int32} {al0 : Nat → Nat} {n : Nat} (C : MCx p s m args meth c A own cc nL (some .int) D cs) (h : MH D (SW cs ad al P g) A s H locs) (hal : ∀ i, i < n → al i = al0 i) (hrv : rv al = some (.int v)) (hdg : decode cc pc = .ok (.ireturn, 1)) : W p l e R s m args below meth c H locs cells slots (MQ below (APost D cs ad rv al0 n P g A) args s cells slots A) (F0 m pc ls [.int v]) := by
  obtain ⟨hx, hb, hml, hown, hts, hr, hlocks, hK, hA⟩ := C
  obtain ⟨hP, hD, hS⟩ := h
  exact W.iret hx hb hr (fun t ht hW => ⟨al, hal, by rw [hrv], by rw [ht]; exact hP, hD, hS.F ht⟩) hS.2.2 hdg
/-- a new row of ints -/
theorem m_newI {n : Int32} {N : Nat} (C : MCx p s m args meth c A own cc nL rt D cs) (h : MH D Wd A s H locs) (hn : ¬ n < 0) (hN : n.toNatClampNeg = N) (hN2 : N ≤ 100000) (hc : cells + 1 ≤ R.cells) (hs : slots + N ≤ R.slots) (hdg : decode cc pc = .ok (.newarray .int, 2))
    (kk : ∀ (q : Nat) (H1 : Heap), MH D (Wd ++ [(q, .inl (cs 0, N, .inl (fun _ => 0)))]) A s H1 locs → W p l e R s m args below meth c H1 locs (cells + 1) (slots + N) Q (F0 m (pc + 2) ls (.ref q :: rest))) : W p l e R s m args below meth c H locs cells slots Q (F0 m pc ls (.int n :: rest)) := by
  obtain ⟨hx, hb, hml, hown, hts, hr, hlocks, hK, hA⟩ := C
  obtain ⟨hP, hD, hS⟩ := h
  refine va_newa (atype := .int) (ty := .int) (a0 := (N, .inl (fun _ => 0))) hx hb (hts _ tb_3_13) rfl hK hP hD hS hA (fun _ => rfl) hn hN (by show N * 4 ≤ 536870912; omega) hc hs hdg (fun q cA H1 hK1 hP1 hD1 hS1 => ?_)
  have e1 : s.vm.findClass ("[" ++ FieldType.int.toString) = some (cs 0) := (hK.2 0 _ rfl).2
  have e2 : s.vm.findClass ("[" ++ FieldType.int.toString) = some cA := (hK1.2 6 (cA, .int) rfl).2
  obtain rfl : cA = cs 0 := Option.some.inj (e2.symm.trans e1)
  exact kk q H1 ⟨hP1, hD1, hS1⟩
end
def fX3_readLaw_105 (P : PL) {ρ : Type} (k112 : CS → Option (ρ)) (k122 : CS → Option (ρ)) (g : CS) : Option (ρ) :=
  if (g.1 4 2) = 0 then (k112 g) else (k122 g)
def fX3_readLaw_79 (P : PL) {ρ : Type} (k23 : CS → Int32 → Option (ρ)) (k112 : CS → Option (ρ)) (k122 : CS → Option (ρ)) (g : CS) (y2 : Int32) (t0 : Int32) : Option (ρ) :=
  if t0 = 0 then (bndv (fX8_step P g ) (fun g3 => bnd (y2 + (1 : Int32)) (fun x4 => k23 g3 x4))) else (bndv (fX3_refuse P g t0) (fun g1 => bnd (y2 + (1 : Int32)) (fun x2 => k23 g1 x2)))
def fX3_readLaw_23 (P : PL) {ρ : Type} (k112 : CS → Option (ρ)) (k122 : CS → Option (ρ)) : Nat → CS → Int32 → Option (ρ)
  | 0, _, _ => none
  | n + 1, g, y2 => if (900 : Int32) ≤ y2 then (fX3_readLaw_105 P k112 k122 g) else (if (g.1 4 2) = 0 then (bndc (fX3_lawEnds P g ) (fun x5 g6 => if x5 = 0 then (if (g6.1 6 9) = 0 then (bndc (fX2_takeLink P g6 ) (fun x7 g8 => fX3_readLaw_79 P (fX3_readLaw_23 P k112 k122 n) k112 k122 g8 y2 x7)) else (bndc (fX2_takeOperand P g6 ) (fun x9 g10 => fX3_readLaw_79 P (fX3_readLaw_23 P k112 k122 n) k112 k122 g10 y2 x9))) else (fX3_readLaw_105 P k112 k122 g6))) else (fX3_readLaw_105 P k112 k122 g))
def fX3_readLaw_0 (P : PL) {ρ : Type} (k112 : CS → Option (ρ)) (k122 : CS → Option (ρ)) (g : CS) (y1 : Int32) : Option (ρ) :=
  bndv (fX8_step P g ) (fun g11 => bndv (fX3_takeSign P g11 (58 : Int32)) (fun g12 => bndv (fX2_begin P g12 y1) (fun g13 => fX3_readLaw_23 P k112 k122 fuel g13 (0 : Int32))))
def fX3_readLine_0 (P : PL) {ρ : Type} (k31 : CS → Option (ρ)) (k55 : CS → Option (ρ)) (k79 : CS → Option (ρ)) (k96 : CS → Option (ρ)) (g : CS) : Option (ρ) :=
  bndc (fX8_isWord P g 2) (fun x1 g2 => if x1 = 0 then (bndc (fX8_isWord P g2 6) (fun x3 g4 => if x3 = 0 then (bndc (fX8_isWord P g4 16) (fun x5 g6 => if x5 = 0 then (bndc (fX8_isWord P g6 17) (fun x7 g8 => if x7 = 0 then (bndv (fX3_refuse P g8 (2 : Int32)) (fun g9 => k96 g9)) else (k79 g8))) else (k55 g6))) else (k31 g4))) else (bndv (fX3_readMember P g2 ) (fun g10 => k96 g10)))
def fX3_read_0 (P : PL) {ρ : Type} (k63 : CS → Int32 → Option (ρ)) (g : CS) (y1 : Int32) : Option (ρ) :=
  bnd (tI g 4 2 (0 : Int32)) (fun g1 => bnd (tI g1 4 3 (-1 : Int32)) (fun g2 => bnd (tI g2 4 5 (0 : Int32)) (fun g3 => bnd (tI g3 4 6 (0 : Int32)) (fun g4 => bnd (tI g4 4 8 (0 : Int32)) (fun g5 => bnd (tF g5 4 9 (g5.2.2.2 4 12)) (fun g6 => bnd (tF g6 4 10 (g6.2.2.2 4 12)) (fun g7 => bnd (tF g7 4 11 (g7.2.2.2 4 12)) (fun g8 => bndv (fX8_begin P g8 y1) (fun g9 => bndv (fX3_readBoard P g9 ) (fun g10 => k63 g10 (0 : Int32)))))))))))
def fX11_board_35 (P : PL) {ρ : Type} (k71 : CS → Int32 → Option (ρ)) (k90 : CS → Int32 → Option (ρ)) (g : CS) : Option (ρ) :=
  bnd (tI g 0 2 (g.1 4 2)) (fun g1 => bnd (tI g1 0 3 (g1.1 4 3)) (fun g2 => if (g2.1 0 2) = 0 then (bndv (fX6_settleAs P g2 30) (fun g3 => k90 g3 (g3.1 30 2))) else (k71 g2 ((-10 : Int32) - (g2.1 0 2)))))
section
variable {p : Program} {l : Launch} {e : Env} {s : State} {m : MethodId} {args : Array Value} {below : List Frame} {meth : Method} {c : Code} {D : va_G} {cs : Nat → ClassId} {ad al adK adV : Nat → Nat} {P : PL} {A : Nat → Prop} {mc ms : Nat} {Q : State → Prop}
set_option maxHeartbeats 4000000 in
set_option maxRecDepth 100000 in
theorem wX3_readLaw_105 (C : MCx p s m args meth c A RX3 cX3_readLaw 4 (some (.array .int)) D cs) (hks : KS adK adV A s s.heap)  {ρ : Type} {res : ρ}  {k112 : CS → Option (ρ)} (hk112 : ∀ (g : CS), k112 g = some res → ∀ (H : Heap) (locs : List Loc) (ls : Array Slot), MH D (SW cs ad al P g) A s H locs → lv_has ls 4 [(0, .ref (ad 4))] → W p l e (rA 7 mc ms) s m args below meth c H locs 0 0 Q (F0 m 112 ls [])) {k122 : CS → Option (ρ)} (hk122 : ∀ (g : CS), k122 g = some res → ∀ (H : Heap) (locs : List Loc) (ls : Array Slot), MH D (SW cs ad al P g) A s H locs → lv_has ls 4 [(0, .ref (ad 4))] → W p l e (rA 7 mc ms) s m args below meth c H locs 0 0 Q (F0 m 122 ls [])) : ∀ (g : CS), fX3_readLaw_105 P k112 k122 g = some res → ∀ (H : Heap) (locs : List Loc) (ls : Array Slot), MH D (SW cs ad al P g) A s H locs → lv_has ls 4 [(0, .ref (ad 4))] → W p l e (rA 7 mc ms) s m args below meth c H locs 0 0 Q (F0 m 105 ls []) := by
  have hx := C.1
  have hb := C.2.1
  intro g hf H locs ls h hl
  unfold fX3_readLaw_105 at hf
  refine lv_aload_n hx hb dX3_readLaw_105 rfl (lv_at hl 0 rfl) ?_
  refine xg_X3 2 C h (by decide) tb_9_14 rfl rfl dX3_readLaw_106 ?_
  refine lv_if_ne (tgt := 122) hx hb dX3_readLaw_109 (by decide) (fun hq => ?_) (fun hq => ?_)
  · replace hf := if_tn hq hf
    clear hq
    exact hk122 g hf H locs ls h (lv_sub hl [0] rfl)
  · replace hf := if_t hq hf
    clear hq
    exact hk112 g hf H locs ls h (lv_sub hl [0] rfl)

set_option maxHeartbeats 4000000 in
set_option maxRecDepth 100000 in
theorem wX3_readLaw_79 (C : MCx p s m args meth c A RX3 cX3_readLaw 4 (some (.array .int)) D cs) (hks : KS adK adV A s s.heap)  {ρ : Type} {res : ρ}  {k23 : CS → Int32 → Option (ρ)} (hk23 : ∀ (g : CS) (y2 : Int32), k23 g y2 = some res → ∀ (H : Heap) (locs : List Loc) (ls : Array Slot), MH D (SW cs ad al P g) A s H locs → lv_has ls 4 [(0, .ref (ad 4)), (2, .int y2)] → W p l e (rA 7 mc ms) s m args below meth c H locs 0 0 Q (F0 m 23 ls [])) {k112 : CS → Option (ρ)} (hk112 : ∀ (g : CS), k112 g = some res → ∀ (H : Heap) (locs : List Loc) (ls : Array Slot), MH D (SW cs ad al P g) A s H locs → lv_has ls 4 [(0, .ref (ad 4))] → W p l e (rA 7 mc ms) s m args below meth c H locs 0 0 Q (F0 m 112 ls [])) {k122 : CS → Option (ρ)} (hk122 : ∀ (g : CS), k122 g = some res → ∀ (H : Heap) (locs : List Loc) (ls : Array Slot), MH D (SW cs ad al P g) A s H locs → lv_has ls 4 [(0, .ref (ad 4))] → W p l e (rA 7 mc ms) s m args below meth c H locs 0 0 Q (F0 m 122 ls [])) : ∀ (g : CS) (y2 : Int32) (t0 : Int32), fX3_readLaw_79 P k23 k112 k122 g y2 t0 = some res → ∀ (H : Heap) (locs : List Loc) (ls : Array Slot), MH D (SW cs ad al P g) A s H locs → lv_has ls 4 [(0, .ref (ad 4)), (2, .int y2)] → W p l e (rA 7 mc ms) s m args below meth c H locs 0 0 Q (F0 m 79 ls [.int t0]) := by
  have hx := C.1
  have hb := C.2.1
  intro g y2 t0 hf H locs ls h hl
  unfold fX3_readLaw_79 at hf
  refine lv_istore_n (lv' := [(3, .int t0), (0, .ref (ad 4)), (2, .int y2)]) hx hb dX3_readLaw_79 rfl hl (by decide) rfl (fun ls hl => ?_)
  refine lv_iload_n hx hb dX3_readLaw_80 rfl (lv_at hl 0 rfl) ?_
  refine lv_if_ne (tgt := 94) hx hb dX3_readLaw_81 (by decide) (fun hq => ?_) (fun hq => ?_)
  · replace hf := if_tn hq hf
    clear hq
    refine lv_aload_n hx hb dX3_readLaw_94 rfl (lv_at hl 1 rfl) ?_
    refine lv_iload_n hx hb dX3_readLaw_95 rfl (lv_at hl 0 rfl) ?_
    replace hf := bndv_some hf
    obtain ⟨g1, hc, hf⟩ := hf
    refine m_callVv [.int t0] C h cv_X3_75 (qX3_refuse hc) rfl ⟨rfl, rfl⟩ ⟨Nat.le_of_ble_eq_true rfl, Nat.le_of_ble_eq_true rfl⟩ (rv_X3 C h) hl.1 rfl (Nat.le_of_ble_eq_true rfl) ⟨Nat.zero_le _, Nat.zero_le _⟩ dX3_readLaw_96 (fun H locs h => ?_)
    clear hc
    obtain ⟨x2, ex2⟩ : ∃ z : Int32, z = y2 + (1 : Int32) := ⟨_, rfl⟩
    replace hf := bnd_at ex2 hf
    refine lv_iinc (v := x2) (lv' := [(2, .int x2), (3, .int t0), (0, .ref (ad 4))]) hx hb dX3_readLaw_99 hl (k := 2) rfl (by rw [ex2]; rfl) (by decide) rfl (fun ls hl => ?_)
    clear ex2
    refine lv_goto (tgt := 23) hx hb dX3_readLaw_102 (by decide) ?_
    exact hk23 g1 x2 hf H locs ls h (lv_sub hl [2, 0] rfl)
  · replace hf := if_t hq hf
    clear hq
    refine lv_aload_n hx hb dX3_readLaw_84 rfl (lv_at hl 1 rfl) ?_
    refine xg_X3 0 C h (by decide) tb_3_8 rfl rfl dX3_readLaw_85 ?_
    replace hf := bndv_some hf
    obtain ⟨g3, hc, hf⟩ := hf
    refine m_callVv [] C h cv_X3_78 (qX8_step hc) rfl ⟨rfl, rfl⟩ ⟨Nat.le_of_ble_eq_true rfl, Nat.le_of_ble_eq_true rfl⟩ (rv_X8 C h) hl.1 rfl (Nat.le_of_ble_eq_true rfl) ⟨Nat.zero_le _, Nat.zero_le _⟩ dX3_readLaw_88 (fun H locs h => ?_)
    clear hc
    refine lv_goto (tgt := 99) hx hb dX3_readLaw_91 (by decide) ?_
    obtain ⟨x4, ex4⟩ : ∃ z : Int32, z = y2 + (1 : Int32) := ⟨_, rfl⟩
    replace hf := bnd_at ex4 hf
    refine lv_iinc (v := x4) (lv' := [(2, .int x4), (3, .int t0), (0, .ref (ad 4))]) hx hb dX3_readLaw_99 hl (k := 2) rfl (by rw [ex4]; rfl) (by decide) rfl (fun ls hl => ?_)
    clear ex4
    refine lv_goto (tgt := 23) hx hb dX3_readLaw_102 (by decide) ?_
    exact hk23 g3 x4 hf H locs ls h (lv_sub hl [2, 0] rfl)

set_option maxHeartbeats 4000000 in
set_option maxRecDepth 100000 in
theorem wX3_readLaw_23 (C : MCx p s m args meth c A RX3 cX3_readLaw 4 (some (.array .int)) D cs) (hks : KS adK adV A s s.heap)  {ρ : Type} {res : ρ}  {k112 : CS → Option (ρ)} (hk112 : ∀ (g : CS), k112 g = some res → ∀ (H : Heap) (locs : List Loc) (ls : Array Slot), MH D (SW cs ad al P g) A s H locs → lv_has ls 4 [(0, .ref (ad 4))] → W p l e (rA 7 mc ms) s m args below meth c H locs 0 0 Q (F0 m 112 ls [])) {k122 : CS → Option (ρ)} (hk122 : ∀ (g : CS), k122 g = some res → ∀ (H : Heap) (locs : List Loc) (ls : Array Slot), MH D (SW cs ad al P g) A s H locs → lv_has ls 4 [(0, .ref (ad 4))] → W p l e (rA 7 mc ms) s m args below meth c H locs 0 0 Q (F0 m 122 ls [])) : ∀ (n : Nat) (g : CS) (y2 : Int32), fX3_readLaw_23 P k112 k122 n g y2 = some res → ∀ (H : Heap) (locs : List Loc) (ls : Array Slot), MH D (SW cs ad al P g) A s H locs → lv_has ls 4 [(0, .ref (ad 4)), (2, .int y2)] → W p l e (rA 7 mc ms) s m args below meth c H locs 0 0 Q (F0 m 23 ls []) := by
  have hx := C.1
  have hb := C.2.1
  intro n
  induction n with
  | zero =>
    intro g y2 hf
    exact absurd hf (by simp [fX3_readLaw_23])
  | succ n ih =>
    intro g y2 hf H locs ls h hl
    rw [fX3_readLaw_23] at hf
    refine lv_iload_n hx hb dX3_readLaw_23 rfl (lv_at hl 1 rfl) ?_
    refine lv_sipush (v := (900 : Int32)) hx hb dX3_readLaw_24 (by decide) ?_
    refine lv_icmp_ge (tgt := 105) hx hb dX3_readLaw_27 (by decide) (fun hq => ?_) (fun hq => ?_)
    · replace hf := if_t hq hf
      clear hq
      exact wX3_readLaw_105 (P := P) C hks hk112 hk122 g hf H locs ls h (lv_sub hl [0] rfl)
    · replace hf := if_f hq hf
      clear hq
      refine lv_aload_n hx hb dX3_readLaw_30 rfl (lv_at hl 0 rfl) ?_
      refine xg_X3 2 C h (by decide) tb_9_14 rfl rfl dX3_readLaw_31 ?_
      refine lv_if_ne (tgt := 105) hx hb dX3_readLaw_34 (by decide) (fun hq => ?_) (fun hq => ?_)
      · replace hf := if_tn hq hf
        clear hq
        exact wX3_readLaw_105 (P := P) C hks hk112 hk122 g hf H locs ls h (lv_sub hl [0] rfl)
      · replace hf := if_t hq hf
        clear hq
        refine lv_aload_n hx hb dX3_readLaw_37 rfl (lv_at hl 0 rfl) ?_
        replace hf := bndc_some hf
        obtain ⟨x5, g6, hc, hf⟩ := hf
        refine m_callVi [] C h cv_X3_129 (qX3_lawEnds hc) rfl ⟨rfl, rfl⟩ ⟨Nat.le_of_ble_eq_true rfl, Nat.le_of_ble_eq_true rfl⟩ (rv_X3 C h) hl.1 rfl (Nat.le_of_ble_eq_true rfl) ⟨Nat.zero_le _, Nat.zero_le _⟩ dX3_readLaw_38 (fun H locs h => ?_)
        clear hc
        refine lv_if_ne (tgt := 105) hx hb dX3_readLaw_41 (by decide) (fun hq => ?_) (fun hq => ?_)
        · replace hf := if_tn hq hf
          clear hq
          exact wX3_readLaw_105 (P := P) C hks hk112 hk122 g6 hf H locs ls h (lv_sub hl [0] rfl)
        · replace hf := if_t hq hf
          clear hq
          refine lv_aload_n hx hb dX3_readLaw_44 rfl (lv_at hl 0 rfl) ?_
          refine xg_X3 1 C h (by decide) tb_3_12 rfl rfl dX3_readLaw_45 ?_
          refine xg_X2 9 C h (by decide) tb_15_11 rfl rfl dX3_readLaw_48 ?_
          refine lv_if_eq (tgt := 68) hx hb dX3_readLaw_51 (by decide) (fun hq => ?_) (fun hq => ?_)
          · replace hf := if_t hq hf
            clear hq
            refine lv_aload_n hx hb dX3_readLaw_68 rfl (lv_at hl 0 rfl) ?_
            refine xg_X3 1 C h (by decide) tb_3_12 rfl rfl dX3_readLaw_69 ?_
            refine lv_aload_n hx hb dX3_readLaw_72 rfl (lv_at hl 0 rfl) ?_
            refine xg_X3 0 C h (by decide) tb_3_8 rfl rfl dX3_readLaw_73 ?_
            replace hf := bndc_some hf
            obtain ⟨x7, g8, hc, hf⟩ := hf
            refine m_callVKi [.ref (ad 5)] C hks h cv_X3_141 (qX2_takeLink hc) rfl ⟨rfl, rfl⟩ ⟨Nat.le_of_ble_eq_true rfl, Nat.le_of_ble_eq_true rfl⟩ (rv_X2 C h) hl.1 rfl (Nat.le_of_ble_eq_true rfl) ⟨Nat.zero_le _, Nat.zero_le _⟩ dX3_readLaw_76 (fun H locs h => ?_)
            clear hc
            exact wX3_readLaw_79 (P := P) C hks ih hk112 hk122 g8 y2 x7 hf H locs ls h (lv_sub hl [0, 1] rfl)
          · replace hf := if_f hq hf
            clear hq
            refine lv_aload_n hx hb dX3_readLaw_54 rfl (lv_at hl 0 rfl) ?_
            refine xg_X3 1 C h (by decide) tb_3_12 rfl rfl dX3_readLaw_55 ?_
            refine lv_aload_n hx hb dX3_readLaw_58 rfl (lv_at hl 0 rfl) ?_
            refine xg_X3 0 C h (by decide) tb_3_8 rfl rfl dX3_readLaw_59 ?_
            replace hf := bndc_some hf
            obtain ⟨x9, g10, hc, hf⟩ := hf
            refine m_callVKi [.ref (ad 5)] C hks h cv_X3_137 (qX2_takeOperand hc) rfl ⟨rfl, rfl⟩ ⟨Nat.le_of_ble_eq_true rfl, Nat.le_of_ble_eq_true rfl⟩ (rv_X2 C h) hl.1 rfl (Nat.le_of_ble_eq_true rfl) ⟨Nat.zero_le _, Nat.zero_le _⟩ dX3_readLaw_62 (fun H locs h => ?_)
            clear hc
            refine lv_goto (tgt := 79) hx hb dX3_readLaw_65 (by decide) ?_
            exact wX3_readLaw_79 (P := P) C hks ih hk112 hk122 g10 y2 x9 hf H locs ls h (lv_sub hl [0, 1] rfl)

set_option maxHeartbeats 4000000 in
set_option maxRecDepth 100000 in
theorem wX3_readLaw_0 (C : MCx p s m args meth c A RX3 cX3_readLaw 4 (some (.array .int)) D cs) (hks : KS adK adV A s s.heap)  {ρ : Type} {res : ρ}  {k112 : CS → Option (ρ)} (hk112 : ∀ (g : CS), k112 g = some res → ∀ (H : Heap) (locs : List Loc) (ls : Array Slot), MH D (SW cs ad al P g) A s H locs → lv_has ls 4 [(0, .ref (ad 4))] → W p l e (rA 7 mc ms) s m args below meth c H locs 0 0 Q (F0 m 112 ls [])) {k122 : CS → Option (ρ)} (hk122 : ∀ (g : CS), k122 g = some res → ∀ (H : Heap) (locs : List Loc) (ls : Array Slot), MH D (SW cs ad al P g) A s H locs → lv_has ls 4 [(0, .ref (ad 4))] → W p l e (rA 7 mc ms) s m args below meth c H locs 0 0 Q (F0 m 122 ls [])) : ∀ (g : CS) (y1 : Int32), fX3_readLaw_0 P k112 k122 g y1 = some res → ∀ (H : Heap) (locs : List Loc) (ls : Array Slot), MH D (SW cs ad al P g) A s H locs → lv_has ls 4 [(0, .ref (ad 4)), (1, .int y1)] → W p l e (rA 7 mc ms) s m args below meth c H locs 0 0 Q (F0 m 0 ls []) := by
  have hx := C.1
  have hb := C.2.1
  intro g y1 hf H locs ls h hl
  unfold fX3_readLaw_0 at hf
  refine lv_aload_n hx hb dX3_readLaw_0 rfl (lv_at hl 0 rfl) ?_
  refine xg_X3 0 C h (by decide) tb_3_8 rfl rfl dX3_readLaw_1 ?_
  replace hf := bndv_some hf
  obtain ⟨g11, hc, hf⟩ := hf
  refine m_callVv [] C h cv_X3_78 (qX8_step hc) rfl ⟨rfl, rfl⟩ ⟨Nat.le_of_ble_eq_true rfl, Nat.le_of_ble_eq_true rfl⟩ (rv_X8 C h) hl.1 rfl (Nat.le_of_ble_eq_true rfl) ⟨Nat.zero_le _, Nat.zero_le _⟩ dX3_readLaw_4 (fun H locs h => ?_)
  clear hc
  refine lv_aload_n hx hb dX3_readLaw_7 rfl (lv_at hl 0 rfl) ?_
  refine lv_bipush (v := (58 : Int32)) hx hb dX3_readLaw_8 (by decide) ?_
  replace hf := bndv_some hf
  obtain ⟨g12, hc, hf⟩ := hf
  refine m_callVv [.int (58 : Int32)] C h cv_X3_124 (qX3_takeSign hc) rfl ⟨rfl, rfl⟩ ⟨Nat.le_of_ble_eq_true rfl, Nat.le_of_ble_eq_true rfl⟩ (rv_X3 C h) hl.1 rfl (Nat.le_of_ble_eq_true rfl) ⟨Nat.zero_le _, Nat.zero_le _⟩ dX3_readLaw_10 (fun H locs h => ?_)
  clear hc
  refine lv_aload_n hx hb dX3_readLaw_13 rfl (lv_at hl 0 rfl) ?_
  refine xg_X3 1 C h (by decide) tb_3_12 rfl rfl dX3_readLaw_14 ?_
  refine lv_iload_n hx hb dX3_readLaw_17 rfl (lv_at hl 1 rfl) ?_
  replace hf := bndv_some hf
  obtain ⟨g13, hc, hf⟩ := hf
  refine m_callVv [.int y1] C h cv_X3_128 (qX2_begin hc) rfl ⟨rfl, rfl⟩ ⟨Nat.le_of_ble_eq_true rfl, Nat.le_of_ble_eq_true rfl⟩ (rv_X2 C h) hl.1 rfl (Nat.le_of_ble_eq_true rfl) ⟨Nat.zero_le _, Nat.zero_le _⟩ dX3_readLaw_18 (fun H locs h => ?_)
  clear hc
  refine lv_iconst (v := (0 : Int32)) hx hb dX3_readLaw_21 (by decide) ?_
  refine lv_istore_n (lv' := [(2, .int (0 : Int32)), (0, .ref (ad 4)), (1, .int y1)]) hx hb dX3_readLaw_22 rfl hl (by decide) rfl (fun ls hl => ?_)
  exact wX3_readLaw_23 (P := P) C hks hk112 hk122 fuel g13 (0 : Int32) hf H locs ls h (lv_sub hl [1, 0] rfl)

set_option maxHeartbeats 4000000 in
set_option maxRecDepth 100000 in
theorem wX3_readLine_0 (C : MCx p s m args meth c A RX3 cX3_readLine 1 none D cs) (hks : KS adK adV A s s.heap)  {ρ : Type} {res : ρ}  {k31 : CS → Option (ρ)} (hk31 : ∀ (g : CS), k31 g = some res → ∀ (H : Heap) (locs : List Loc) (ls : Array Slot), MH D (SW cs ad al P g) A s H locs → lv_has ls 1 [(0, .ref (ad 4))] → W p l e (rA 8 mc ms) s m args below meth c H locs 0 0 Q (F0 m 31 ls [])) {k55 : CS → Option (ρ)} (hk55 : ∀ (g : CS), k55 g = some res → ∀ (H : Heap) (locs : List Loc) (ls : Array Slot), MH D (SW cs ad al P g) A s H locs → lv_has ls 1 [(0, .ref (ad 4))] → W p l e (rA 8 mc ms) s m args below meth c H locs 0 0 Q (F0 m 55 ls [])) {k79 : CS → Option (ρ)} (hk79 : ∀ (g : CS), k79 g = some res → ∀ (H : Heap) (locs : List Loc) (ls : Array Slot), MH D (SW cs ad al P g) A s H locs → lv_has ls 1 [(0, .ref (ad 4))] → W p l e (rA 8 mc ms) s m args below meth c H locs 0 0 Q (F0 m 79 ls [])) {k96 : CS → Option (ρ)} (hk96 : ∀ (g : CS), k96 g = some res → ∀ (H : Heap) (locs : List Loc) (ls : Array Slot), MH D (SW cs ad al P g) A s H locs → lv_has ls 1 [(0, .ref (ad 4))] → W p l e (rA 8 mc ms) s m args below meth c H locs 0 0 Q (F0 m 96 ls [])) : ∀ (g : CS), fX3_readLine_0 P k31 k55 k79 k96 g = some res → ∀ (H : Heap) (locs : List Loc) (ls : Array Slot), MH D (SW cs ad al P g) A s H locs → lv_has ls 1 [(0, .ref (ad 4))] → W p l e (rA 8 mc ms) s m args below meth c H locs 0 0 Q (F0 m 0 ls []) := by
  have hx := C.1
  have hb := C.2.1
  intro g hf H locs ls h hl
  unfold fX3_readLine_0 at hf
  refine lv_aload_n hx hb dX3_readLine_0 rfl (lv_at hl 0 rfl) ?_
  refine xg_X3 0 C h (by decide) tb_3_8 rfl rfl dX3_readLine_1 ?_
  refine va_ldcS (own := RX3) (index := 100) (tx := "member") (q := adK 2) hx hb C.2.2.2.1 (hks.2.1 2 (by decide)) dX3_readLine_4 ?_
  replace hf := bndc_some hf
  obtain ⟨x1, g2, hc, hf⟩ := hf
  refine m_callVKi [.ref (adK 2)] C hks h cv_X3_71 (qX8_isWord (by decide) hc) rfl ⟨rfl, rfl⟩ ⟨Nat.le_of_ble_eq_true rfl, Nat.le_of_ble_eq_true rfl⟩ (rv_X8 C h) hl.1 rfl (Nat.le_of_ble_eq_true rfl) ⟨Nat.zero_le _, Nat.zero_le _⟩ dX3_readLine_6 (fun H locs h => ?_)
  clear hc
  refine lv_if_eq (tgt := 19) hx hb dX3_readLine_9 (by decide) (fun hq => ?_) (fun hq => ?_)
  · replace hf := if_t hq hf
    clear hq
    refine lv_aload_n hx hb dX3_readLine_19 rfl (lv_at hl 0 rfl) ?_
    refine xg_X3 0 C h (by decide) tb_3_8 rfl rfl dX3_readLine_20 ?_
    refine va_ldcS (own := RX3) (index := 105) (tx := "drags") (q := adK 6) hx hb C.2.2.2.1 (hks.2.1 6 (by decide)) dX3_readLine_23 ?_
    replace hf := bndc_some hf
    obtain ⟨x3, g4, hc, hf⟩ := hf
    refine m_callVKi [.ref (adK 6)] C hks h cv_X3_71 (qX8_isWord (by decide) hc) rfl ⟨rfl, rfl⟩ ⟨Nat.le_of_ble_eq_true rfl, Nat.le_of_ble_eq_true rfl⟩ (rv_X8 C h) hl.1 rfl (Nat.le_of_ble_eq_true rfl) ⟨Nat.zero_le _, Nat.zero_le _⟩ dX3_readLine_25 (fun H locs h => ?_)
    clear hc
    refine lv_if_eq (tgt := 43) hx hb dX3_readLine_28 (by decide) (fun hq => ?_) (fun hq => ?_)
    · replace hf := if_t hq hf
      clear hq
      refine lv_aload_n hx hb dX3_readLine_43 rfl (lv_at hl 0 rfl) ?_
      refine xg_X3 0 C h (by decide) tb_3_8 rfl rfl dX3_readLine_44 ?_
      refine va_ldcS (own := RX3) (index := 110) (tx := "costs") (q := adK 16) hx hb C.2.2.2.1 (hks.2.1 16 (by decide)) dX3_readLine_47 ?_
      replace hf := bndc_some hf
      obtain ⟨x5, g6, hc, hf⟩ := hf
      refine m_callVKi [.ref (adK 16)] C hks h cv_X3_71 (qX8_isWord (by decide) hc) rfl ⟨rfl, rfl⟩ ⟨Nat.le_of_ble_eq_true rfl, Nat.le_of_ble_eq_true rfl⟩ (rv_X8 C h) hl.1 rfl (Nat.le_of_ble_eq_true rfl) ⟨Nat.zero_le _, Nat.zero_le _⟩ dX3_readLine_49 (fun H locs h => ?_)
      clear hc
      refine lv_if_eq (tgt := 67) hx hb dX3_readLine_52 (by decide) (fun hq => ?_) (fun hq => ?_)
      · replace hf := if_t hq hf
        clear hq
        refine lv_aload_n hx hb dX3_readLine_67 rfl (lv_at hl 0 rfl) ?_
        refine xg_X3 0 C h (by decide) tb_3_8 rfl rfl dX3_readLine_68 ?_
        refine va_ldcS (own := RX3) (index := 111) (tx := "goes") (q := adK 17) hx hb C.2.2.2.1 (hks.2.1 17 (by decide)) dX3_readLine_71 ?_
        replace hf := bndc_some hf
        obtain ⟨x7, g8, hc, hf⟩ := hf
        refine m_callVKi [.ref (adK 17)] C hks h cv_X3_71 (qX8_isWord (by decide) hc) rfl ⟨rfl, rfl⟩ ⟨Nat.le_of_ble_eq_true rfl, Nat.le_of_ble_eq_true rfl⟩ (rv_X8 C h) hl.1 rfl (Nat.le_of_ble_eq_true rfl) ⟨Nat.zero_le _, Nat.zero_le _⟩ dX3_readLine_73 (fun H locs h => ?_)
        clear hc
        refine lv_if_eq (tgt := 91) hx hb dX3_readLine_76 (by decide) (fun hq => ?_) (fun hq => ?_)
        · replace hf := if_t hq hf
          clear hq
          refine lv_aload_n hx hb dX3_readLine_91 rfl (lv_at hl 0 rfl) ?_
          refine lv_iconst (v := (2 : Int32)) hx hb dX3_readLine_92 (by decide) ?_
          replace hf := bndv_some hf
          obtain ⟨g9, hc, hf⟩ := hf
          refine m_callVv [.int (2 : Int32)] C h cv_X3_75 (qX3_refuse hc) rfl ⟨rfl, rfl⟩ ⟨Nat.le_of_ble_eq_true rfl, Nat.le_of_ble_eq_true rfl⟩ (rv_X3 C h) hl.1 rfl (Nat.le_of_ble_eq_true rfl) ⟨Nat.zero_le _, Nat.zero_le _⟩ dX3_readLine_93 (fun H locs h => ?_)
          clear hc
          exact hk96 g9 hf H locs ls h (lv_sub hl [0] rfl)
        · replace hf := if_f hq hf
          clear hq
          exact hk79 g8 hf H locs ls h (lv_sub hl [0] rfl)
      · replace hf := if_f hq hf
        clear hq
        exact hk55 g6 hf H locs ls h (lv_sub hl [0] rfl)
    · replace hf := if_f hq hf
      clear hq
      exact hk31 g4 hf H locs ls h (lv_sub hl [0] rfl)
  · replace hf := if_f hq hf
    clear hq
    refine lv_aload_n hx hb dX3_readLine_12 rfl (lv_at hl 0 rfl) ?_
    replace hf := bndv_some hf
    obtain ⟨g10, hc, hf⟩ := hf
    refine m_callVKv [] C hks h cv_X3_102 (qX3_readMember hc) rfl ⟨rfl, rfl⟩ ⟨Nat.le_of_ble_eq_true rfl, Nat.le_of_ble_eq_true rfl⟩ (rv_X3 C h) hl.1 rfl (Nat.le_of_ble_eq_true rfl) ⟨Nat.zero_le _, Nat.zero_le _⟩ dX3_readLine_13 (fun H locs h => ?_)
    clear hc
    refine lv_goto (tgt := 96) hx hb dX3_readLine_16 (by decide) ?_
    exact hk96 g10 hf H locs ls h (lv_sub hl [0] rfl)

set_option maxHeartbeats 4000000 in
set_option maxRecDepth 100000 in
theorem wX3_read_0 (C : MCx p s m args meth c A RX3 cX3_read 3 none D cs) (hks : KS adK adV A s s.heap)  {ρ : Type} {res : ρ}  {k63 : CS → Int32 → Option (ρ)} (hk63 : ∀ (g : CS) (y2 : Int32), k63 g y2 = some res → ∀ (H : Heap) (locs : List Loc) (ls : Array Slot), MH D (SW cs ad al P g) A s H locs → lv_has ls 3 [(0, .ref (ad 4)), (2, .int y2)] → W p l e (rA 9 mc ms) s m args below meth c H locs 0 0 Q (F0 m 63 ls [])) : ∀ (g : CS) (y1 : Int32), fX3_read_0 P k63 g y1 = some res → ∀ (H : Heap) (locs : List Loc) (ls : Array Slot), MH D (SW cs ad al P g) A s H locs → lv_has ls 3 [(0, .ref (ad 4)), (1, .int y1)] → W p l e (rA 9 mc ms) s m args below meth c H locs 0 0 Q (F0 m 0 ls []) := by
  have hx := C.1
  have hb := C.2.1
  intro g y1 hf H locs ls h hl
  unfold fX3_read_0 at hf
  refine lv_aload_n hx hb dX3_read_0 rfl (lv_at hl 0 rfl) ?_
  refine lv_iconst (v := (0 : Int32)) hx hb dX3_read_1 (by decide) ?_
  replace hf := bnd_ex hf
  obtain ⟨g1, eg1, hf⟩ := hf
  refine xp_X3_2 C h tb_9_14 dX3_read_2 (fun H locs h => ?_)
  rw [← eg1] at h
  clear eg1
  refine lv_aload_n hx hb dX3_read_5 rfl (lv_at hl 0 rfl) ?_
  refine lv_iconst (v := (-1 : Int32)) hx hb dX3_read_6 (by decide) ?_
  replace hf := bnd_ex hf
  obtain ⟨g2, eg2, hf⟩ := hf
  refine xp_X3_3 C h tb_9_15 dX3_read_7 (fun H locs h => ?_)
  rw [← eg2] at h
  clear eg2
  refine lv_aload_n hx hb dX3_read_10 rfl (lv_at hl 0 rfl) ?_
  refine lv_iconst (v := (0 : Int32)) hx hb dX3_read_11 (by decide) ?_
  replace hf := bnd_ex hf
  obtain ⟨g3, eg3, hf⟩ := hf
  refine xp_X3_5 C h tb_9_16 dX3_read_12 (fun H locs h => ?_)
  rw [← eg3] at h
  clear eg3
  refine lv_aload_n hx hb dX3_read_15 rfl (lv_at hl 0 rfl) ?_
  refine lv_iconst (v := (0 : Int32)) hx hb dX3_read_16 (by decide) ?_
  replace hf := bnd_ex hf
  obtain ⟨g4, eg4, hf⟩ := hf
  refine xp_X3_6 C h tb_9_17 dX3_read_17 (fun H locs h => ?_)
  rw [← eg4] at h
  clear eg4
  refine lv_aload_n hx hb dX3_read_20 rfl (lv_at hl 0 rfl) ?_
  refine lv_iconst (v := (0 : Int32)) hx hb dX3_read_21 (by decide) ?_
  replace hf := bnd_ex hf
  obtain ⟨g5, eg5, hf⟩ := hf
  refine xp_X3_8 C h tb_9_18 dX3_read_22 (fun H locs h => ?_)
  rw [← eg5] at h
  clear eg5
  refine lv_aload_n hx hb dX3_read_25 rfl (lv_at hl 0 rfl) ?_
  refine lv_aload_n hx hb dX3_read_26 rfl (lv_at hl 0 rfl) ?_
  refine xg_X3 12 C h (by decide) tb_3_14 rfl rfl dX3_read_27 ?_
  replace hf := bnd_ex hf
  obtain ⟨g6, eg6, hf⟩ := hf
  refine xp_X3_9 C h tb_3_15 dX3_read_30 (fun H locs h => ?_)
  rw [← eg6] at h
  clear eg6
  refine lv_aload_n hx hb dX3_read_33 rfl (lv_at hl 0 rfl) ?_
  refine lv_aload_n hx hb dX3_read_34 rfl (lv_at hl 0 rfl) ?_
  refine xg_X3 12 C h (by decide) tb_3_14 rfl rfl dX3_read_35 ?_
  replace hf := bnd_ex hf
  obtain ⟨g7, eg7, hf⟩ := hf
  refine xp_X3_10 C h tb_3_16 dX3_read_38 (fun H locs h => ?_)
  rw [← eg7] at h
  clear eg7
  refine lv_aload_n hx hb dX3_read_41 rfl (lv_at hl 0 rfl) ?_
  refine lv_aload_n hx hb dX3_read_42 rfl (lv_at hl 0 rfl) ?_
  refine xg_X3 12 C h (by decide) tb_3_14 rfl rfl dX3_read_43 ?_
  replace hf := bnd_ex hf
  obtain ⟨g8, eg8, hf⟩ := hf
  refine xp_X3_11 C h tb_3_17 dX3_read_46 (fun H locs h => ?_)
  rw [← eg8] at h
  clear eg8
  refine lv_aload_n hx hb dX3_read_49 rfl (lv_at hl 0 rfl) ?_
  refine xg_X3 0 C h (by decide) tb_3_8 rfl rfl dX3_read_50 ?_
  refine lv_iload_n hx hb dX3_read_53 rfl (lv_at hl 1 rfl) ?_
  replace hf := bndv_some hf
  obtain ⟨g9, hc, hf⟩ := hf
  refine m_callVv [.int y1] C h cv_X3_56 (qX8_begin hc) rfl ⟨rfl, rfl⟩ ⟨Nat.le_of_ble_eq_true rfl, Nat.le_of_ble_eq_true rfl⟩ (rv_X8 C h) hl.1 rfl (Nat.le_of_ble_eq_true rfl) ⟨Nat.zero_le _, Nat.zero_le _⟩ dX3_read_54 (fun H locs h => ?_)
  clear hc
  refine lv_aload_n hx hb dX3_read_57 rfl (lv_at hl 0 rfl) ?_
  replace hf := bndv_some hf
  obtain ⟨g10, hc, hf⟩ := hf
  refine m_callVKv [] C hks h cv_X3_60 (qX3_readBoard hc) rfl ⟨rfl, rfl⟩ ⟨Nat.le_of_ble_eq_true rfl, Nat.le_of_ble_eq_true rfl⟩ (rv_X3 C h) hl.1 rfl (Nat.le_of_ble_eq_true rfl) ⟨Nat.zero_le _, Nat.zero_le _⟩ dX3_read_58 (fun H locs h => ?_)
  clear hc
  refine lv_iconst (v := (0 : Int32)) hx hb dX3_read_61 (by decide) ?_
  refine lv_istore_n (lv' := [(2, .int (0 : Int32)), (0, .ref (ad 4)), (1, .int y1)]) hx hb dX3_read_62 rfl hl (by decide) rfl (fun ls hl => ?_)
  exact hk63 g10 (0 : Int32) hf H locs ls h (lv_sub hl [1, 0] rfl)

set_option maxHeartbeats 4000000 in
set_option maxRecDepth 100000 in
theorem wX11_board_35 (C : MCx p s m args meth c A RX11 cX11_board 2 (some .int) D cs) (hks : KS adK adV A s s.heap)  {ρ : Type} {res : ρ}  {k71 : CS → Int32 → Option (ρ)} (hk71 : ∀ (g : CS) (t0 : Int32), k71 g t0 = some res → ∀ (H : Heap) (locs : List Loc) (ls : Array Slot), MH D (SW cs ad al P g) A s H locs → lv_has ls 2 [] → W p l e (rA 10 mc ms) s m args below meth c H locs mc ms Q (F0 m 71 ls [.int t0])) {k90 : CS → Int32 → Option (ρ)} (hk90 : ∀ (g : CS) (t0 : Int32), k90 g t0 = some res → ∀ (H : Heap) (locs : List Loc) (ls : Array Slot), MH D (SW cs ad al P g) A s H locs → lv_has ls 2 [] → W p l e (rA 10 mc ms) s m args below meth c H locs mc ms Q (F0 m 90 ls [.int t0])) : ∀ (g : CS), fX11_board_35 P k71 k90 g = some res → ∀ (H : Heap) (locs : List Loc) (ls : Array Slot), MH D (SW cs ad al P g) A s H locs → lv_has ls 2 [(0, .ref (ad 0))] → W p l e (rA 10 mc ms) s m args below meth c H locs mc ms Q (F0 m 35 ls []) := by
  have hx := C.1
  have hb := C.2.1
  intro g hf H locs ls h hl
  unfold fX11_board_35 at hf
  refine lv_aload_n hx hb dX11_board_35 rfl (lv_at hl 0 rfl) ?_
  refine lv_aload_n hx hb dX11_board_36 rfl (lv_at hl 0 rfl) ?_
  refine xg_X11 9 C h (by decide) tb_1_20 rfl rfl dX11_board_37 ?_
  refine xg_X3 2 C h (by decide) tb_9_6 rfl rfl dX11_board_40 ?_
  replace hf := bnd_ex hf
  obtain ⟨g1, eg1, hf⟩ := hf
  refine xp_X11_2 C h tb_9_7 dX11_board_43 (fun H locs h => ?_)
  rw [← eg1] at h
  clear eg1
  refine lv_aload_n hx hb dX11_board_46 rfl (lv_at hl 0 rfl) ?_
  refine lv_aload_n hx hb dX11_board_47 rfl (lv_at hl 0 rfl) ?_
  refine xg_X11 9 C h (by decide) tb_1_20 rfl rfl dX11_board_48 ?_
  refine xg_X3 3 C h (by decide) tb_9_8 rfl rfl dX11_board_51 ?_
  replace hf := bnd_ex hf
  obtain ⟨g2, eg2, hf⟩ := hf
  refine xp_X11_3 C h tb_1_16 dX11_board_54 (fun H locs h => ?_)
  rw [← eg2] at h
  clear eg2
  refine lv_aload_n hx hb dX11_board_57 rfl (lv_at hl 0 rfl) ?_
  refine xg_X11 2 C h (by decide) tb_9_7 rfl rfl dX11_board_58 ?_
  refine lv_if_eq (tgt := 72) hx hb dX11_board_61 (by decide) (fun hq => ?_) (fun hq => ?_)
  · replace hf := if_t hq hf
    clear hq
    refine lv_aload_n hx hb dX11_board_72 rfl (lv_at hl 0 rfl) ?_
    refine xg_X11 5 C h (by decide) tb_2_3 rfl rfl dX11_board_73 ?_
    refine lv_aload_n hx hb dX11_board_76 rfl (lv_at hl 0 rfl) ?_
    refine xg_X11 9 C h (by decide) tb_1_20 rfl rfl dX11_board_77 ?_
    replace hf := bndv_some hf
    obtain ⟨g3, hc, hf⟩ := hf
    refine m_callVv [.ref (ad 4)] C h cv_X11_106 (qX6_settleAs (by simp [okS, okT, ok6]) hc) rfl ⟨rfl, rfl⟩ ⟨Nat.le_of_ble_eq_true rfl, Nat.le_of_ble_eq_true rfl⟩ (rv_X6 (by simp [okS, okT, ok6]) C h) hl.1 rfl (Nat.le_of_ble_eq_true rfl) ⟨Nat.le_refl _, Nat.le_refl _⟩ dX11_board_80 (fun H locs h => ?_)
    clear hc
    refine lv_aload_n hx hb dX11_board_83 rfl (lv_at hl 0 rfl) ?_
    refine xg_X11 5 C h (by decide) tb_2_3 rfl rfl dX11_board_84 ?_
    refine xg_X6 2 (by simp [okS, okT, ok6]) C h (by decide) tb_9_9 rfl rfl dX11_board_87 ?_
    exact hk90 g3 (g3.1 30 2) hf H locs ls h (lv_sub hl [] rfl)
  · replace hf := if_f hq hf
    clear hq
    refine lv_bipush (v := (-10 : Int32)) hx hb dX11_board_64 (by decide) ?_
    refine lv_aload_n hx hb dX11_board_66 rfl (lv_at hl 0 rfl) ?_
    refine xg_X11 2 C h (by decide) tb_9_7 rfl rfl dX11_board_67 ?_
    refine lv_isub hx hb dX11_board_70 ?_
    exact hk71 g2 ((-10 : Int32) - (g2.1 0 2)) hf H locs ls h (lv_sub hl [] rfl)
end
def fX2_written (P : PL) (g : CS) : Option (Nat × PL × CS) :=
  bndv (fX2_unwind P g (1 : Int32)) (fun g1 => chk (wfL P g1) (chk (ib (g1.1 6 1) 900) (some (P.1, pAdd P (ix (g1.1 6 1)) (va_cpy (g1.2.1 7) (fun _ => 0) 0 0 (ix (g1.1 6 1))), g1))))
def fX3_readLaw (P : PL) (g : CS) (a0 : Int32) : Option (Nat × PL × CS) :=
  fX3_readLaw_0 P (fun g => fX2_written P g) (fun g => chk (wfL P g) (some (g.2.2.2 4 12, P, g))) g a0
def fX3_endOf (P : PL) (g : CS) : Option (PL × CS) := bndv (fX3_endLine P g) (fun g1 => some (P, g1))
def fX3_law (P : PL) (g : CS) (a0 : Int32) (k : Nat) : Option (PL × CS) := bndc (fX3_readLaw P g a0) (fun w q => fX3_endOf q.1 (tF q.2 4 k w))
def fX3_readLine (P : PL) (g : CS) : Option (PL × CS) :=
  fX3_readLine_0 P (fun g => fX3_law P g 0 9) (fun g => fX3_law P g 1 10) (fun g => fX3_law P g 2 11) (fun g => fX3_endOf P g) g
def capB (P0 P P1 : PL) : Bool := decide (P.1 ≤ P1.1 ∧ P.2.1 ≤ P1.2.1 ∧ P1.1 ≤ P0.1 + 130 ∧ P1.2.1 ≤ P0.2.1 + 1000)
def fX3_read_63 (P0 : PL) : Nat → PL → CS → Int32 → Option (PL × CS)
  | 0, _, _, _ => none
  | n + 1, P, g, y2 => if (900 : Int32) ≤ y2 then some (P, g) else (if (g.1 4 2) = 0 then (if (g.1 5 3) = 0 then some (P, g) else (bndc (fX3_readLine P g) (fun P1 g1 => chk (capB P0 P P1) (bnd (y2 + (1 : Int32)) (fun x4 => fX3_read_63 P0 n P1 g1 x4))))) else some (P, g))
def fX3_read (P : PL) (g : CS) (a0 : Int32) : Option (PL × CS) := fX3_read_0 P (fun g y2 => fX3_read_63 P fuel P g y2) g a0
def fX11_board (P : PL) (g : CS) (a0 : Int32) : Option ((Nat ⊕ Int32) × PL × CS) :=
  if a0 < 0 then some (Sum.inl 1, P, g) else (if a0 ≤ (g.1 0 1) then (bndc (fX3_read P (tI g 0 1 (0 : Int32)) a0) (fun P1 g1 => fX11_board_35 P1 (fun g2 r => some (Sum.inr r, P1, g2)) (fun g2 r => some (Sum.inr r, P1, g2)) g1)) else some (Sum.inl 1, P, g))
set_option maxHeartbeats 4000000 in
set_option maxRecDepth 100000 in
/-- Arrays.copyOf of the writer's code, shorter than the whole -/
theorem qJ_copyOf {l : Launch} {D : va_G} {cs : Nat → ClassId} {ad al adK adV : Nat → Nat} {P : PL} {g : CS} {n : Int32} (hn : ib n 900 = true) (hw : wfL P g = true) : ACon l D cs ad al adK adV yJ7_copyOf_59c91 cJ7_copyOf_59c91 3 (some (.array .int)) (rA 2 1 (ix n)) 1 (ix n) [.ref (ad 7), .int n] P g (fun al' => some (.ref (al' P.1))) (pAdd P (ix n) (va_cpy (g.2.1 7) (fun _ => 0) 0 0 (ix n))) g := by
  refine ACon.of (by decide) (Nat.le_of_ble_eq_true rfl) ?_
  intro p e s m args below meth c A ls H locs C hks h hl
  have hx := C.1
  have hb := C.2.1
  have C : MCx p s m args meth c A RJ7 cJ7_copyOf_59c91 3 (some (.array .int)) D cs := C
  have hl : lv_has ls 3 [(0, .ref (ad 7)), (1, .int n)] := hl
  obtain ⟨j, hj, rfl⟩ := vp_in_of (ib_in hn) (by decide)
  have ej : ix (nI j) = j := nI_clamp (by omega)
  rw [ej]
  refine lv_iload_n hx hb dJ7_copyOf_59c91_0 rfl (lv_at hl 1 rfl) ?_
  refine lv_aload_n hx hb dJ7_copyOf_59c91_1 rfl (lv_at hl 0 rfl) ?_
  refine ya_7 (v := 900) C h (by decide) dJ7_copyOf_59c91_2 ?_
  refine lv_icmp_ne (tgt := 14) hx hb dJ7_copyOf_59c91_3 (by decide) (fun _ => ?_) (fun q => absurd q (by rw [show (900 : Int32) = nI 900 from rfl, nI_eq (by omega) (by omega)]; omega))
  refine lv_iload_n hx hb dJ7_copyOf_59c91_14 rfl (lv_at hl 1 rfl) ?_
  refine m_newI (N := j) C h (nI_pos (by omega)) ej (by omega) (Nat.le_refl _) (by show 0 + j ≤ j; omega) dJ7_copyOf_59c91_15 (fun q H h => ?_)
  refine lv_astore_n (lv' := [(2, .ref q), (0, .ref (ad 7)), (1, .int (nI j))]) hx hb dJ7_copyOf_59c91_17 rfl hl (by decide) rfl (fun ls hl => ?_)
  refine lv_aload_n hx hb dJ7_copyOf_59c91_18 rfl (lv_at hl 1 rfl) ?_
  refine lv_iconst (v := 0) hx hb dJ7_copyOf_59c91_19 (by decide) ?_
  refine lv_aload_n hx hb dJ7_copyOf_59c91_20 rfl (lv_at hl 0 rfl) ?_
  refine lv_iconst (v := 0) hx hb dJ7_copyOf_59c91_21 (by decide) ?_
  refine lv_aload_n hx hb dJ7_copyOf_59c91_22 rfl (lv_at hl 1 rfl) ?_
  have h7 : (SW cs ad al P g ++ [(q, .inl (cs 0, j, .inl (fun _ => 0)))])[7]? = some (ad 7, .inl (cs 0, 900, .inl (g.2.1 7))) := by
    rw [List.getElem?_append_left (by unfold SW; rw [List.length_append, SWf_len]; omega)]
    exact SW_fix rfl
  have hq : (SW cs ad al P g ++ [(q, .inl (cs 0, j, .inl (fun _ => 0)))])[(SW cs ad al P g).length]? = some (q, .inl (cs 0, j, .inl (fun _ => 0))) := by
    rw [List.getElem?_append_right (Nat.le_refl _), Nat.sub_self]
    rfl
  refine va_alen (v := 900) C.1 C.2.1 C.2.2.2.2.2.2.2.1 h.1 7 0 h7 rfl rfl dJ7_copyOf_59c91_23 ?_
  refine lv_iload_n hx hb dJ7_copyOf_59c91_24 rfl (lv_at hl 2 rfl) ?_
  refine x_min tb_18_23 C hl.1 (Nat.le_of_ble_eq_true rfl) (Nat.le_of_ble_eq_true rfl) (Nat.le_refl _) (by show 0 + j ≤ j; omega) dJ7_copyOf_59c91_25 ?_
  have em : jmin 900 (nI j) = nI j := by unfold jmin; rw [if_pos (show nI j < 900 from nI_lt (b := 900) hj (by omega))]
  rw [em]
  obtain ⟨hP, hD, hS⟩ := h
  refine va_copyi hx hb (C.2.2.1.trans hl.1.symm) C.2.2.2.1 (C.2.2.2.2.1 _ tb_19_0) (C.2.2.2.2.1 _ tb_19_1) (C.2.2.2.2.1 _ tb_19_2) (C.2.2.2.2.1 _ tb_19_3) C.2.2.2.2.2.2.2.1 hP hD hS 7 (SW cs ad al P g).length 0 0 h7 hq rfl rfl rfl (by decide) (by decide) (nI_pos (by omega)) (by rw [nI_clamp (by omega)]; show 0 + j ≤ 900; omega) (by rw [nI_clamp (by omega)]; show 0 + j ≤ j; omega) (fun i _ => rfl) (Nat.le_of_ble_eq_true rfl) (by show (List.map (fun v => Value.category v) []).sum + (nativeFrameWords "java/lang/System" "arraycopy" 5 + 11) ≤ 60 * 2; decide) dJ7_copyOf_59c91_28 (fun H locs hP hD hS => ?_)
  rw [nI_clamp (by omega), List.set_append_right _ _ (Nat.le_refl _), Nat.sub_self] at hP hD
  have e : SW cs ad (alu al P.1 q) (pAdd P j (va_cpy (g.2.1 7) (fun _ => 0) 0 0 j)) g = SW cs ad al P g ++ [(q, .inl (cs 0, j, .inl (va_cpy (g.2.1 7) (fun _ => 0) 0 0 j)))] := SW_add hw
  have h : MH D (SW cs ad (alu al P.1 q) (pAdd P j (va_cpy (g.2.1 7) (fun _ => 0) 0 0 j)) g) A s H locs := by
    rw [e]
    exact ⟨hP, hD, hS⟩
  refine lv_aload_n hx hb dJ7_copyOf_59c91_31 rfl (lv_at hl 0 rfl) ?_
  refine W.widen (k := 1) (n := j) (Nat.le_refl _) (by omega) ?_
  exact a_aret C h (fun i hi => alu_ne hi) (by show some (Value.ref (alu al P.1 q P.1)) = _; rw [alu_at]) (Or.inr ⟨_, rfl⟩) dJ7_copyOf_59c91_32
set_option maxHeartbeats 4000000 in
set_option maxRecDepth 100000 in
theorem qX2_written {l : Launch} {D : va_G} {cs : Nat → ClassId} {ad al adK adV : Nat → Nat} {P P' : PL} {g g' : CS} {w : Nat} (hf : fX2_written P g = some (w, P', g')) : ACon l D cs ad al adK adV yX2_written cX2_written 1 (some (.array .int)) (rA 3 (P'.1 - P.1) (P'.2.1 - P.2.1)) (P'.1 - P.1) (P'.2.1 - P.2.1) [.ref (ad 6)] P g (fun al' => some (.ref (al' w))) P' g' := by
  refine ACon.of (by decide) (Nat.le_of_ble_eq_true rfl) ?_
  intro p e s m args below meth c A ls H locs C hks h hl
  have hx := C.1
  have hb := C.2.1
  have C : MCx p s m args meth c A RX2 cX2_written 1 (some (.array .int)) D cs := C
  have hl : lv_has ls 1 [(0, .ref (ad 6))] := hl
  unfold fX2_written at hf
  replace hf := bndv_some hf
  obtain ⟨g1, hc, hf⟩ := hf
  replace hf := chk_some hf
  obtain ⟨hw, hf⟩ := hf
  replace hf := chk_some hf
  obtain ⟨hq, hf⟩ := hf
  obtain ⟨e1, e2⟩ := pr_inj hf
  have e3 := congrArg Prod.fst e2
  have e4 := congrArg Prod.snd e2
  dsimp only at e3 e4
  subst e1 e3 e4
  have a1 : ∀ f, (pAdd P (ix (g1.1 6 1)) f).1 - P.1 = 1 := fun f => by show P.1 + 1 - P.1 = 1; omega
  have a2 : ∀ f, (pAdd P (ix (g1.1 6 1)) f).2.1 - P.2.1 = ix (g1.1 6 1) := fun f => by show P.2.1 + _ - P.2.1 = _; omega
  rw [a1, a2]
  refine lv_aload_n hx hb dX2_written_0 rfl (lv_at hl 0 rfl) ?_
  refine lv_iconst (v := 1) hx hb dX2_written_1 (by decide) ?_
  refine m_callVv [.int 1] C h cv_X2_47 (qX2_unwind hc) rfl ⟨rfl, rfl⟩ ⟨Nat.le_of_ble_eq_true rfl, Nat.le_of_ble_eq_true rfl⟩ (rv_X2 C h) hl.1 rfl (Nat.le_of_ble_eq_true rfl) ⟨Nat.zero_le _, Nat.zero_le _⟩ dX2_written_2 (fun H locs h => ?_)
  refine lv_aload_n hx hb dX2_written_5 rfl (lv_at hl 0 rfl) ?_
  refine xg_X2 0 C h (by decide) tb_4_2 rfl rfl dX2_written_6 ?_
  refine lv_aload_n hx hb dX2_written_9 rfl (lv_at hl 0 rfl) ?_
  refine xg_X2 1 C h (by decide) tb_15_17 rfl rfl dX2_written_10 ?_
  refine a_callS [.ref (ad 7), .int (g1.1 6 1)] C hks h cs_X2_51 (qJ_copyOf hq hw) rfl ⟨rfl, rfl⟩ ⟨Nat.le_of_ble_eq_true rfl, Nat.le_of_ble_eq_true rfl⟩ hl.1 rfl (Nat.le_of_ble_eq_true rfl) ⟨by show 0 + 1 ≤ 1; omega, by show 0 + ix (g1.1 6 1) ≤ ix (g1.1 6 1); omega⟩ dX2_written_13 (fun al' H locs hal h => ?_)
  refine W.widen (k := 1) (n := ix (g1.1 6 1)) (by omega) (by omega) ?_
  exact a_aret C h hal rfl (Or.inr ⟨_, rfl⟩) dX2_written_16

set_option maxHeartbeats 4000000 in
set_option maxRecDepth 100000 in
theorem qX3_readLaw {l : Launch} {D : va_G} {cs : Nat → ClassId} {ad al adK adV : Nat → Nat} {P P' : PL} {g g' : CS} {w : Nat} {a0 : Int32} (hf : fX3_readLaw P g a0 = some (w, P', g')) : ACon l D cs ad al adK adV yX3_readLaw cX3_readLaw 4 (some (.array .int)) (rA 7 (P'.1 - P.1) (P'.2.1 - P.2.1)) (P'.1 - P.1) (P'.2.1 - P.2.1) [.ref (ad 4), .int a0] P g (fun al' => some (.ref (al' w))) P' g' := by
  refine ACon.of (by decide) (Nat.le_of_ble_eq_true rfl) ?_
  intro p e s m args below meth c A ls H locs C hks h hl
  have hx := C.1
  have hb := C.2.1
  have C : MCx p s m args meth c A RX3 cX3_readLaw 4 (some (.array .int)) D cs := C
  have hl : lv_has ls 4 [(0, .ref (ad 4)), (1, .int a0)] := hl
  unfold fX3_readLaw at hf
  refine wX3_readLaw_0 (P := P) C hks ?_ ?_ g a0 hf H locs ls h (lv_sub hl [0, 1] rfl)
  · intro g1 hf H locs ls h hl
    refine lv_aload_n hx hb dX3_readLaw_112 rfl (lv_at hl 0 rfl) ?_
    refine xg_X3 1 C h (by decide) tb_3_12 rfl rfl dX3_readLaw_113 ?_
    refine a_callV [] C hks h cv_X3_144 (qX2_written hf) rfl ⟨rfl, rfl⟩ ⟨Nat.le_of_ble_eq_true rfl, Nat.le_of_ble_eq_true rfl⟩ (rv_X2 C h) hl.1 rfl (Nat.le_of_ble_eq_true rfl) ⟨by show 0 + (P'.1 - P.1) ≤ P'.1 - P.1; omega, by show 0 + (P'.2.1 - P.2.1) ≤ P'.2.1 - P.2.1; omega⟩ dX3_readLaw_116 (fun al' H locs hal h => ?_)
    refine W.widen (k := P'.1 - P.1) (n := P'.2.1 - P.2.1) (by omega) (by omega) ?_
    refine lv_goto (tgt := 126) hx hb dX3_readLaw_119 (by decide) ?_
    exact a_aret C h hal rfl (Or.inr ⟨_, rfl⟩) dX3_readLaw_126
  · intro g1 hf H locs ls h hl
    replace hf := chk_some hf
    obtain ⟨hw, hf⟩ := hf
    obtain ⟨e1, e2⟩ := pr_inj hf
    have e3 := congrArg Prod.fst e2
    have e4 := congrArg Prod.snd e2
    dsimp only at e3 e4
    subst e1 e3 e4
    refine lv_aload_n hx hb dX3_readLaw_122 rfl (lv_at hl 0 rfl) ?_
    refine xg_X3 12 C h (by decide) tb_3_14 rfl rfl dX3_readLaw_123 ?_
    refine W.widen (k := P.1 - P.1) (n := P.2.1 - P.2.1) (by omega) (by omega) ?_
    exact a_aret C h (fun i _ => rfl) rfl (Or.inr ⟨_, rfl⟩) dX3_readLaw_126

set_option maxHeartbeats 4000000 in
set_option maxRecDepth 100000 in
theorem wX3_endOf {p : Program} {l : Launch} {e : Env} {s : State} {m : MethodId} {args : Array Value} {below : List Frame} {meth : Method} {c : Code} {D : va_G} {cs : Nat → ClassId} {ad al : Nat → Nat} {A : Nat → Prop} {cells slots mc ms n : Nat} {al0 : Nat → Nat} {P P' : PL} {g g' : CS} (C : MCx p s m args meth c A RX3 cX3_readLine 1 none D cs) (hc1 : cells ≤ mc) (hc2 : slots ≤ ms) (hal : ∀ i, i < n → al i = al0 i) (hf : fX3_endOf P g = some (P', g')) : ∀ (H : Heap) (locs : List Loc) (ls : Array Slot), MH D (SW cs ad al P g) A s H locs → lv_has ls 1 [(0, .ref (ad 4))] → W p l e (rA 8 mc ms) s m args below meth c H locs cells slots (MQ below (APost D cs ad (fun _ => none) al0 n P' g' A) args s mc ms A) (F0 m 96 ls []) := by
  have hx := C.1
  have hb := C.2.1
  intro H locs ls h hl
  unfold fX3_endOf at hf
  replace hf := bndv_some hf
  obtain ⟨g1, hc, hf⟩ := hf
  obtain ⟨e1, e2⟩ := pr_inj hf
  subst e1 e2
  refine lv_aload_n hx hb dX3_readLine_96 rfl (lv_at hl 0 rfl) ?_
  refine m_callVv [] C h cv_X3_97 (qX3_endLine hc) rfl ⟨rfl, rfl⟩ ⟨Nat.le_of_ble_eq_true rfl, Nat.le_of_ble_eq_true rfl⟩ (rv_X3 C h) hl.1 rfl (Nat.le_of_ble_eq_true rfl) ⟨hc1, hc2⟩ dX3_readLine_97 (fun H locs h => ?_)
  refine W.widen (k := mc) (n := ms) hc1 hc2 ?_
  exact a_vret C h hal rfl dX3_readLine_100

set_option maxHeartbeats 4000000 in
set_option maxRecDepth 100000 in
theorem qX3_readLine {l : Launch} {D : va_G} {cs : Nat → ClassId} {ad al adK adV : Nat → Nat} {P P' : PL} {g g' : CS} (hf : fX3_readLine P g = some (P', g')) : ACon l D cs ad al adK adV yX3_readLine cX3_readLine 1 none (rA 8 (P'.1 - P.1) (P'.2.1 - P.2.1)) (P'.1 - P.1) (P'.2.1 - P.2.1) [.ref (ad 4)] P g (fun _ => none) P' g' := by
  refine ACon.of (by decide) (Nat.le_of_ble_eq_true rfl) ?_
  intro p e s m args below meth c A ls H locs C hks h hl
  have hx := C.1
  have hb := C.2.1
  have C : MCx p s m args meth c A RX3 cX3_readLine 1 none D cs := C
  have hl : lv_has ls 1 [(0, .ref (ad 4))] := hl
  unfold fX3_readLine at hf
  refine wX3_readLine_0 (P := P) C hks ?_ ?_ ?_ ?_ g hf H locs ls h (lv_sub hl [0] rfl)
  · intro g1 hf H locs ls h hl
    unfold fX3_law at hf
    replace hf := bndc_some hf
    obtain ⟨w, q, hc, hf⟩ := hf
    obtain ⟨P1, g2⟩ := q
    dsimp only at hf
    have hP' : P1 = P' := by
      have hf2 := hf
      unfold fX3_endOf at hf2
      replace hf2 := bndv_some hf2
      obtain ⟨g3, _, hf2⟩ := hf2
      exact (pr_inj hf2).1
    subst hP'
    refine lv_aload_n hx hb dX3_readLine_31 rfl (lv_at hl 0 rfl) ?_
    refine lv_aload_n hx hb dX3_readLine_32 rfl (lv_at hl 0 rfl) ?_
    refine lv_iconst (v := 0) hx hb dX3_readLine_33 (by decide) ?_
    refine a_callV [.int 0] C hks h cv_X3_106 (qX3_readLaw hc) rfl ⟨rfl, rfl⟩ ⟨Nat.le_of_ble_eq_true rfl, Nat.le_of_ble_eq_true rfl⟩ (rv_X3 C h) hl.1 rfl (Nat.le_of_ble_eq_true rfl) ⟨by show 0 + (P1.1 - P.1) ≤ P1.1 - P.1; omega, by show 0 + (P1.2.1 - P.2.1) ≤ P1.2.1 - P.2.1; omega⟩ dX3_readLine_34 (fun al' H locs hal h => ?_)
    refine xp_X3_9 (w := w) C h tb_3_15 dX3_readLine_37 (fun H locs h => ?_)
    refine lv_goto (tgt := 96) hx hb dX3_readLine_40 (by decide) ?_
    exact wX3_endOf C (by omega) (by omega) hal hf H locs ls h hl
  · intro g1 hf H locs ls h hl
    unfold fX3_law at hf
    replace hf := bndc_some hf
    obtain ⟨w, q, hc, hf⟩ := hf
    obtain ⟨P1, g2⟩ := q
    dsimp only at hf
    have hP' : P1 = P' := by
      have hf2 := hf
      unfold fX3_endOf at hf2
      replace hf2 := bndv_some hf2
      obtain ⟨g3, _, hf2⟩ := hf2
      exact (pr_inj hf2).1
    subst hP'
    refine lv_aload_n hx hb dX3_readLine_55 rfl (lv_at hl 0 rfl) ?_
    refine lv_aload_n hx hb dX3_readLine_56 rfl (lv_at hl 0 rfl) ?_
    refine lv_iconst (v := 1) hx hb dX3_readLine_57 (by decide) ?_
    refine a_callV [.int 1] C hks h cv_X3_106 (qX3_readLaw hc) rfl ⟨rfl, rfl⟩ ⟨Nat.le_of_ble_eq_true rfl, Nat.le_of_ble_eq_true rfl⟩ (rv_X3 C h) hl.1 rfl (Nat.le_of_ble_eq_true rfl) ⟨by show 0 + (P1.1 - P.1) ≤ P1.1 - P.1; omega, by show 0 + (P1.2.1 - P.2.1) ≤ P1.2.1 - P.2.1; omega⟩ dX3_readLine_58 (fun al' H locs hal h => ?_)
    refine xp_X3_10 (w := w) C h tb_3_16 dX3_readLine_61 (fun H locs h => ?_)
    refine lv_goto (tgt := 96) hx hb dX3_readLine_64 (by decide) ?_
    exact wX3_endOf C (by omega) (by omega) hal hf H locs ls h hl
  · intro g1 hf H locs ls h hl
    unfold fX3_law at hf
    replace hf := bndc_some hf
    obtain ⟨w, q, hc, hf⟩ := hf
    obtain ⟨P1, g2⟩ := q
    dsimp only at hf
    have hP' : P1 = P' := by
      have hf2 := hf
      unfold fX3_endOf at hf2
      replace hf2 := bndv_some hf2
      obtain ⟨g3, _, hf2⟩ := hf2
      exact (pr_inj hf2).1
    subst hP'
    refine lv_aload_n hx hb dX3_readLine_79 rfl (lv_at hl 0 rfl) ?_
    refine lv_aload_n hx hb dX3_readLine_80 rfl (lv_at hl 0 rfl) ?_
    refine lv_iconst (v := 2) hx hb dX3_readLine_81 (by decide) ?_
    refine a_callV [.int 2] C hks h cv_X3_106 (qX3_readLaw hc) rfl ⟨rfl, rfl⟩ ⟨Nat.le_of_ble_eq_true rfl, Nat.le_of_ble_eq_true rfl⟩ (rv_X3 C h) hl.1 rfl (Nat.le_of_ble_eq_true rfl) ⟨by show 0 + (P1.1 - P.1) ≤ P1.1 - P.1; omega, by show 0 + (P1.2.1 - P.2.1) ≤ P1.2.1 - P.2.1; omega⟩ dX3_readLine_82 (fun al' H locs hal h => ?_)
    refine xp_X3_11 (w := w) C h tb_3_17 dX3_readLine_85 (fun H locs h => ?_)
    refine lv_goto (tgt := 96) hx hb dX3_readLine_88 (by decide) ?_
    exact wX3_endOf C (by omega) (by omega) hal hf H locs ls h hl
  · intro g1 hf H locs ls h hl
    exact wX3_endOf C (Nat.zero_le _) (Nat.zero_le _) (fun i _ => rfl) hf H locs ls h hl

set_option maxHeartbeats 4000000 in
set_option maxRecDepth 100000 in
theorem wX3_read_loop {p : Program} {l : Launch} {e : Env} {s : State} {m : MethodId} {args : Array Value} {below : List Frame} {meth : Method} {c : Code} {D : va_G} {cs : Nat → ClassId} {ad adK adV al0 : Nat → Nat} {A : Nat → Prop} {P0 P' : PL} {g' : CS} (C : MCx p s m args meth c A RX3 cX3_read 3 none D cs) (hks : KS adK adV A s s.heap) : ∀ (n : Nat) (P : PL) (g : CS) (y2 : Int32) (al : Nat → Nat), P0.1 ≤ P.1 → P0.2.1 ≤ P.2.1 → P.1 ≤ P0.1 + 130 → P.2.1 ≤ P0.2.1 + 1000 → (∀ i, i < P0.1 → al i = al0 i) → fX3_read_63 P0 n P g y2 = some (P', g') → ∀ (H : Heap) (locs : List Loc) (ls : Array Slot), MH D (SW cs ad al P g) A s H locs → lv_has ls 3 [(0, .ref (ad 4)), (2, .int y2)] → W p l e (rA 9 130 1000) s m args below meth c H locs (P.1 - P0.1) (P.2.1 - P0.2.1) (MQ below (APost D cs ad (fun _ => none) al0 P0.1 P' g' A) args s 130 1000 A) (F0 m 63 ls []) := by
  have hx := C.1
  have hb := C.2.1
  intro n
  induction n with
  | zero =>
    intro P g y2 al _ _ _ _ _ hf
    exact absurd hf (by simp [fX3_read_63])
  | succ n ih =>
    intro P g y2 al b1 b2 b3 b4 hal hf H locs ls h hl
    rw [fX3_read_63] at hf
    have out : some (P, g) = some (P', g') → W p l e (rA 9 130 1000) s m args below meth c H locs (P.1 - P0.1) (P.2.1 - P0.2.1) (MQ below (APost D cs ad (fun _ => none) al0 P0.1 P' g' A) args s 130 1000 A) (F0 m 97 ls []) := by
      intro hf
      obtain ⟨e1, e2⟩ := pr_inj hf
      subst e1 e2
      refine W.widen (k := 130) (n := 1000) (by omega) (by omega) ?_
      exact a_vret C h hal rfl dX3_read_97
    refine lv_iload_n hx hb dX3_read_63 rfl (lv_at hl 1 rfl) ?_
    refine lv_sipush (v := 900) hx hb dX3_read_64 (by decide) ?_
    refine lv_icmp_ge (tgt := 97) hx hb dX3_read_67 (by decide) (fun hq => ?_) (fun hq => ?_)
    · exact out (if_t hq hf)
    · replace hf := if_f hq hf
      refine lv_aload_n hx hb dX3_read_70 rfl (lv_at hl 0 rfl) ?_
      refine xg_X3 2 C h (by decide) tb_9_14 rfl rfl dX3_read_71 ?_
      refine lv_if_ne (tgt := 97) hx hb dX3_read_74 (by decide) (fun hq => ?_) (fun hq => ?_)
      · exact out (if_tn hq hf)
      · replace hf := if_t hq hf
        refine lv_aload_n hx hb dX3_read_77 rfl (lv_at hl 0 rfl) ?_
        refine xg_X3 0 C h (by decide) tb_3_8 rfl rfl dX3_read_78 ?_
        refine xg_X8 3 C h (by decide) tb_9_19 rfl rfl dX3_read_81 ?_
        refine lv_if_eq (tgt := 97) hx hb dX3_read_84 (by decide) (fun hq => ?_) (fun hq => ?_)
        · exact out (if_t hq hf)
        · replace hf := if_f hq hf
          replace hf := bndc_some hf
          obtain ⟨P1, g1, hc, hf⟩ := hf
          replace hf := chk_some hf
          obtain ⟨hcap, hf⟩ := hf
          obtain ⟨c1, c2, c3, c4⟩ := (of_decide_eq_true hcap : P.1 ≤ P1.1 ∧ P.2.1 ≤ P1.2.1 ∧ P1.1 ≤ P0.1 + 130 ∧ P1.2.1 ≤ P0.2.1 + 1000)
          refine lv_aload_n hx hb dX3_read_87 rfl (lv_at hl 0 rfl) ?_
          refine a_callV [] C hks h cv_X3_66 (qX3_readLine hc) rfl ⟨rfl, rfl⟩ ⟨Nat.le_of_ble_eq_true rfl, Nat.le_of_ble_eq_true rfl⟩ (rv_X3 C h) hl.1 rfl (Nat.le_of_ble_eq_true rfl) ⟨by show P.1 - P0.1 + (P1.1 - P.1) ≤ 130; omega, by show P.2.1 - P0.2.1 + (P1.2.1 - P.2.1) ≤ 1000; omega⟩ dX3_read_88 (fun al' H locs hal' h => ?_)
          obtain ⟨x4, ex4⟩ : ∃ z : Int32, z = y2 + (1 : Int32) := ⟨_, rfl⟩
          replace hf := bnd_at ex4 hf
          refine lv_iinc (v := x4) (lv' := [(2, .int x4), (0, .ref (ad 4))]) hx hb dX3_read_91 hl (k := 1) rfl (by rw [ex4]; rfl) (by decide) rfl (fun ls hl => ?_)
          refine lv_goto (tgt := 63) hx hb dX3_read_94 (by decide) ?_
          rw [show P.1 - P0.1 + (P1.1 - P.1) = P1.1 - P0.1 by omega, show P.2.1 - P0.2.1 + (P1.2.1 - P.2.1) = P1.2.1 - P0.2.1 by omega]
          exact ih P1 g1 x4 al' (by omega) (by omega) c3 c4 (fun i hi => (hal' i (by omega)).trans (hal i hi)) hf H locs ls h (lv_sub hl [1, 0] rfl)

set_option maxHeartbeats 4000000 in
set_option maxRecDepth 100000 in
theorem qX3_read {l : Launch} {D : va_G} {cs : Nat → ClassId} {ad al adK adV : Nat → Nat} {P P' : PL} {g g' : CS} {a0 : Int32} (hf : fX3_read P g a0 = some (P', g')) : ACon l D cs ad al adK adV yX3_read cX3_read 3 none (rA 9 130 1000) 130 1000 [.ref (ad 4), .int a0] P g (fun _ => none) P' g' := by
  refine ACon.of (by decide) (Nat.le_of_ble_eq_true rfl) ?_
  intro p e s m args below meth c A ls H locs C hks h hl
  have hx := C.1
  have hb := C.2.1
  have C : MCx p s m args meth c A RX3 cX3_read 3 none D cs := C
  have hl : lv_has ls 3 [(0, .ref (ad 4)), (1, .int a0)] := hl
  unfold fX3_read at hf
  refine wX3_read_0 (P := P) C hks ?_ g a0 hf H locs ls h (lv_sub hl [0, 1] rfl)
  intro g1 y2 hf H locs ls h hl
  have hw := wX3_read_loop (l := l) (e := e) (below := below) (al0 := al) C hks fuel P g1 y2 al (Nat.le_refl _) (Nat.le_refl _) (by omega) (by omega) (fun i _ => rfl) hf H locs ls h hl
  rw [Nat.sub_self, Nat.sub_self] at hw
  exact hw

set_option maxHeartbeats 4000000 in
set_option maxRecDepth 100000 in
theorem qX11_board {l : Launch} {D : va_G} {cs : Nat → ClassId} {ad al adK adV : Nat → Nat} {P P' : PL} {g g' : CS} {a0 r : Int32} (hf : fX11_board P g a0 = some (Sum.inr r, P', g')) : ACon l D cs ad al adK adV yX11_board cX11_board 2 (some .int) (rA 10 130 1000) 130 1000 [.ref (ad 0), .int a0] P g (fun _ => some (.int r)) P' g' := by
  refine ACon.of (by decide) (Nat.le_of_ble_eq_true rfl) ?_
  intro p e s m args below meth c A ls H locs C hks h hl
  have hx := C.1
  have hb := C.2.1
  have C : MCx p s m args meth c A RX11 cX11_board 2 (some .int) D cs := C
  have hl : lv_has ls 2 [(0, .ref (ad 0)), (1, .int a0)] := hl
  unfold fX11_board at hf
  refine lv_iload_n hx hb dX11_board_0 rfl (lv_at hl 1 rfl) ?_
  refine lv_if_lt (tgt := 12) hx hb dX11_board_1 (by decide) (fun hq => ?_) (fun hq => ?_)
  · exact (xl_r (if_t hq hf)).elim
  · replace hf := if_f hq hf
    refine lv_iload_n hx hb dX11_board_4 rfl (lv_at hl 1 rfl) ?_
    refine lv_aload_n hx hb dX11_board_5 rfl (lv_at hl 0 rfl) ?_
    refine xg_X11 1 C h (by decide) tb_8_8 rfl rfl dX11_board_6 ?_
    refine lv_icmp_le (tgt := 22) hx hb dX11_board_9 (by decide) (fun hq => ?_) (fun hq => ?_)
    · replace hf := if_t hq hf
      replace hf := bndc_some hf
      obtain ⟨P1, g1, hc, hf⟩ := hf
      refine lv_aload_n hx hb dX11_board_22 rfl (lv_at hl 0 rfl) ?_
      refine lv_iconst (v := 0) hx hb dX11_board_23 (by decide) ?_
      refine xp_X11_1 C h tb_8_8 dX11_board_24 (fun H locs h => ?_)
      refine lv_aload_n hx hb dX11_board_27 rfl (lv_at hl 0 rfl) ?_
      refine xg_X11 9 C h (by decide) tb_1_20 rfl rfl dX11_board_28 ?_
      refine lv_iload_n hx hb dX11_board_31 rfl (lv_at hl 1 rfl) ?_
      refine a_callV [.int a0] C hks h cv_X11_94 (qX3_read hc) rfl ⟨rfl, rfl⟩ ⟨Nat.le_of_ble_eq_true rfl, Nat.le_of_ble_eq_true rfl⟩ (rv_X3 C h) hl.1 rfl (Nat.le_of_ble_eq_true rfl) ⟨Nat.le_refl _, Nat.le_refl _⟩ dX11_board_32 (fun al' H locs hal h => ?_)
      refine W.widen (k := 130) (n := 1000) (by omega) (by omega) ?_
      refine wX11_board_35 (P := P1) C hks ?_ ?_ g1 hf H locs ls h (lv_sub hl [0] rfl)
      · intro g2 x hf H locs ls h hl
        obtain ⟨e1, e2⟩ := xr_inj hf
        have e3 := congrArg Prod.fst e2
        have e4 := congrArg Prod.snd e2
        dsimp only at e3 e4
        subst e1 e3 e4
        exact a_iret C h hal rfl dX11_board_71
      · intro g2 x hf H locs ls h hl
        obtain ⟨e1, e2⟩ := xr_inj hf
        have e3 := congrArg Prod.fst e2
        have e4 := congrArg Prod.snd e2
        dsimp only at e3 e4
        subst e1 e3 e4
        exact a_iret C h hal rfl dX11_board_90
    · exact (xl_r (if_f hq hf)).elim
