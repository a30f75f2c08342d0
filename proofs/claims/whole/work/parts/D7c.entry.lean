theorem en_arr {args : Array Value} {s : State} {ty : FieldType} (h : (Cond.arrayClass ty).before args s = true) : ∃ cA : ClassId, ArrOfT s cA ty ∧ s.vm.findClass ("[" ++ ty.toString) = some cA := by
  obtain ⟨c, k, comp, h1, h2, h3⟩ := Cond.arrayClass_spec h
  exact ⟨c, fun n z => ⟨fun k h => (by cases h), k, h2, comp, h3⟩, h1⟩
theorem en_arrO {args : Array Value} {s : State} {n : String} (h : (Cond.arrayOver (.object n)).before args s = true) : ∃ cA : ClassId, ArrOfT s cA (.object n) ∧ va_RA s cA (.object n) := by
  obtain ⟨comp, c, k, h1, -, h2, h3, h4⟩ := Cond.arrayOver_spec h
  exact ⟨c, fun N z => ⟨(fun k h => by cases h), k, h2, comp, h3⟩, k, comp, h2, h3, h1, h4⟩
theorem en_K {args : Array Value} {s : State} (hts : ∀ w ∈ lw_tbl, w.before args s = true) : ∃ (D : va_G) (cs : Nat → ClassId), va_K D vwCl (tyL cs) s := by
  have hb := fun w h => hts w (bT_tbl w h)
  obtain ⟨c0, i0, hk0⟩ := u_known (C := RX0) (T := TX0) (N := 5) (n := 5) hb bX0_in (hts (.instantiable RX0 5) (by decide +kernel))
  obtain ⟨c1, i1, hk1⟩ := u_known (C := RX2) (T := TX2) (N := 11) (n := 11) hb bX2_in (hts (.instantiable RX2 11) (by decide +kernel))
  obtain ⟨c2, i2, hk2⟩ := u_known (C := RX3) (T := TX3) (N := 13) (n := 13) hb bX3_in (hts (.instantiable RX3 13) (by decide +kernel))
  obtain ⟨c3, i3, hk3⟩ := u_known (C := RX4) (T := TX4) (N := 2) (n := 2) hb bX4_in (hts (.instantiable RX4 2) (by decide +kernel))
  obtain ⟨c4, i4, hk4⟩ := u_known (C := RX5) (T := TX5) (N := 8) (n := 8) hb bX5_in (hts (.instantiable RX5 8) (by decide +kernel))
  obtain ⟨c5, i5, hk5⟩ := u_known (C := RX6) (T := TX6) (N := 12) (n := 12) hb bX6_in (hts (.instantiable RX6 12) (by decide +kernel))
  obtain ⟨c6, i6, hk6⟩ := u_known (C := RX7) (T := TX7) (N := 17) (n := 17) hb bX7_in (hts (.instantiable RX7 17) (by decide +kernel))
  obtain ⟨c7, i7, hk7⟩ := u_known (C := RX8) (T := TX8) (N := 6) (n := 6) hb bX8_in (hts (.instantiable RX8 6) (by decide +kernel))
  obtain ⟨c8, i8, hk8⟩ := u_known (C := RX9) (T := TX9) (N := 3) (n := 3) hb bX9_in (hts (.instantiable RX9 3) (by decide +kernel))
  obtain ⟨c9, i9, hk9⟩ := u_known (C := RX10) (T := TX10) (N := 13) (n := 13) hb bX10_in (hts (.instantiable RX10 13) (by decide +kernel))
  obtain ⟨c10, i10, hk10⟩ := u_known (C := RX11) (T := TX11) (N := 13) (n := 13) hb bX11_in (hts (.instantiable RX11 13) (by decide +kernel))
  obtain ⟨c11, i11, hk11⟩ := u_known (C := RX12) (T := TX12) (N := 48) (n := 48) hb bX12_in (hts (.instantiable RX12 48) (by decide +kernel))
  obtain ⟨a0, ha0, hn0⟩ := en_arr (ty := .int) (hts (.arrayClass .int) (by decide +kernel))
  obtain ⟨a1, ha1, hn1⟩ := en_arr (ty := .boolean) (hts (.arrayClass .boolean) (by decide +kernel))
  obtain ⟨a2, ha2, hn2⟩ := en_arr (ty := .long) (hts (.arrayClass .long) (by decide +kernel))
  obtain ⟨a3, ha3, hn3⟩ := en_arr (ty := .byte) (hts (.arrayClass .byte) (by decide +kernel))
  obtain ⟨a4, ha4, hn4⟩ := en_arrO (n := "SwivelBoard$State") (hts (.arrayOver (.object "SwivelBoard$State")) (by decide +kernel))
  obtain ⟨a5, ha5, hn5⟩ := en_arrO (n := "SwivelBoard$Tray") (hts (.arrayOver (.object "SwivelBoard$Tray")) (by decide +kernel))
  refine ⟨(fun k => if k = 0 then c0 else if k = 1 then c1 else if k = 2 then c2 else if k = 3 then c3 else if k = 4 then c4 else if k = 5 then c5 else if k = 6 then c6 else if k = 7 then c7 else if k = 8 then c8 else if k = 9 then c9 else if k = 10 then c10 else c11, fun k => if k = 0 then i0 else if k = 1 then i1 else if k = 2 then i2 else if k = 3 then i3 else if k = 4 then i4 else if k = 5 then i5 else if k = 6 then i6 else if k = 7 then i7 else if k = 8 then i8 else if k = 9 then i9 else if k = 10 then i10 else i11), fun k => if k = 0 then a0 else if k = 1 then a1 else if k = 2 then a2 else if k = 3 then a3 else if k = 4 then a4 else a5, ?_, ?_⟩
  · intro k q hq
    match k, hq with
    | 0, hq => cases hq; exact hk0
    | 1, hq => cases hq; exact hk1
    | 2, hq => cases hq; exact hk2
    | 3, hq => cases hq; exact hk3
    | 4, hq => cases hq; exact hk4
    | 5, hq => cases hq; exact hk5
    | 6, hq => cases hq; exact hk6
    | 7, hq => cases hq; exact hk7
    | 8, hq => cases hq; exact hk8
    | 9, hq => cases hq; exact hk9
    | 10, hq => cases hq; exact hk10
    | 11, hq => cases hq; exact hk11
    | k + 12, hq => simp [vwCl] at hq
  · intro k q hq
    match k, hq with
    | 0, hq => cases hq; exact ⟨ha0, hn0⟩
    | 1, hq => cases hq; exact ⟨ha1, hn1⟩
    | 2, hq => cases hq; exact ⟨ha2, hn2⟩
    | 3, hq => cases hq; exact ⟨ha3, hn3⟩
    | 4, hq => cases hq; exact ⟨ha4, hn4⟩
    | 5, hq => cases hq; exact ⟨ha5, hn5⟩
    | k + 6, hq => simp [tyL] at hq
