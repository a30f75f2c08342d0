/-! ===== what holds at the law's entry ===== -/
def wsL_law0 : List Cond := (wsL_law0_r1 ++ (wsL_law0_r2 ++ (wsL_law0_r3 ++ (wsL_law0_r4 ++ (wsL_law0_r5 ++ (wsL_law0_r6 ++ (wsL_law0_r7 ++ (wsL_law0_r8 ++ (wsL_law0_r9 ++ (wsL_law0_r10 ++ (wsL_law0_r11 ++ (wsL_law0_r12 ++ (wsL_law0_r13 ++ (wsL_law0_r14 ++ (wsL_law0_r15 ++ (wsL_law0_r16 ++ (wsL_law0_r17 ++ (wsL_law0_r18 ++ (wsL_law0_r19 ++ (wsL_law0_r20 ++ (wsL_law0_r21 ++ (wsL_law0_r22 ++ (wsL_law0_r23 ++ (wsL_law0_r24 ++ (wsL_law0_r25 ++ (wsL_law0_r26 ++ (wsL_law0_r27 ++ (wsL_law0_r28 ++ (wsL_law0_r29 ++ (wsL_law0_r30 ++ (wsL_law0_r31 ++ (wsL_law0_r32 ++ (wsL_law0_r33 ++ (wsL_law0_r34 ++ (wsL_law0_r35 ++ (wsL_law0_r36 ++ (wsL_law0_r37 ++ (wsL_law0_r38 ++ (wsL_law0_r39 ++ (wsL_law0_r40 ++ (wsL_law0_r41 ++ (wsL_law0_r42 ++ (wsL_law0_r43 ++ (wsL_law0_r44 ++ (wsL_law0_r45 ++ (wsL_law0_r46 ++ (wsL_law0_r47 ++ (wsL_law0_r48 ++ (wsL_law0_r49 ++ (wsL_law0_r50 ++ (wsL_law0_r51 ++ (wsL_law0_r52 ++ (wsL_law0_r53 ++ (wsL_law0_r54 ++ (wsL_law0_r55 ++ (wsL_law0_r56 ++ (wsL_law0_r57 ++ (wsL_law0_r58 ++ (wsL_law0_r59 ++ (wsL_law0_r60 ++ (wsL_law0_r61 ++ (wsL_law0_r62 ++ (wsL_law0_r63 ++ (wsL_law0_r64 ++ (wsL_law0_r65 ++ (wsL_law0_r66 ++ (wsL_law0_r67 ++ (wsL_law0_r68 ++ (wsL_law0_r69 ++ (wsL_law0_r70 ++ wsL_law0_r71)))))))))))))))))))))))))))))))))))))))))))))))))))))))))))))))))))))) ++ wsX110 ++ wsX120 ++ wsX30 ++ wsX40 ++ wsX60 ++ wsX90 ++ wsX100 ++ wsX70 ++ wsX50 ++ wsX00 ++ wsX80 ++ wsX20 ++ ([] : List Cond)
set_option maxRecDepth 20000 in
theorem wsL_law_in0 : ∀ w ∈ wsL_law0, w ∈ lw_tbl := fun w h => (goodIn_p wsL_law0 [149, 152, 157, 163, 194, 286, 299, 303, 366, 383, 435, 503, 539, 1579, 602, 606, 1735, 801, 873, 877, 662, 882, 886, 889, 892, 895, 898, 902, 907, 911, 915, 921, 925, 928, 931, 936, 939, 942, 945, 949, 959, 964, 969, 973, 977, 981, 986, 990, 709, 999, 1003, 1007, 1011, 1015, 1019, 1030, 1035, 1039, 1044, 1050, 1053, 1057, 1061, 1064, 1067, 1071, 1074, 1089, 1739, 1742, 1746, 1750, 1753, 1757, 1760, 1763, 1768, 1772, 1776, 1782, 1786, 1790, 1794, 1798, 1803, 1811, 1815, 1832, 1819, 1823, 1828, 1836, 1840, 1848, 1852, 1844, 1731, 610, 1865, 1097, 1101, 634, 656, 1121, 622, 1125, 638, 693, 696, 666, 670, 674, 677, 680, 1869, 1873, 1877, 1882, 1886, 1890, 1894, 1897, 1901, 1905, 1909, 1912, 1915, 1920, 1923, 614, 618, 1929, 1933, 1937, 1133, 649, 653, 659, 1941, 1945, 1949, 1953, 1141, 1145, 1148, 1958, 1962, 626, 630, 642, 687, 1966, 1970, 1974, 1978, 700, 706, 1982, 713, 717, 1987, 1155, 1161, 1991, 1996, 2000, 1170, 1175, 2004, 1184, 1188, 1210, 1214, 1218, 2009, 2013, 2016, 2021, 2025, 2034, 2038, 1231, 2042, 1238, 1242, 1247, 2046, 2051, 2056, 1255, 1259, 1263, 1270, 1275, 1280, 731, 735, 739, 746, 1284, 2060, 2064, 2067, 2072, 2077, 2081, 2085, 2089, 2093, 2097, 2101, 2105, 2109, 2113, 2117, 2121, 2125, 2129, 2132, 2136, 1291, 2140, 1298, 760, 763, 768, 771, 774, 2144, 722, 726, 751, 2148, 2152, 2156, 1305, 2160, 756, 2164, 1312, 1316, 1321, 1326, 2168, 2172, 1333, 2176, 1342, 1346, 2180, 1353, 1357, 788, 2184, 1365, 1370, 1373, 1377, 1385, 2188, 2192, 1395, 1400, 1404, 2196, 2199, 2204, 1412, 2208, 1419, 1423, 2212, 1431, 1435, 2217, 1442, 1446, 2221, 2225, 1453, 2229, 1461, 1465, 2233, 2237, 1475, 1479, 1485, 1488, 1492, 2241, 2246, 2250, 2254, 2257, 1499, 2261, 1506, 1511, 1514, 2265, 1522, 1542, 1546, 2269, 2273, 1553, 2277, 1561, 1565, 2281, 1573, 2286, 781, 785, 793, 2290, 2294, 2298] (by decide +kernel) (by decide +kernel) w h).1
theorem bT_w0 : ∀ w ∈ bT, w ∈ wsL_law0 := by
  intro w h
  show w ∈ bR ++ wsX110 ++ wsX120 ++ wsX30 ++ wsX40 ++ wsX60 ++ wsX90 ++ wsX100 ++ wsX70 ++ wsX50 ++ wsX00 ++ wsX80 ++ wsX20 ++ ([] : List Cond)
  rcases List.mem_append.mp h with h | h
  · exact (List.mem_append_left _ (List.mem_append_left _ (List.mem_append_left _ (List.mem_append_left _ (List.mem_append_left _ (List.mem_append_left _ (List.mem_append_left _ (List.mem_append_left _ (List.mem_append_left _ (List.mem_append_left _ (List.mem_append_left _ (List.mem_append_left _ (List.mem_append_left _ h)))))))))))))
  · unfold bX at h
    rcases List.mem_append.mp h with h | h
    rotate_left
    · exact (List.mem_append_left _ (List.mem_append_left _ (List.mem_append_left _ (List.mem_append_left _ (List.mem_append_left _ (List.mem_append_left _ (List.mem_append_left _ (List.mem_append_left _ (List.mem_append_left _ (List.mem_append_left _ (List.mem_append_left _ (List.mem_append_right _ h))))))))))))
    rcases List.mem_append.mp h with h | h
    rotate_left
    · exact (List.mem_append_left _ (List.mem_append_left _ (List.mem_append_left _ (List.mem_append_left _ (List.mem_append_left _ (List.mem_append_left _ (List.mem_append_left _ (List.mem_append_left _ (List.mem_append_left _ (List.mem_append_left _ (List.mem_append_left _ (List.mem_append_left _ (List.mem_append_right _ h)))))))))))))
    rcases List.mem_append.mp h with h | h
    rotate_left
    · exact (List.mem_append_left _ (List.mem_append_left _ (List.mem_append_left _ (List.mem_append_left _ (List.mem_append_left _ (List.mem_append_left _ (List.mem_append_right _ h)))))))
    rcases List.mem_append.mp h with h | h
    rotate_left
    · exact (List.mem_append_left _ (List.mem_append_left _ (List.mem_append_left _ (List.mem_append_left _ (List.mem_append_left _ (List.mem_append_left _ (List.mem_append_left _ (List.mem_append_right _ h))))))))
    rcases List.mem_append.mp h with h | h
    rotate_left
    · exact (List.mem_append_left _ (List.mem_append_left _ (List.mem_append_right _ h)))
    rcases List.mem_append.mp h with h | h
    rotate_left
    · exact (List.mem_append_left _ (List.mem_append_left _ (List.mem_append_left _ (List.mem_append_left _ (List.mem_append_left _ (List.mem_append_right _ h))))))
    rcases List.mem_append.mp h with h | h
    rotate_left
    · exact (List.mem_append_left _ (List.mem_append_left _ (List.mem_append_left _ (List.mem_append_left _ (List.mem_append_left _ (List.mem_append_left _ (List.mem_append_left _ (List.mem_append_left _ (List.mem_append_right _ h)))))))))
    rcases List.mem_append.mp h with h | h
    rotate_left
    · exact (List.mem_append_left _ (List.mem_append_left _ (List.mem_append_left _ (List.mem_append_left _ (List.mem_append_right _ h)))))
    rcases List.mem_append.mp h with h | h
    rotate_left
    · exact (List.mem_append_left _ (List.mem_append_left _ (List.mem_append_left _ (List.mem_append_left _ (List.mem_append_left _ (List.mem_append_left _ (List.mem_append_left _ (List.mem_append_left _ (List.mem_append_left _ (List.mem_append_right _ h))))))))))
    rcases List.mem_append.mp h with h | h
    rotate_left
    · exact (List.mem_append_left _ (List.mem_append_left _ (List.mem_append_left _ (List.mem_append_left _ (List.mem_append_left _ (List.mem_append_left _ (List.mem_append_left _ (List.mem_append_left _ (List.mem_append_left _ (List.mem_append_left _ (List.mem_append_right _ h)))))))))))
    rcases List.mem_append.mp h with h | h
    rotate_left
    · exact (List.mem_append_left _ (List.mem_append_right _ h))
    exact (List.mem_append_left _ (List.mem_append_left _ (List.mem_append_left _ (List.mem_append_right _ h))))
theorem bT_tbl : ∀ w ∈ bT, w ∈ lw_tbl := fun w h => wsL_law_in0 w (bT_w0 w h)
theorem vx_tbl1 : ∀ w ∈ vxW 1, w ∈ lw_tbl := by decide +kernel
theorem vx_tbl2 : ∀ w ∈ vxW 2, w ∈ lw_tbl := by decide +kernel
theorem vx_tbl3 : ∀ w ∈ vxW 3, w ∈ lw_tbl := by decide +kernel
theorem vx_tbl4 : ∀ w ∈ vxW 4, w ∈ lw_tbl := by decide +kernel
theorem bT2_tbl : ∀ w ∈ bT2, w ∈ lw_tbl := by
  intro w h
  unfold bT2 at h
  rcases List.mem_append.mp h with h | h
  · exact bT_tbl w h
  rcases List.mem_append.mp h with h | h
  · exact vx_tbl1 w h
  rcases List.mem_append.mp h with h | h
  · exact vx_tbl2 w h
  rcases List.mem_append.mp h with h | h
  · exact vx_tbl3 w h
  · exact vx_tbl4 w h
theorem en_arr {args : Array Value} {s : State} {ty : FieldType} (h : (Cond.arrayClass ty).before args s = true) : ∃ cA : ClassId, ArrOfT s cA ty ∧ s.vm.findClass ("[" ++ ty.toString) = some cA := by
  obtain ⟨c, k, comp, h1, h2, h3⟩ := Cond.arrayClass_spec h
  exact ⟨c, fun n z => ⟨fun k h => (by cases h), k, h2, comp, h3⟩, h1⟩
theorem en_arrO {args : Array Value} {s : State} {n : String} (h : (Cond.arrayOver (.object n)).before args s = true) : ∃ cA : ClassId, ArrOfT s cA (.object n) ∧ va_RA s cA (.object n) := by
  obtain ⟨comp, c, k, h1, -, h2, h3, h4⟩ := Cond.arrayOver_spec h
  exact ⟨c, fun N z => ⟨(fun k h => by cases h), k, h2, comp, h3⟩, k, comp, h2, h3, h1, h4⟩
theorem en_K {args : Array Value} {s : State} (hts : ∀ w ∈ lw_tbl, w.before args s = true) : ∃ (D : va_G) (cs : Nat → ClassId), va_K D vwCl (tyL cs) s := by
  have hb := fun w h => hts w (bT_tbl w h)
  obtain ⟨c0, i0, hk0⟩ := u_known (C := RX0) (T := TX0) (N := 5) (n := 5) hb bX0_in (hts (.instantiable RX0 5) (by decide +kernel))
  obtain ⟨c1, i1, hk1⟩ := u_known (C := RX2) (T := TX2) (N := 11) (n := 11) hb bX2_in (hts (.instantiable RX2 11) (by decide +kernel))
  obtain ⟨c2, i2, hk2⟩ := u_known (C := RX3) (T := TX3) (N := 13) (n := 13) hb bX3_in (hts (.instantiable RX3 13) (by decide +kernel))
  obtain ⟨c3, i3, hk3⟩ := u_known (C := RX4) (T := TX4) (N := 2) (n := 2) hb bX4_in (hts (.instantiable RX4 2) (by decide +kernel))
  obtain ⟨c4, i4, hk4⟩ := u_known (C := RX5) (T := TX5) (N := 8) (n := 8) hb bX5_in (hts (.instantiable RX5 8) (by decide +kernel))
  obtain ⟨c5, i5, hk5⟩ := u_known (C := RX6) (T := TX6) (N := 12) (n := 12) hb bX6_in (hts (.instantiable RX6 12) (by decide +kernel))
  obtain ⟨c6, i6, hk6⟩ := u_known (C := RX7) (T := TX7) (N := 17) (n := 17) hb bX7_in (hts (.instantiable RX7 17) (by decide +kernel))
  obtain ⟨c7, i7, hk7⟩ := u_known (C := RX8) (T := TX8) (N := 6) (n := 6) hb bX8_in (hts (.instantiable RX8 6) (by decide +kernel))
  obtain ⟨c8, i8, hk8⟩ := u_known (C := RX9) (T := TX9) (N := 3) (n := 3) hb bX9_in (hts (.instantiable RX9 3) (by decide +kernel))
  obtain ⟨c9, i9, hk9⟩ := u_known (C := RX10) (T := TX10) (N := 13) (n := 13) hb bX10_in (hts (.instantiable RX10 13) (by decide +kernel))
  obtain ⟨c10, i10, hk10⟩ := u_known (C := RX11) (T := TX11) (N := 13) (n := 13) hb bX11_in (hts (.instantiable RX11 13) (by decide +kernel))
  obtain ⟨c11, i11, hk11⟩ := u_known (C := RX12) (T := TX12) (N := 48) (n := 48) hb bX12_in (hts (.instantiable RX12 48) (by decide +kernel))
  obtain ⟨a0, ha0, hn0⟩ := en_arr (ty := .int) (hts (.arrayClass .int) (by decide +kernel))
  obtain ⟨a1, ha1, hn1⟩ := en_arr (ty := .boolean) (hts (.arrayClass .boolean) (by decide +kernel))
  obtain ⟨a2, ha2, hn2⟩ := en_arr (ty := .long) (hts (.arrayClass .long) (by decide +kernel))
  obtain ⟨a3, ha3, hn3⟩ := en_arr (ty := .byte) (hts (.arrayClass .byte) (by decide +kernel))
  obtain ⟨a4, ha4, hn4⟩ := en_arrO (n := "SwivelBoard$State") (hts (.arrayOver (.object "SwivelBoard$State")) (by decide +kernel))
  obtain ⟨a5, ha5, hn5⟩ := en_arrO (n := "SwivelBoard$Tray") (hts (.arrayOver (.object "SwivelBoard$Tray")) (by decide +kernel))
  refine ⟨(fun k => if k = 0 then c0 else if k = 1 then c1 else if k = 2 then c2 else if k = 3 then c3 else if k = 4 then c4 else if k = 5 then c5 else if k = 6 then c6 else if k = 7 then c7 else if k = 8 then c8 else if k = 9 then c9 else if k = 10 then c10 else c11, fun k => if k = 0 then i0 else if k = 1 then i1 else if k = 2 then i2 else if k = 3 then i3 else if k = 4 then i4 else if k = 5 then i5 else if k = 6 then i6 else if k = 7 then i7 else if k = 8 then i8 else if k = 9 then i9 else if k = 10 then i10 else i11), fun k => if k = 0 then a0 else if k = 1 then a1 else if k = 2 then a2 else if k = 3 then a3 else if k = 4 then a4 else a5, ?_, ?_⟩
  · intro k q hq
    match k, hq with
    | 0, hq => cases hq; exact hk0
    | 1, hq => cases hq; exact hk1
    | 2, hq => cases hq; exact hk2
    | 3, hq => cases hq; exact hk3
    | 4, hq => cases hq; exact hk4
    | 5, hq => cases hq; exact hk5
    | 6, hq => cases hq; exact hk6
    | 7, hq => cases hq; exact hk7
    | 8, hq => cases hq; exact hk8
    | 9, hq => cases hq; exact hk9
    | 10, hq => cases hq; exact hk10
    | 11, hq => cases hq; exact hk11
    | k + 12, hq => simp [vwCl] at hq
  · intro k q hq
    match k, hq with
    | 0, hq => cases hq; exact ⟨ha0, hn0⟩
    | 1, hq => cases hq; exact ⟨ha1, hn1⟩
    | 2, hq => cases hq; exact ⟨ha2, hn2⟩
    | 3, hq => cases hq; exact ⟨ha3, hn3⟩
    | 4, hq => cases hq; exact ⟨ha4, hn4⟩
    | 5, hq => cases hq; exact ⟨ha5, hn5⟩
    | k + 6, hq => simp [tyL] at hq
abbrev eC : Cond := Jvm.Cond.and given_1 narrow_1
def nSS : Cond → Bool
  | .eq (.string _ _) (.string _ _) => false
  | _ => true
def sT (i : Nat) : Term := .string (sNm i).1 (sNm i).2.1
def sV (i : Nat) : Term := .field (sT i) "java/lang/String" "value" "[B"
def sW (i : Nat) : List Cond := .exactly (sT i) "java/lang/String" :: .eq (.field (sT i) "java/lang/String" "coder" "B") (.int 0) :: .arrayOf (sV i) .byte :: .eq (.length (sV i)) (.int (Int32.ofNat (tx i).length)) :: (List.range (tx i).length).map (fun j => Cond.eq (.elem (sV i) (.int (Int32.ofNat j))) (.int ((tx i).getD j 0)))
set_option maxRecDepth 100000 in
theorem sW_in : ((flatC eC).filter nSS).drop 105 = (List.range nS).flatMap sW := by decide +kernel
theorem sW_ok {args : Array Value} {s : State} (hgv : eC.before args s = true) : ∀ i, i < nS → ∀ w ∈ sW i, w.before args s = true := fun i hi w hw => flat_of_before _ hgv w (by
  have h : w ∈ (List.range nS).flatMap sW := List.mem_flatMap.mpr ⟨i, List.mem_range.mpr hi, hw⟩
  rw [← sW_in] at h
  exact (List.mem_filter.mp (List.mem_of_mem_drop h)).1)
theorem sR_in : ∀ i, i < nS → Cond.stringRef (sNm i).1 (sNm i).2.1 (sNm i).2.2 ∈ lw_tbl := by decide +kernel
theorem en_KS {args : Array Value} {s : State} {A : Nat → Prop} (hts : ∀ w ∈ lw_tbl, w.before args s = true) (hgv : eC.before args s = true) (hA : ∀ a : Nat, a < s.heap.size → ¬ A a) : ∃ adK adV : Nat → Nat, KS adK adV A s s.heap := by
  have hW := sW_ok hgv
  have h0 : ∀ i : Nat, ∃ q : Nat × Nat, i < nS → (sT i).eval args s none [] s = some (.ref q.1) ∧ va_O "java/lang/String" q.1 A s s.heap ∧ va_OF "java/lang/String" "coder" "B" (.int 0) q.1 A s s.heap ∧ va_OF "java/lang/String" "value" "[B" (.ref q.2) q.1 A s s.heap ∧ va_T .byte q.2 (tx i).length (fun j => .int ((tx i).getD j 0)) A s s.heap := by
    intro i
    by_cases hi : i < nS
    · have hex := hW i hi _ (List.mem_cons_self)
      have hco := hW i hi _ (List.mem_cons_of_mem _ List.mem_cons_self)
      have har := hW i hi _ (List.mem_cons_of_mem _ (List.mem_cons_of_mem _ List.mem_cons_self))
      have hle := hW i hi _ (List.mem_cons_of_mem _ (List.mem_cons_of_mem _ (List.mem_cons_of_mem _ List.mem_cons_self)))
      have hel : ∀ j, j < (tx i).length → (Cond.eq (.elem (sV i) (.int (Int32.ofNat j))) (.int ((tx i).getD j 0))).before args s = true := fun j hj => hW i hi _ (List.mem_cons_of_mem _ (List.mem_cons_of_mem _ (List.mem_cons_of_mem _ (List.mem_cons_of_mem _ (List.mem_map.mpr ⟨j, List.mem_range.mpr hj, rfl⟩)))))
      obtain ⟨a, c, cA, kA, q1, q2, q3, q4, q5, q6, -⟩ := Cond.exactly_spec (args := args) (first := s) (o := none) (s := s) (idx := []) (t := sT i) (cls := "java/lang/String") hex
      obtain ⟨t, ht, hT⟩ := va_Tof (f := fun j => .int ((tx i).getD j 0)) (A := A) (tx_small i hi).1 har (va_eqt hle) (fun j hj => va_eqt (hel j hj)) hA
      exact ⟨(a, t), fun _ => ⟨q1, ⟨cA, q3, q5, by rw [q6]; exact q2, hA a (Array.getElem?_eq_some_iff.mp q3).1⟩, vk_OFof q1 (va_eqt hco) hA, vk_OFof q1 ht hA, hT⟩⟩
    · exact ⟨(0, 0), fun h => absurd h hi⟩
  obtain ⟨ad, had⟩ := Classical.axiomOfChoice h0
  refine ⟨fun i => (ad i).1, fun i => (ad i).2, fun i hi => (had i hi).2, fun i hi => vk_R.of (hts _ (sR_in i hi)) (had i hi).1, ?_, ?_⟩
  · exact va_Zof (hts (.laysStatic "java/lang/String" "COMPACT_STRINGS" "Z") (by decide +kernel)) (hts (.initialized "java/lang/String") (by decide +kernel)) (va_eqi (flat_of_before _ hgv (.eq (.static "java/lang/String" "COMPACT_STRINGS" "Z") (.int 1)) (by decide +kernel))) hA
  · exact va_Zqof (hts (.laysStatic "jdk/internal/util/Preconditions" "SIOOBE_FORMATTER" "Ljava/util/function/BiFunction;") (by decide +kernel)) (hts (.initialized "jdk/internal/util/Preconditions") (by decide +kernel)) (flat_of_before _ hgv (.isRef (.static "jdk/internal/util/Preconditions" "SIOOBE_FORMATTER" "Ljava/util/function/BiFunction;")) (by decide +kernel)) hA
theorem vxD_in : ∀ w ∈ vxD, w ∈ lw_tbl := by decide +kernel
theorem vxD_ot : ∀ w ∈ vxD, w.onTables = true := by decide +kernel
theorem vxC_in : ∀ k, k < 5 → 1 ≤ k → Cond.castable (exN k) (exN k) ∈ lw_tbl := by decide +kernel
theorem en_XS {args : Array Value} {s : State} {A : Nat → Prop} (hts : ∀ w ∈ lw_tbl, w.before args s = true) (hgv : eC.before args s = true) (hA : ∀ a : Nat, a < s.heap.size → ¬ A a) : XS A s s.heap := by
  refine ⟨?_, ?_, fun w hw => va_Nw.of (vxD_ot w hw) (hts w (vxD_in w hw)), fun k h1 h4 => va_Nw.of rfl (hts _ (vxC_in k (by omega) h1))⟩
  · exact vx_Zqof (hts (.laysStatic Bundle.tN "UNASSIGNED_STACK" Bundle.steD) (by decide +kernel)) (hts (.initialized Bundle.tN) (by decide +kernel)) (flat_of_before _ hgv (.isRef (.static Bundle.tN "UNASSIGNED_STACK" Bundle.steD)) (by decide +kernel)) hA
  · exact vx_Zqof (hts (.laysStatic Bundle.tN "SUPPRESSED_SENTINEL" Bundle.listD) (by decide +kernel)) (hts (.initialized Bundle.tN) (by decide +kernel)) (flat_of_before _ hgv (.isRef (.static Bundle.tN "SUPPRESSED_SENTINEL" Bundle.listD)) (by decide +kernel)) hA
theorem nc_in : ∀ a, a < 5 → ∀ b, b < 5 → 1 ≤ a → 1 ≤ b → a ≠ b → Cond.not (.castable (exN a) (exN b)) ∈ flatC eC := by decide +kernel
theorem en_NC {args : Array Value} {s : State} (hgv : eC.before args s = true) : NC s := fun a b h1 h2 h3 h4 h5 => va_Nc.of (flat_of_before _ hgv _ (nc_in a (by omega) b (by omega) h1 h3 h5))
theorem en_KAO {args : Array Value} {s : State} (hts : ∀ w ∈ lw_tbl, w.before args s = true) : KAO s := ⟨va_AO.of (hts (.arrayOver (.object "SwivelBoard$State")) (by decide +kernel)), va_AO.of (hts (.arrayOver (.object "SwivelBoard$Tray")) (by decide +kernel)), va_Nw.of rfl (hts (.methodLinkNest RX3 22 yX2_init RX11) (by decide +kernel)), va_Nw.of rfl (hts (.methodLinkNest RX11 28 yX4_init RX11) (by decide +kernel))⟩
