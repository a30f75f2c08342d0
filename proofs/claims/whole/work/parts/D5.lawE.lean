set_option maxHeartbeats 4000000 in
set_option maxRecDepth 100000 in
theorem lc_35 {p : Program} {l : Launch} {e : Env} {s : State} {m : MethodId} {args : Array Value} {below : List Frame} {meth : Method} {c : Code} {H : Heap} {locs : List Loc} {cells slots : Nat} {Q : State → Prop} {D : va_G} {cs : Nat → ClassId} {ad ad' al adK adV : Nat → Nat} {A : Nat → Prop} {b L aO T : Nat} {xs : Nat → Int32} {x4 : Int32} {σ : AS} {P : PL} {g : MS} {h : CS} {fo : Nat → Int64} {ls : Array Slot} (C : MCx p s m args meth c A RL cL_law 8 (some .boolean) D cs) (hL : LC l s args adK adV A) (hX : LX s A b L xs) (hin : Hin x4 L) (hs : wfS σ) (hM : MI σ g) (hC : CI σ P T h) (hT : T + 31 < 2 ^ 31) (hw : MH D (SW cs ad al P h ++ outC cs aO fo :: MW cs ad' g) A s H locs) (hl : lv_has ls 8 (lvL b (ad 0) (ad' 48) aO x4)) (hf : cells + 131 ≤ room_1.cells ∧ slots + 1006 ≤ room_1.slots) (kk : Nx p l e s m args below meth c D cs A ad ad' b aO x4 T cells slots Q) : W p l e room_1 s m args below meth c H locs cells slots Q (F0 m 2061 ls []) := by
  have hx := C.1
  have hb := C.2.1
  have hst := hL.2.2.2.1
  obtain ⟨σ', T', g', h', k1, k2, k3, k4, k5, ko⟩ := st_like hs hM hC (xs (x4 + 1).toNatClampNeg)
  obtain ⟨r, k, fo', e1, e2, e3, e4⟩ : ∃ (r : Int32) (k : Int32) (fo' : Nat → Int64), fX12_likeliest g (xs (x4 + 1).toNatClampNeg) = some (r, g') ∧ g'.1 4 = k ∧ WOut l D cs adK adV yL_likeliest cL_likeliest 4 [(0, 9, 12, 13)] [.ref (ad 0), .int (xs (x4 + 1).toNatClampNeg), .ref aO] (SW cs ad al P h ++ outC cs aO fo :: MW cs ad' g) k (SW cs ad al P h' ++ outC cs aO fo' :: MW cs ad' g) ∧ (k = 0 → fo' 0 = r.toInt64) := by
    rcases ko with ⟨r, q1, q2, q3⟩ | ⟨r, e, w, q1, q0, q2, q3⟩
    · exact ⟨r, 0, _, q1, q2, ⟨_, 0, 0, nL_likeliest hst q3, ⟨rfl, rfl⟩, by decide, by decide, by decide, by decide⟩, fun _ => rfl⟩
    · simp only [List.mem_cons, Prod.mk.injEq, List.not_mem_nil, or_false] at q0
      obtain ⟨rfl, rfl⟩ := q0
      exact ⟨r, 1, fo, q1, q2, ⟨_, 1, 6, xL_likeliest_1 hst q3, ⟨rfl, rfl⟩, by decide, by decide, by decide, by decide⟩, fun z => absurd z (by decide)⟩
  refine lv_aload_n hx hb dL_law_2061 rfl (lv_at hl 1 rfl) ?_
  refine s_ld 0 4 C hX hw hl rfl rfl dL_law_2062 dL_law_2063 dL_law_2065 dL_law_2066 dL_law_2067 (by decide) hin.1 ?_
  refine lv_aload_n hx hb dL_law_2068 rfl (lv_at hl 3 rfl) ?_
  refine w_callS (rest := []) [.ref (ad 0), .int (xs (x4 + 1).toNatClampNeg), .ref aO] C hL hw cw_L_247 e3 rfl (by decide) ⟨Nat.le_of_ble_eq_true rfl, Nat.le_of_ble_eq_true rfl⟩ hl.1 rfl (Nat.le_of_ble_eq_true rfl) hf dL_law_2069 (fun H locs hw => ?_)
  refine lv_istore (lv' := [(5, .int k), (0, .ref b), (1, .ref (ad 0)), (2, .ref (ad' 48)), (3, .ref aO), (4, .int x4)]) hx hb dL_law_2072 hl (by decide) rfl (fun ls hl => ?_)
  refine lv_aload_n hx hb dL_law_2074 rfl (lv_at hl 3 rfl) ?_
  refine s_ld 1 5 C hX hw hl rfl rfl dL_law_2075 dL_law_2076 dL_law_2078 dL_law_2079 dL_law_2080 (by decide) hin.1 ?_
  refine f_callM (r := some (.int r)) (rest := []) [.int (xs (x4 + 1).toNatClampNeg)] C hw cv_L_249 (qX12_likeliest e1) rfl ⟨rfl, rfl⟩ ⟨Nat.le_of_ble_eq_true rfl, Nat.le_of_ble_eq_true rfl⟩ (rv_M C hw) hl.1 rfl (Nat.le_of_ble_eq_true rfl) hf dL_law_2081 (fun H locs hw => ?_)
  refine lv_istore (lv' := [(6, .int r), (5, .int k), (0, .ref b), (1, .ref (ad 0)), (2, .ref (ad' 48)), (3, .ref aO), (4, .int x4)]) hx hb dL_law_2084 hl (by decide) rfl (fun ls hl => ?_)
  refine lv_aload_n hx hb dL_law_2086 rfl (lv_at hl 4 rfl) ?_
  refine f_callM (r := some (.int (g'.1 4))) (rest := []) [] C hw cv_L_134 (qX12_thrown rfl) rfl ⟨rfl, rfl⟩ ⟨Nat.le_of_ble_eq_true rfl, Nat.le_of_ble_eq_true rfl⟩ (rv_M C hw) hl.1 rfl (Nat.le_of_ble_eq_true rfl) hf dL_law_2087 (fun H locs hw => ?_)
  refine lv_iload hx hb dL_law_2090 (lv_at hl 1 rfl) ?_
  refine lv_icmp_eq (tgt := 2097) hx hb dL_law_2092 (by decide) (fun _ => ?_) (fun z => absurd e2 z)
  refine lv_iload hx hb dL_law_2097 (lv_at hl 1 rfl) ?_
  refine lv_if_ne (tgt := 2114) hx hb dL_law_2099 (by decide) (fun _ => ?_) (fun z => ?_)
  · refine lv_goto (tgt := 2453) hx hb dL_law_2114 (by decide) ?_
    exact kk σ' P T' g' h' al fo' H locs ls k1 k4 k5 k3 hw (lv_sub hl [2, 3, 4, 5, 6] rfl)
  · refine lv_aload_n hx hb dL_law_2102 rfl (lv_at hl 5 rfl) ?_
    refine lv_iconst (v := (0 : Int32)) hx hb dL_law_2103 (by decide) ?_
    refine o_load C hw dL_law_2104 ?_
    refine lv_iload hx hb dL_law_2105 (lv_at hl 0 rfl) ?_
    refine lv_i2l hx hb dL_law_2107 rfl ?_
    refine W.lcmp hx hb dL_law_2108 ?_
    refine lv_if_eq (tgt := 2114) hx hb dL_law_2109 (by decide) (fun _ => ?_) (fun y => absurd ((lg_cmp_eq _ _).mpr (e4 z)) y)
    refine lv_goto (tgt := 2453) hx hb dL_law_2114 (by decide) ?_
    exact kk σ' P T' g' h' al fo' H locs ls k1 k4 k5 k3 hw (lv_sub hl [2, 3, 4, 5, 6] rfl)

set_option maxHeartbeats 4000000 in
set_option maxRecDepth 100000 in
theorem lc_36 {p : Program} {l : Launch} {e : Env} {s : State} {m : MethodId} {args : Array Value} {below : List Frame} {meth : Method} {c : Code} {H : Heap} {locs : List Loc} {cells slots : Nat} {Q : State → Prop} {D : va_G} {cs : Nat → ClassId} {ad ad' al adK adV : Nat → Nat} {A : Nat → Prop} {b L aO T : Nat} {xs : Nat → Int32} {x4 : Int32} {σ : AS} {P : PL} {g : MS} {h : CS} {fo : Nat → Int64} {ls : Array Slot} (C : MCx p s m args meth c A RL cL_law 8 (some .boolean) D cs) (hL : LC l s args adK adV A) (hX : LX s A b L xs) (hin : Hin x4 L) (hs : wfS σ) (hM : MI σ g) (hC : CI σ P T h) (hT : T + 31 < 2 ^ 31) (hw : MH D (SW cs ad al P h ++ outC cs aO fo :: MW cs ad' g) A s H locs) (hl : lv_has ls 8 (lvL b (ad 0) (ad' 48) aO x4)) (hf : cells + 131 ≤ room_1.cells ∧ slots + 1006 ≤ room_1.slots) (kk : Nx p l e s m args below meth c D cs A ad ad' b aO x4 T cells slots Q) : W p l e room_1 s m args below meth c H locs cells slots Q (F0 m 2117 ls []) := by
  have hx := C.1
  have hb := C.2.1
  have hst := hL.2.2.2.1
  obtain ⟨σ', T', g', h', k1, k2, k3, k4, k5, ko⟩ := st_tray hs hM hC (xs (x4 + 1).toNatClampNeg) (xs (x4 + 2).toNatClampNeg) (xs (x4 + 3).toNatClampNeg)
  obtain ⟨e1, ko⟩ := ko
  obtain ⟨k, fo', e2, e3⟩ : ∃ (k : Int32) (fo' : Nat → Int64), g'.1 4 = k ∧ WOut l D cs adK adV yL_tray cL_tray 5 [(0, 7, 10, 19), (0, 7, 14, 13)] [.ref (ad 0), .int (xs (x4 + 1).toNatClampNeg), .int (xs (x4 + 2).toNatClampNeg), .int (xs (x4 + 3).toNatClampNeg)] (SW cs ad al P h ++ outC cs aO fo :: MW cs ad' g) k (SW cs ad al P h' ++ outC cs aO fo' :: MW cs ad' g) := by
    rcases ko with ⟨q2, q3⟩ | ⟨e, w, q0, q2, q3⟩
    · exact ⟨0, fo, q2, ⟨_, 0, 0, nL_tray hst q3, ⟨rfl, rfl⟩, by decide, by decide, by decide, by decide⟩⟩
    · simp only [List.mem_cons, Prod.mk.injEq, List.not_mem_nil, or_false] at q0
      rcases q0 with ⟨rfl, rfl⟩ | ⟨rfl, rfl⟩
      · exact ⟨1, fo, q2, ⟨_, 1, 6, xL_tray_2 hst q3, ⟨rfl, rfl⟩, by decide, by decide, by decide, by decide⟩⟩
      · exact ⟨2, fo, q2, ⟨_, 1, 6, xL_tray_1 hst q3, ⟨rfl, rfl⟩, by decide, by decide, by decide, by decide⟩⟩
  refine lv_aload_n hx hb dL_law_2117 rfl (lv_at hl 1 rfl) ?_
  refine s_ld 0 4 C hX hw hl rfl rfl dL_law_2118 dL_law_2119 dL_law_2121 dL_law_2122 dL_law_2123 (by decide) hin.1 ?_
  refine s_ld 0 4 C hX hw hl rfl rfl dL_law_2124 dL_law_2125 dL_law_2127 dL_law_2128 dL_law_2129 (by decide) hin.2.1 ?_
  refine s_ld 0 4 C hX hw hl rfl rfl dL_law_2130 dL_law_2131 dL_law_2133 dL_law_2134 dL_law_2135 (by decide) hin.2.2.1 ?_
  refine w_callS (rest := []) [.ref (ad 0), .int (xs (x4 + 1).toNatClampNeg), .int (xs (x4 + 2).toNatClampNeg), .int (xs (x4 + 3).toNatClampNeg)] C hL hw cw_L_250 e3 rfl (by decide) ⟨Nat.le_of_ble_eq_true rfl, Nat.le_of_ble_eq_true rfl⟩ hl.1 rfl (Nat.le_of_ble_eq_true rfl) hf dL_law_2136 (fun H locs hw => ?_)
  refine lv_istore (lv' := [(5, .int k), (0, .ref b), (1, .ref (ad 0)), (2, .ref (ad' 48)), (3, .ref aO), (4, .int x4)]) hx hb dL_law_2139 hl (by decide) rfl (fun ls hl => ?_)
  refine lv_aload_n hx hb dL_law_2141 rfl (lv_at hl 3 rfl) ?_
  refine s_ld 1 5 C hX hw hl rfl rfl dL_law_2142 dL_law_2143 dL_law_2145 dL_law_2146 dL_law_2147 (by decide) hin.1 ?_
  refine s_ld 1 5 C hX hw hl rfl rfl dL_law_2148 dL_law_2149 dL_law_2151 dL_law_2152 dL_law_2153 (by decide) hin.2.1 ?_
  refine s_ld 1 5 C hX hw hl rfl rfl dL_law_2154 dL_law_2155 dL_law_2157 dL_law_2158 dL_law_2159 (by decide) hin.2.2.1 ?_
  refine f_callM (r := none) (rest := []) [.int (xs (x4 + 1).toNatClampNeg), .int (xs (x4 + 2).toNatClampNeg), .int (xs (x4 + 3).toNatClampNeg)] C hw cv_L_253 (qX12_tray e1) rfl ⟨rfl, rfl⟩ ⟨Nat.le_of_ble_eq_true rfl, Nat.le_of_ble_eq_true rfl⟩ (rv_M C hw) hl.1 rfl (Nat.le_of_ble_eq_true rfl) hf dL_law_2160 (fun H locs hw => ?_)
  refine lv_aload_n hx hb dL_law_2163 rfl (lv_at hl 3 rfl) ?_
  refine f_callM (r := some (.int (g'.1 4))) (rest := []) [] C hw cv_L_134 (qX12_thrown rfl) rfl ⟨rfl, rfl⟩ ⟨Nat.le_of_ble_eq_true rfl, Nat.le_of_ble_eq_true rfl⟩ (rv_M C hw) hl.1 rfl (Nat.le_of_ble_eq_true rfl) hf dL_law_2164 (fun H locs hw => ?_)
  refine lv_iload hx hb dL_law_2167 (lv_at hl 0 rfl) ?_
  refine lv_icmp_eq (tgt := 2174) hx hb dL_law_2169 (by decide) (fun _ => ?_) (fun z => absurd e2 z)
  refine lv_goto (tgt := 2453) hx hb dL_law_2174 (by decide) ?_
  exact kk σ' P T' g' h' al fo' H locs ls k1 k4 k5 k3 hw (lv_sub hl [1, 2, 3, 4, 5] rfl)

set_option maxHeartbeats 4000000 in
set_option maxRecDepth 100000 in
theorem lc_37 {p : Program} {l : Launch} {e : Env} {s : State} {m : MethodId} {args : Array Value} {below : List Frame} {meth : Method} {c : Code} {H : Heap} {locs : List Loc} {cells slots : Nat} {Q : State → Prop} {D : va_G} {cs : Nat → ClassId} {ad ad' al adK adV : Nat → Nat} {A : Nat → Prop} {b L aO T : Nat} {xs : Nat → Int32} {x4 : Int32} {σ : AS} {P : PL} {g : MS} {h : CS} {fo : Nat → Int64} {ls : Array Slot} (C : MCx p s m args meth c A RL cL_law 8 (some .boolean) D cs) (hL : LC l s args adK adV A) (hX : LX s A b L xs) (hin : Hin x4 L) (hs : wfS σ) (hM : MI σ g) (hC : CI σ P T h) (hT : T + 31 < 2 ^ 31) (hw : MH D (SW cs ad al P h ++ outC cs aO fo :: MW cs ad' g) A s H locs) (hl : lv_has ls 8 (lvL b (ad 0) (ad' 48) aO x4)) (hf : cells + 131 ≤ room_1.cells ∧ slots + 1006 ≤ room_1.slots) (kk : Nx p l e s m args below meth c D cs A ad ad' b aO x4 T cells slots Q) : W p l e room_1 s m args below meth c H locs cells slots Q (F0 m 2177 ls []) := by
  have hx := C.1
  have hb := C.2.1
  have hst := hL.2.2.2.1
  obtain ⟨σ', T', g', h', k1, k2, k3, k4, k5, ko⟩ := st_write hs hM hC (xs (x4 + 1).toNatClampNeg) (xs (x4 + 2).toNatClampNeg) (jshlL (xs (x4 + 3).toNatClampNeg).toInt64 32 ||| (xs (x4 + 4).toNatClampNeg).toInt64 &&& (4294967295 : Int64))
  obtain ⟨r, k, fo', e1, e2, e3, e4⟩ : ∃ (r : Int64) (k : Int32) (fo' : Nat → Int64), fX12_write g (xs (x4 + 1).toNatClampNeg) (xs (x4 + 2).toNatClampNeg) (jshlL (xs (x4 + 3).toNatClampNeg).toInt64 32 ||| (xs (x4 + 4).toNatClampNeg).toInt64 &&& (4294967295 : Int64)) = some (r, g') ∧ g'.1 4 = k ∧ WOut l D cs adK adV yL_write cL_write 7 [(0, 11, 14, 19), (0, 11, 18, 36), (0, 11, 22, 107)] [.ref (ad 0), .int (xs (x4 + 1).toNatClampNeg), .int (xs (x4 + 2).toNatClampNeg), .long (jshlL (xs (x4 + 3).toNatClampNeg).toInt64 32 ||| (xs (x4 + 4).toNatClampNeg).toInt64 &&& (4294967295 : Int64)), .ref aO] (SW cs ad al P h ++ outC cs aO fo :: MW cs ad' g) k (SW cs ad al P h' ++ outC cs aO fo' :: MW cs ad' g) ∧ (k = 0 → fo' 0 = r) := by
    rcases ko with ⟨r, q1, q2, q3⟩ | ⟨r, e, w, q1, q0, q2, q3⟩
    · exact ⟨r, 0, _, q1, q2, ⟨_, 0, 0, nL_write hst q3, ⟨rfl, rfl⟩, by decide, by decide, by decide, by decide⟩, fun _ => rfl⟩
    · simp only [List.mem_cons, Prod.mk.injEq, List.not_mem_nil, or_false] at q0
      rcases q0 with ⟨rfl, rfl⟩ | ⟨rfl, rfl⟩ | ⟨rfl, rfl⟩
      · exact ⟨r, 1, fo, q1, q2, ⟨_, 1, 6, xL_write_2 hst q3, ⟨rfl, rfl⟩, by decide, by decide, by decide, by decide⟩, fun z => absurd z (by decide)⟩
      · exact ⟨r, 2, fo, q1, q2, ⟨_, 1, 6, xL_write_3 hst q3, ⟨rfl, rfl⟩, by decide, by decide, by decide, by decide⟩, fun z => absurd z (by decide)⟩
      · exact ⟨r, 3, fo, q1, q2, ⟨_, 1, 6, xL_write_4 hst q3, ⟨rfl, rfl⟩, by decide, by decide, by decide, by decide⟩, fun z => absurd z (by decide)⟩
  refine lv_aload_n hx hb dL_law_2177 rfl (lv_at hl 1 rfl) ?_
  refine s_ld 0 4 C hX hw hl rfl rfl dL_law_2178 dL_law_2179 dL_law_2181 dL_law_2182 dL_law_2183 (by decide) hin.1 ?_
  refine s_ld 0 4 C hX hw hl rfl rfl dL_law_2184 dL_law_2185 dL_law_2187 dL_law_2188 dL_law_2189 (by decide) hin.2.1 ?_
  refine s_ld 0 4 C hX hw hl rfl rfl dL_law_2190 dL_law_2191 dL_law_2193 dL_law_2194 dL_law_2195 (by decide) hin.2.2.1 ?_
  refine lv_i2l hx hb dL_law_2196 rfl ?_
  refine lv_bipush (v := 32) hx hb dL_law_2197 (by decide) ?_
  refine x_lshl hx hb dL_law_2199 ?_
  refine s_ld 0 4 C hX hw hl rfl rfl dL_law_2200 dL_law_2201 dL_law_2203 dL_law_2204 dL_law_2205 (by decide) hin.2.2.2.1 ?_
  refine lv_i2l hx hb dL_law_2206 rfl ?_
  refine lv_ldc2 hx hb C.2.2.2.1 (C.2.2.2.2.1 _ tb_1_7) dL_law_2207 ?_
  refine lv_land hx hb dL_law_2210 ?_
  refine lv_lor hx hb dL_law_2211 ?_
  refine lv_aload_n hx hb dL_law_2212 rfl (lv_at hl 3 rfl) ?_
  refine w_callS (rest := []) [.ref (ad 0), .int (xs (x4 + 1).toNatClampNeg), .int (xs (x4 + 2).toNatClampNeg), .long ((jshlL ((xs (x4 + 3).toNatClampNeg)).toInt64 32) ||| (((xs (x4 + 4).toNatClampNeg)).toInt64 &&& (4294967295 : Int64))), .ref aO] C hL hw cw_L_256 e3 rfl (by decide) ⟨Nat.le_of_ble_eq_true rfl, Nat.le_of_ble_eq_true rfl⟩ hl.1 rfl (Nat.le_of_ble_eq_true rfl) hf dL_law_2213 (fun H locs hw => ?_)
  refine lv_istore (lv' := [(5, .int k), (0, .ref b), (1, .ref (ad 0)), (2, .ref (ad' 48)), (3, .ref aO), (4, .int x4)]) hx hb dL_law_2216 hl (by decide) rfl (fun ls hl => ?_)
  refine lv_aload_n hx hb dL_law_2218 rfl (lv_at hl 3 rfl) ?_
  refine s_ld 1 5 C hX hw hl rfl rfl dL_law_2219 dL_law_2220 dL_law_2222 dL_law_2223 dL_law_2224 (by decide) hin.1 ?_
  refine s_ld 1 5 C hX hw hl rfl rfl dL_law_2225 dL_law_2226 dL_law_2228 dL_law_2229 dL_law_2230 (by decide) hin.2.1 ?_
  refine s_ld 1 5 C hX hw hl rfl rfl dL_law_2231 dL_law_2232 dL_law_2234 dL_law_2235 dL_law_2236 (by decide) hin.2.2.1 ?_
  refine lv_i2l hx hb dL_law_2237 rfl ?_
  refine lv_bipush (v := 32) hx hb dL_law_2238 (by decide) ?_
  refine x_lshl hx hb dL_law_2240 ?_
  refine s_ld 1 5 C hX hw hl rfl rfl dL_law_2241 dL_law_2242 dL_law_2244 dL_law_2245 dL_law_2246 (by decide) hin.2.2.2.1 ?_
  refine lv_i2l hx hb dL_law_2247 rfl ?_
  refine lv_ldc2 hx hb C.2.2.2.1 (C.2.2.2.2.1 _ tb_1_7) dL_law_2248 ?_
  refine lv_land hx hb dL_law_2251 ?_
  refine lv_lor hx hb dL_law_2252 ?_
  refine f_callM (r := some (.long r)) (rest := []) [.int (xs (x4 + 1).toNatClampNeg), .int (xs (x4 + 2).toNatClampNeg), .long ((jshlL ((xs (x4 + 3).toNatClampNeg)).toInt64 32) ||| (((xs (x4 + 4).toNatClampNeg)).toInt64 &&& (4294967295 : Int64)))] C hw cv_L_259 (qX12_write e1) rfl ⟨rfl, rfl⟩ ⟨Nat.le_of_ble_eq_true rfl, Nat.le_of_ble_eq_true rfl⟩ (rv_M C hw) hl.1 rfl (Nat.le_of_ble_eq_true rfl) hf dL_law_2253 (fun H locs hw => ?_)
  refine lv_lstore (lv' := [(6, .long r), (5, .int k), (0, .ref b), (1, .ref (ad 0)), (2, .ref (ad' 48)), (3, .ref aO), (4, .int x4)]) hx hb dL_law_2256 hl (by decide) rfl (fun ls hl => ?_)
  refine lv_aload_n hx hb dL_law_2258 rfl (lv_at hl 4 rfl) ?_
  refine f_callM (r := some (.int (g'.1 4))) (rest := []) [] C hw cv_L_134 (qX12_thrown rfl) rfl ⟨rfl, rfl⟩ ⟨Nat.le_of_ble_eq_true rfl, Nat.le_of_ble_eq_true rfl⟩ (rv_M C hw) hl.1 rfl (Nat.le_of_ble_eq_true rfl) hf dL_law_2259 (fun H locs hw => ?_)
  refine lv_iload hx hb dL_law_2262 (lv_at hl 1 rfl) ?_
  refine lv_icmp_eq (tgt := 2269) hx hb dL_law_2264 (by decide) (fun _ => ?_) (fun z => absurd e2 z)
  refine lv_iload hx hb dL_law_2269 (lv_at hl 1 rfl) ?_
  refine lv_if_ne (tgt := 2285) hx hb dL_law_2271 (by decide) (fun _ => ?_) (fun z => ?_)
  · refine lv_goto (tgt := 2453) hx hb dL_law_2285 (by decide) ?_
    exact kk σ' P T' g' h' al fo' H locs ls k1 k4 k5 k3 hw (lv_sub hl [2, 3, 4, 5, 6] rfl)
  · refine lv_aload_n hx hb dL_law_2274 rfl (lv_at hl 5 rfl) ?_
    refine lv_iconst (v := (0 : Int32)) hx hb dL_law_2275 (by decide) ?_
    refine o_load C hw dL_law_2276 ?_
    refine lv_lload hx hb dL_law_2277 (lv_at hl 0 rfl) ?_
    refine W.lcmp hx hb dL_law_2279 ?_
    refine lv_if_eq (tgt := 2285) hx hb dL_law_2280 (by decide) (fun _ => ?_) (fun y => absurd ((lg_cmp_eq _ _).mpr (e4 z)) y)
    refine lv_goto (tgt := 2453) hx hb dL_law_2285 (by decide) ?_
    exact kk σ' P T' g' h' al fo' H locs ls k1 k4 k5 k3 hw (lv_sub hl [2, 3, 4, 5, 6] rfl)

set_option maxHeartbeats 4000000 in
set_option maxRecDepth 100000 in
theorem lc_38 {p : Program} {l : Launch} {e : Env} {s : State} {m : MethodId} {args : Array Value} {below : List Frame} {meth : Method} {c : Code} {H : Heap} {locs : List Loc} {cells slots : Nat} {Q : State → Prop} {D : va_G} {cs : Nat → ClassId} {ad ad' al adK adV : Nat → Nat} {A : Nat → Prop} {b L aO T : Nat} {xs : Nat → Int32} {x4 : Int32} {σ : AS} {P : PL} {g : MS} {h : CS} {fo : Nat → Int64} {ls : Array Slot} (C : MCx p s m args meth c A RL cL_law 8 (some .boolean) D cs) (hL : LC l s args adK adV A) (hX : LX s A b L xs) (hin : Hin x4 L) (hs : wfS σ) (hM : MI σ g) (hC : CI σ P T h) (hT : T + 31 < 2 ^ 31) (hw : MH D (SW cs ad al P h ++ outC cs aO fo :: MW cs ad' g) A s H locs) (hl : lv_has ls 8 (lvL b (ad 0) (ad' 48) aO x4)) (hf : cells + 131 ≤ room_1.cells ∧ slots + 1006 ≤ room_1.slots) (kk : Nx p l e s m args below meth c D cs A ad ad' b aO x4 T cells slots Q) : W p l e room_1 s m args below meth c H locs cells slots Q (F0 m 2288 ls []) := by
  have hx := C.1
  have hb := C.2.1
  have hst := hL.2.2.2.1
  obtain ⟨σ', T', g', h', k1, k2, k3, k4, k5, ko⟩ := st_copy hs hM hC (xs (x4 + 1).toNatClampNeg) (xs (x4 + 2).toNatClampNeg)
  obtain ⟨r, k, fo', e1, e2, e3, e4⟩ : ∃ (r : Int32) (k : Int32) (fo' : Nat → Int64), fX12_copy g (xs (x4 + 1).toNatClampNeg) (xs (x4 + 2).toNatClampNeg) = some (r, g') ∧ g'.1 4 = k ∧ WOut l D cs adK adV yL_copy cL_copy 5 [(0, 10, 13, 19), (0, 10, 17, 36), (0, 10, 21, 13)] [.ref (ad 0), .int (xs (x4 + 1).toNatClampNeg), .int (xs (x4 + 2).toNatClampNeg), .ref aO] (SW cs ad al P h ++ outC cs aO fo :: MW cs ad' g) k (SW cs ad al P h' ++ outC cs aO fo' :: MW cs ad' g) ∧ (k = 0 → fo' 0 = r.toInt64) := by
    rcases ko with ⟨r, q1, q2, q3⟩ | ⟨r, e, w, q1, q0, q2, q3⟩
    · exact ⟨r, 0, _, q1, q2, ⟨_, 0, 0, nL_copy hst q3, ⟨rfl, rfl⟩, by decide, by decide, by decide, by decide⟩, fun _ => rfl⟩
    · simp only [List.mem_cons, Prod.mk.injEq, List.not_mem_nil, or_false] at q0
      rcases q0 with ⟨rfl, rfl⟩ | ⟨rfl, rfl⟩ | ⟨rfl, rfl⟩
      · exact ⟨r, 1, fo, q1, q2, ⟨_, 1, 6, xL_copy_2 hst q3, ⟨rfl, rfl⟩, by decide, by decide, by decide, by decide⟩, fun z => absurd z (by decide)⟩
      · exact ⟨r, 2, fo, q1, q2, ⟨_, 1, 6, xL_copy_3 hst q3, ⟨rfl, rfl⟩, by decide, by decide, by decide, by decide⟩, fun z => absurd z (by decide)⟩
      · exact ⟨r, 3, fo, q1, q2, ⟨_, 1, 6, xL_copy_1 hst q3, ⟨rfl, rfl⟩, by decide, by decide, by decide, by decide⟩, fun z => absurd z (by decide)⟩
  refine lv_aload_n hx hb dL_law_2288 rfl (lv_at hl 1 rfl) ?_
  refine s_ld 0 4 C hX hw hl rfl rfl dL_law_2289 dL_law_2290 dL_law_2292 dL_law_2293 dL_law_2294 (by decide) hin.1 ?_
  refine s_ld 0 4 C hX hw hl rfl rfl dL_law_2295 dL_law_2296 dL_law_2298 dL_law_2299 dL_law_2300 (by decide) hin.2.1 ?_
  refine lv_aload_n hx hb dL_law_2301 rfl (lv_at hl 3 rfl) ?_
  refine w_callS (rest := []) [.ref (ad 0), .int (xs (x4 + 1).toNatClampNeg), .int (xs (x4 + 2).toNatClampNeg), .ref aO] C hL hw cw_L_260 e3 rfl (by decide) ⟨Nat.le_of_ble_eq_true rfl, Nat.le_of_ble_eq_true rfl⟩ hl.1 rfl (Nat.le_of_ble_eq_true rfl) hf dL_law_2302 (fun H locs hw => ?_)
  refine lv_istore (lv' := [(5, .int k), (0, .ref b), (1, .ref (ad 0)), (2, .ref (ad' 48)), (3, .ref aO), (4, .int x4)]) hx hb dL_law_2305 hl (by decide) rfl (fun ls hl => ?_)
  refine lv_aload_n hx hb dL_law_2307 rfl (lv_at hl 3 rfl) ?_
  refine s_ld 1 5 C hX hw hl rfl rfl dL_law_2308 dL_law_2309 dL_law_2311 dL_law_2312 dL_law_2313 (by decide) hin.1 ?_
  refine s_ld 1 5 C hX hw hl rfl rfl dL_law_2314 dL_law_2315 dL_law_2317 dL_law_2318 dL_law_2319 (by decide) hin.2.1 ?_
  refine f_callM (r := some (.int r)) (rest := []) [.int (xs (x4 + 1).toNatClampNeg), .int (xs (x4 + 2).toNatClampNeg)] C hw cv_L_262 (qX12_copy e1) rfl ⟨rfl, rfl⟩ ⟨Nat.le_of_ble_eq_true rfl, Nat.le_of_ble_eq_true rfl⟩ (rv_M C hw) hl.1 rfl (Nat.le_of_ble_eq_true rfl) hf dL_law_2320 (fun H locs hw => ?_)
  refine lv_istore (lv' := [(6, .int r), (5, .int k), (0, .ref b), (1, .ref (ad 0)), (2, .ref (ad' 48)), (3, .ref aO), (4, .int x4)]) hx hb dL_law_2323 hl (by decide) rfl (fun ls hl => ?_)
  refine lv_aload_n hx hb dL_law_2325 rfl (lv_at hl 4 rfl) ?_
  refine f_callM (r := some (.int (g'.1 4))) (rest := []) [] C hw cv_L_134 (qX12_thrown rfl) rfl ⟨rfl, rfl⟩ ⟨Nat.le_of_ble_eq_true rfl, Nat.le_of_ble_eq_true rfl⟩ (rv_M C hw) hl.1 rfl (Nat.le_of_ble_eq_true rfl) hf dL_law_2326 (fun H locs hw => ?_)
  refine lv_iload hx hb dL_law_2329 (lv_at hl 1 rfl) ?_
  refine lv_icmp_eq (tgt := 2336) hx hb dL_law_2331 (by decide) (fun _ => ?_) (fun z => absurd e2 z)
  refine lv_iload hx hb dL_law_2336 (lv_at hl 1 rfl) ?_
  refine lv_if_ne (tgt := 2353) hx hb dL_law_2338 (by decide) (fun _ => ?_) (fun z => ?_)
  · refine lv_goto (tgt := 2453) hx hb dL_law_2353 (by decide) ?_
    exact kk σ' P T' g' h' al fo' H locs ls k1 k4 k5 k3 hw (lv_sub hl [2, 3, 4, 5, 6] rfl)
  · refine lv_aload_n hx hb dL_law_2341 rfl (lv_at hl 5 rfl) ?_
    refine lv_iconst (v := (0 : Int32)) hx hb dL_law_2342 (by decide) ?_
    refine o_load C hw dL_law_2343 ?_
    refine lv_iload hx hb dL_law_2344 (lv_at hl 0 rfl) ?_
    refine lv_i2l hx hb dL_law_2346 rfl ?_
    refine W.lcmp hx hb dL_law_2347 ?_
    refine lv_if_eq (tgt := 2353) hx hb dL_law_2348 (by decide) (fun _ => ?_) (fun y => absurd ((lg_cmp_eq _ _).mpr (e4 z)) y)
    refine lv_goto (tgt := 2453) hx hb dL_law_2353 (by decide) ?_
    exact kk σ' P T' g' h' al fo' H locs ls k1 k4 k5 k3 hw (lv_sub hl [2, 3, 4, 5, 6] rfl)

set_option maxHeartbeats 4000000 in
set_option maxRecDepth 100000 in
theorem lc_39 {p : Program} {l : Launch} {e : Env} {s : State} {m : MethodId} {args : Array Value} {below : List Frame} {meth : Method} {c : Code} {H : Heap} {locs : List Loc} {cells slots : Nat} {Q : State → Prop} {D : va_G} {cs : Nat → ClassId} {ad ad' al adK adV : Nat → Nat} {A : Nat → Prop} {b L aO T : Nat} {xs : Nat → Int32} {x4 : Int32} {σ : AS} {P : PL} {g : MS} {h : CS} {fo : Nat → Int64} {ls : Array Slot} (C : MCx p s m args meth c A RL cL_law 8 (some .boolean) D cs) (hL : LC l s args adK adV A) (hX : LX s A b L xs) (hin : Hin x4 L) (hs : wfS σ) (hM : MI σ g) (hC : CI σ P T h) (hT : T + 31 < 2 ^ 31) (hw : MH D (SW cs ad al P h ++ outC cs aO fo :: MW cs ad' g) A s H locs) (hl : lv_has ls 8 (lvL b (ad 0) (ad' 48) aO x4)) (hf : cells + 131 ≤ room_1.cells ∧ slots + 1006 ≤ room_1.slots) (kk : Nx p l e s m args below meth c D cs A ad ad' b aO x4 T cells slots Q) : W p l e room_1 s m args below meth c H locs cells slots Q (F0 m 2356 ls []) := by
  have hx := C.1
  have hb := C.2.1
  have hst := hL.2.2.2.1
  obtain ⟨σ', T', g', h', k1, k2, k3, k4, k5, ko⟩ := st_image hs hM hC (xs (x4 + 1).toNatClampNeg)
  obtain ⟨e1, ko⟩ := ko
  obtain ⟨k, fo', e2, e3⟩ : ∃ (k : Int32) (fo' : Nat → Int64), g'.1 4 = k ∧ WOut l D cs adK adV yL_image cL_image 3 [(0, 5, 8, 19)] [.ref (ad 0), .int (xs (x4 + 1).toNatClampNeg)] (SW cs ad al P h ++ outC cs aO fo :: MW cs ad' g) k (SW cs ad al P h' ++ outC cs aO fo' :: MW cs ad' g) := by
    rcases ko with ⟨q2, q3⟩ | ⟨e, w, q0, q2, q3⟩
    · exact ⟨0, fo, q2, ⟨_, 0, 0, nL_image hst q3, ⟨rfl, rfl⟩, by decide, by decide, by decide, by decide⟩⟩
    · simp only [List.mem_cons, Prod.mk.injEq, List.not_mem_nil, or_false] at q0
      obtain ⟨rfl, rfl⟩ := q0
      exact ⟨1, fo, q2, ⟨_, 1, 6, xL_image_2 hst q3, ⟨rfl, rfl⟩, by decide, by decide, by decide, by decide⟩⟩
  refine lv_aload_n hx hb dL_law_2356 rfl (lv_at hl 1 rfl) ?_
  refine s_ld 0 4 C hX hw hl rfl rfl dL_law_2357 dL_law_2358 dL_law_2360 dL_law_2361 dL_law_2362 (by decide) hin.1 ?_
  refine w_callS (rest := []) [.ref (ad 0), .int (xs (x4 + 1).toNatClampNeg)] C hL hw cw_L_263 e3 rfl (by decide) ⟨Nat.le_of_ble_eq_true rfl, Nat.le_of_ble_eq_true rfl⟩ hl.1 rfl (Nat.le_of_ble_eq_true rfl) hf dL_law_2363 (fun H locs hw => ?_)
  refine lv_istore (lv' := [(5, .int k), (0, .ref b), (1, .ref (ad 0)), (2, .ref (ad' 48)), (3, .ref aO), (4, .int x4)]) hx hb dL_law_2366 hl (by decide) rfl (fun ls hl => ?_)
  refine lv_aload_n hx hb dL_law_2368 rfl (lv_at hl 3 rfl) ?_
  refine s_ld 1 5 C hX hw hl rfl rfl dL_law_2369 dL_law_2370 dL_law_2372 dL_law_2373 dL_law_2374 (by decide) hin.1 ?_
  refine f_callM (r := none) (rest := []) [.int (xs (x4 + 1).toNatClampNeg)] C hw cv_L_266 (qX12_image e1) rfl ⟨rfl, rfl⟩ ⟨Nat.le_of_ble_eq_true rfl, Nat.le_of_ble_eq_true rfl⟩ (rv_M C hw) hl.1 rfl (Nat.le_of_ble_eq_true rfl) hf dL_law_2375 (fun H locs hw => ?_)
  refine lv_aload_n hx hb dL_law_2378 rfl (lv_at hl 3 rfl) ?_
  refine f_callM (r := some (.int (g'.1 4))) (rest := []) [] C hw cv_L_134 (qX12_thrown rfl) rfl ⟨rfl, rfl⟩ ⟨Nat.le_of_ble_eq_true rfl, Nat.le_of_ble_eq_true rfl⟩ (rv_M C hw) hl.1 rfl (Nat.le_of_ble_eq_true rfl) hf dL_law_2379 (fun H locs hw => ?_)
  refine lv_iload hx hb dL_law_2382 (lv_at hl 0 rfl) ?_
  refine lv_icmp_eq (tgt := 2389) hx hb dL_law_2384 (by decide) (fun _ => ?_) (fun z => absurd e2 z)
  refine lv_goto (tgt := 2453) hx hb dL_law_2389 (by decide) ?_
  exact kk σ' P T' g' h' al fo' H locs ls k1 k4 k5 k3 hw (lv_sub hl [1, 2, 3, 4, 5] rfl)

set_option maxHeartbeats 4000000 in
set_option maxRecDepth 100000 in
theorem lc_40 {p : Program} {l : Launch} {e : Env} {s : State} {m : MethodId} {args : Array Value} {below : List Frame} {meth : Method} {c : Code} {H : Heap} {locs : List Loc} {cells slots : Nat} {Q : State → Prop} {D : va_G} {cs : Nat → ClassId} {ad ad' al adK adV : Nat → Nat} {A : Nat → Prop} {b L aO T : Nat} {xs : Nat → Int32} {x4 : Int32} {σ : AS} {P : PL} {g : MS} {h : CS} {fo : Nat → Int64} {ls : Array Slot} (C : MCx p s m args meth c A RL cL_law 8 (some .boolean) D cs) (hL : LC l s args adK adV A) (hX : LX s A b L xs) (hin : Hin x4 L) (hs : wfS σ) (hM : MI σ g) (hC : CI σ P T h) (hT : T + 31 < 2 ^ 31) (hw : MH D (SW cs ad al P h ++ outC cs aO fo :: MW cs ad' g) A s H locs) (hl : lv_has ls 8 (lvL b (ad 0) (ad' 48) aO x4)) (hf : cells + 131 ≤ room_1.cells ∧ slots + 1006 ≤ room_1.slots) (kk : Nx p l e s m args below meth c D cs A ad ad' b aO x4 T cells slots Q) : W p l e room_1 s m args below meth c H locs cells slots Q (F0 m 2392 ls []) := by
  have hx := C.1
  have hb := C.2.1
  have hst := hL.2.2.2.1
  obtain ⟨σ', T', g', h', k1, k2, k3, k4, k5, ko⟩ := st_restore hs hM hC hT (xs (x4 + 1).toNatClampNeg)
  obtain ⟨e1, ko⟩ := ko
  obtain ⟨k, fo', e2, e3⟩ : ∃ (k : Int32) (fo' : Nat → Int64), g'.1 4 = k ∧ WOut l D cs adK adV yL_restore cL_restore 3 [(0, 5, 8, 19), (0, 5, 11, 36)] [.ref (ad 0), .int (xs (x4 + 1).toNatClampNeg)] (SW cs ad al P h ++ outC cs aO fo :: MW cs ad' g) k (SW cs ad al P h' ++ outC cs aO fo' :: MW cs ad' g) := by
    rcases ko with ⟨q2, q3⟩ | ⟨e, w, q0, q2, q3⟩
    · exact ⟨0, fo, q2, ⟨_, 0, 0, nL_restore hst q3, ⟨rfl, rfl⟩, by decide, by decide, by decide, by decide⟩⟩
    · simp only [List.mem_cons, Prod.mk.injEq, List.not_mem_nil, or_false] at q0
      rcases q0 with ⟨rfl, rfl⟩ | ⟨rfl, rfl⟩
      · exact ⟨1, fo, q2, ⟨_, 1, 6, xL_restore_2 hst q3, ⟨rfl, rfl⟩, by decide, by decide, by decide, by decide⟩⟩
      · exact ⟨2, fo, q2, ⟨_, 1, 6, xL_restore_3 hst q3, ⟨rfl, rfl⟩, by decide, by decide, by decide, by decide⟩⟩
  refine lv_aload_n hx hb dL_law_2392 rfl (lv_at hl 1 rfl) ?_
  refine s_ld 0 4 C hX hw hl rfl rfl dL_law_2393 dL_law_2394 dL_law_2396 dL_law_2397 dL_law_2398 (by decide) hin.1 ?_
  refine w_callS (rest := []) [.ref (ad 0), .int (xs (x4 + 1).toNatClampNeg)] C hL hw cw_L_267 e3 rfl (by decide) ⟨Nat.le_of_ble_eq_true rfl, Nat.le_of_ble_eq_true rfl⟩ hl.1 rfl (Nat.le_of_ble_eq_true rfl) hf dL_law_2399 (fun H locs hw => ?_)
  refine lv_istore (lv' := [(5, .int k), (0, .ref b), (1, .ref (ad 0)), (2, .ref (ad' 48)), (3, .ref aO), (4, .int x4)]) hx hb dL_law_2402 hl (by decide) rfl (fun ls hl => ?_)
  refine lv_aload_n hx hb dL_law_2404 rfl (lv_at hl 3 rfl) ?_
  refine s_ld 1 5 C hX hw hl rfl rfl dL_law_2405 dL_law_2406 dL_law_2408 dL_law_2409 dL_law_2410 (by decide) hin.1 ?_
  refine f_callM (r := none) (rest := []) [.int (xs (x4 + 1).toNatClampNeg)] C hw cv_L_269 (qX12_restore e1) rfl ⟨rfl, rfl⟩ ⟨Nat.le_of_ble_eq_true rfl, Nat.le_of_ble_eq_true rfl⟩ (rv_M C hw) hl.1 rfl (Nat.le_of_ble_eq_true rfl) hf dL_law_2411 (fun H locs hw => ?_)
  refine lv_aload_n hx hb dL_law_2414 rfl (lv_at hl 3 rfl) ?_
  refine f_callM (r := some (.int (g'.1 4))) (rest := []) [] C hw cv_L_134 (qX12_thrown rfl) rfl ⟨rfl, rfl⟩ ⟨Nat.le_of_ble_eq_true rfl, Nat.le_of_ble_eq_true rfl⟩ (rv_M C hw) hl.1 rfl (Nat.le_of_ble_eq_true rfl) hf dL_law_2415 (fun H locs hw => ?_)
  refine lv_iload hx hb dL_law_2418 (lv_at hl 0 rfl) ?_
  refine lv_icmp_eq (tgt := 2425) hx hb dL_law_2420 (by decide) (fun _ => ?_) (fun z => absurd e2 z)
  refine lv_goto (tgt := 2453) hx hb dL_law_2425 (by decide) ?_
  exact kk σ' P T' g' h' al fo' H locs ls k1 k4 k5 k3 hw (lv_sub hl [1, 2, 3, 4, 5] rfl)

set_option maxHeartbeats 4000000 in
set_option maxRecDepth 100000 in
theorem lc_41 {p : Program} {l : Launch} {e : Env} {s : State} {m : MethodId} {args : Array Value} {below : List Frame} {meth : Method} {c : Code} {H : Heap} {locs : List Loc} {cells slots : Nat} {Q : State → Prop} {D : va_G} {cs : Nat → ClassId} {ad ad' al adK adV : Nat → Nat} {A : Nat → Prop} {b L aO T : Nat} {xs : Nat → Int32} {x4 : Int32} {σ : AS} {P : PL} {g : MS} {h : CS} {fo : Nat → Int64} {ls : Array Slot} (C : MCx p s m args meth c A RL cL_law 8 (some .boolean) D cs) (hL : LC l s args adK adV A) (hX : LX s A b L xs) (hin : Hin x4 L) (hs : wfS σ) (hM : MI σ g) (hC : CI σ P T h) (hT : T + 31 < 2 ^ 31) (hw : MH D (SW cs ad al P h ++ outC cs aO fo :: MW cs ad' g) A s H locs) (hl : lv_has ls 8 (lvL b (ad 0) (ad' 48) aO x4)) (hf : cells + 131 ≤ room_1.cells ∧ slots + 1006 ≤ room_1.slots) (kk : Nx p l e s m args below meth c D cs A ad ad' b aO x4 T cells slots Q) : W p l e room_1 s m args below meth c H locs cells slots Q (F0 m 2428 ls []) := by
  have hx := C.1
  have hb := C.2.1
  have hst := hL.2.2.2.1
  obtain ⟨σ', T', g', h', r, k1, k2, k3, k4, k5, e1, e0, e2⟩ := st_count hs hM hC (xs (x4 + 1).toNatClampNeg)
  have hf0 : cells ≤ room_1.cells ∧ slots ≤ room_1.slots := ⟨Nat.le_trans (Nat.le_add_right _ _) hf.1, Nat.le_trans (Nat.le_add_right _ _) hf.2⟩
  refine lv_aload_n hx hb dL_law_2428 rfl (lv_at hl 1 rfl) ?_
  refine s_ld 0 4 C hX hw hl rfl rfl dL_law_2429 dL_law_2430 dL_law_2432 dL_law_2433 dL_law_2434 (by decide) hin.1 ?_
  refine f_callV (r := some (.int r)) (rest := []) (W2 := outC cs aO fo :: MW cs ad' g) [.int (xs (x4 + 1).toNatClampNeg)] C hw cv_L_270 (qX11_count e2) rfl ⟨rfl, rfl⟩ ⟨Nat.le_of_ble_eq_true rfl, Nat.le_of_ble_eq_true rfl⟩ (rv_law (q0 := 0) (ci := 10) (q := (RX11, TX11, 13)) C hw rfl (SW_fix rfl)) hl.1 rfl (Nat.le_of_ble_eq_true rfl) hf0 dL_law_2435 (fun H locs hw => ?_)
  refine lv_aload_n hx hb dL_law_2438 rfl (lv_at hl 2 rfl) ?_
  refine s_ld 0 4 C hX hw hl rfl rfl dL_law_2439 dL_law_2440 dL_law_2442 dL_law_2443 dL_law_2444 (by decide) hin.1 ?_
  refine f_callM (r := some (.int r)) (rest := [.int r]) [.int (xs (x4 + 1).toNatClampNeg)] C hw cv_L_273 (qX12_count e1) rfl ⟨rfl, rfl⟩ ⟨Nat.le_of_ble_eq_true rfl, Nat.le_of_ble_eq_true rfl⟩ (rv_M C hw) hl.1 rfl (Nat.le_of_ble_eq_true rfl) hf0 dL_law_2445 (fun H locs hw => ?_)
  refine lv_icmp_eq (tgt := 2453) hx hb dL_law_2448 (by decide) (fun _ => ?_) (fun z => absurd rfl z)
  exact W.widen (Nat.le_add_right _ _) (Nat.le_add_right _ _) (kk σ' P T' g' h' al fo H locs ls k1 k4 k5 k3 hw hl)
