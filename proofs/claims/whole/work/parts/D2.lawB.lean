set_option maxHeartbeats 4000000 in
set_option maxRecDepth 100000 in
theorem lc_9 {p : Program} {l : Launch} {e : Env} {s : State} {m : MethodId} {args : Array Value} {below : List Frame} {meth : Method} {c : Code} {H : Heap} {locs : List Loc} {cells slots : Nat} {Q : State → Prop} {D : va_G} {cs : Nat → ClassId} {ad ad' al adK adV : Nat → Nat} {A : Nat → Prop} {b L aO T : Nat} {xs : Nat → Int32} {x4 : Int32} {σ : AS} {P : PL} {g : MS} {h : CS} {fo : Nat → Int64} {ls : Array Slot} (C : MCx p s m args meth c A RL cL_law 8 (some .boolean) D cs) (hL : LC l s args adK adV A) (hX : LX s A b L xs) (hin : Hin x4 L) (hs : wfS σ) (hM : MI σ g) (hC : CI σ P T h) (hT : T + 31 < 2 ^ 31) (hw : MH D (SW cs ad al P h ++ outC cs aO fo :: MW cs ad' g) A s H locs) (hl : lv_has ls 8 (lvL b (ad 0) (ad' 48) aO x4)) (hf : cells + 131 ≤ room_1.cells ∧ slots + 1006 ≤ room_1.slots) (kk : Nx p l e s m args below meth c D cs A ad ad' b aO x4 T cells slots Q) : W p l e room_1 s m args below meth c H locs cells slots Q (F0 m 645 ls []) := by
  have hx := C.1
  have hb := C.2.1
  have hst := hL.2.2.2.1
  obtain ⟨σ', T', g', h', r, k1, k2, k3, k4, k5, e1, e0, e2⟩ := st_stick hs hM hC hT (xs (x4 + 1).toNatClampNeg)
  have hf0 : cells ≤ room_1.cells ∧ slots ≤ room_1.slots := ⟨Nat.le_trans (Nat.le_add_right _ _) hf.1, Nat.le_trans (Nat.le_add_right _ _) hf.2⟩
  refine lv_aload_n hx hb dL_law_645 rfl (lv_at hl 1 rfl) ?_
  refine s_ld 0 4 C hX hw hl rfl rfl dL_law_646 dL_law_647 dL_law_649 dL_law_650 dL_law_651 (by decide) hin.1 ?_
  refine f_callV (r := some (.int r)) (rest := []) (W2 := outC cs aO fo :: MW cs ad' g) [.int (xs (x4 + 1).toNatClampNeg)] C hw cv_L_164 (qX11_stick e2) rfl ⟨rfl, rfl⟩ ⟨Nat.le_of_ble_eq_true rfl, Nat.le_of_ble_eq_true rfl⟩ (rv_law (q0 := 0) (ci := 10) (q := (RX11, TX11, 13)) C hw rfl (SW_fix rfl)) hl.1 rfl (Nat.le_of_ble_eq_true rfl) hf0 dL_law_652 (fun H locs hw => ?_)
  refine lv_aload_n hx hb dL_law_655 rfl (lv_at hl 2 rfl) ?_
  refine s_ld 0 4 C hX hw hl rfl rfl dL_law_656 dL_law_657 dL_law_659 dL_law_660 dL_law_661 (by decide) hin.1 ?_
  refine f_callM (r := some (.int r)) (rest := [.int r]) [.int (xs (x4 + 1).toNatClampNeg)] C hw cv_L_167 (qX12_stick e1) rfl ⟨rfl, rfl⟩ ⟨Nat.le_of_ble_eq_true rfl, Nat.le_of_ble_eq_true rfl⟩ (rv_M C hw) hl.1 rfl (Nat.le_of_ble_eq_true rfl) hf0 dL_law_662 (fun H locs hw => ?_)
  refine lv_icmp_eq (tgt := 2453) hx hb dL_law_665 (by decide) (fun _ => ?_) (fun z => absurd rfl z)
  exact W.widen (Nat.le_add_right _ _) (Nat.le_add_right _ _) (kk σ' P T' g' h' al fo H locs ls k1 k4 k5 k3 hw hl)

set_option maxHeartbeats 4000000 in
set_option maxRecDepth 100000 in
theorem lc_10 {p : Program} {l : Launch} {e : Env} {s : State} {m : MethodId} {args : Array Value} {below : List Frame} {meth : Method} {c : Code} {H : Heap} {locs : List Loc} {cells slots : Nat} {Q : State → Prop} {D : va_G} {cs : Nat → ClassId} {ad ad' al adK adV : Nat → Nat} {A : Nat → Prop} {b L aO T : Nat} {xs : Nat → Int32} {x4 : Int32} {σ : AS} {P : PL} {g : MS} {h : CS} {fo : Nat → Int64} {ls : Array Slot} (C : MCx p s m args meth c A RL cL_law 8 (some .boolean) D cs) (hL : LC l s args adK adV A) (hX : LX s A b L xs) (hin : Hin x4 L) (hs : wfS σ) (hM : MI σ g) (hC : CI σ P T h) (hT : T + 31 < 2 ^ 31) (hw : MH D (SW cs ad al P h ++ outC cs aO fo :: MW cs ad' g) A s H locs) (hl : lv_has ls 8 (lvL b (ad 0) (ad' 48) aO x4)) (hf : cells + 131 ≤ room_1.cells ∧ slots + 1006 ≤ room_1.slots) (kk : Nx p l e s m args below meth c D cs A ad ad' b aO x4 T cells slots Q) : W p l e room_1 s m args below meth c H locs cells slots Q (F0 m 670 ls []) := by
  have hx := C.1
  have hb := C.2.1
  have hst := hL.2.2.2.1
  obtain ⟨σ', T', g', h', k1, k2, k3, k4, k5, ko⟩ := st_minutes hs hM hC hT (xs (x4 + 1).toNatClampNeg)
  obtain ⟨r, k, fo', e1, e2, e3, e4⟩ : ∃ (r : Int32) (k : Int32) (fo' : Nat → Int64), fX12_minutes g (xs (x4 + 1).toNatClampNeg) = some (r, g') ∧ g'.1 4 = k ∧ WOut l D cs adK adV yL_minutes cL_minutes 4 [(0, 9, 12, 13)] [.ref (ad 0), .int (xs (x4 + 1).toNatClampNeg), .ref aO] (SW cs ad al P h ++ outC cs aO fo :: MW cs ad' g) k (SW cs ad al P h' ++ outC cs aO fo' :: MW cs ad' g) ∧ (k = 0 → fo' 0 = r.toInt64) := by
    rcases ko with ⟨r, q1, q2, q3⟩ | ⟨r, e, w, q1, q0, q2, q3⟩
    · exact ⟨r, 0, _, q1, q2, ⟨_, 0, 0, nL_minutes hst q3, ⟨rfl, rfl⟩, by decide, by decide, by decide, by decide⟩, fun _ => rfl⟩
    · simp only [List.mem_cons, Prod.mk.injEq, List.not_mem_nil, or_false] at q0
      obtain ⟨rfl, rfl⟩ := q0
      exact ⟨r, 1, fo, q1, q2, ⟨_, 1, 6, xL_minutes_1 hst q3, ⟨rfl, rfl⟩, by decide, by decide, by decide, by decide⟩, fun z => absurd z (by decide)⟩
  refine lv_aload_n hx hb dL_law_670 rfl (lv_at hl 1 rfl) ?_
  refine s_ld 0 4 C hX hw hl rfl rfl dL_law_671 dL_law_672 dL_law_674 dL_law_675 dL_law_676 (by decide) hin.1 ?_
  refine lv_aload_n hx hb dL_law_677 rfl (lv_at hl 3 rfl) ?_
  refine w_callS (rest := []) [.ref (ad 0), .int (xs (x4 + 1).toNatClampNeg), .ref aO] C hL hw cw_L_168 e3 rfl (by decide) ⟨Nat.le_of_ble_eq_true rfl, Nat.le_of_ble_eq_true rfl⟩ hl.1 rfl (Nat.le_of_ble_eq_true rfl) hf dL_law_678 (fun H locs hw => ?_)
  refine lv_istore (lv' := [(5, .int k), (0, .ref b), (1, .ref (ad 0)), (2, .ref (ad' 48)), (3, .ref aO), (4, .int x4)]) hx hb dL_law_681 hl (by decide) rfl (fun ls hl => ?_)
  refine lv_aload_n hx hb dL_law_683 rfl (lv_at hl 3 rfl) ?_
  refine s_ld 1 5 C hX hw hl rfl rfl dL_law_684 dL_law_685 dL_law_687 dL_law_688 dL_law_689 (by decide) hin.1 ?_
  refine f_callM (r := some (.int r)) (rest := []) [.int (xs (x4 + 1).toNatClampNeg)] C hw cv_L_170 (qX12_minutes e1) rfl ⟨rfl, rfl⟩ ⟨Nat.le_of_ble_eq_true rfl, Nat.le_of_ble_eq_true rfl⟩ (rv_M C hw) hl.1 rfl (Nat.le_of_ble_eq_true rfl) hf dL_law_690 (fun H locs hw => ?_)
  refine lv_istore (lv' := [(6, .int r), (5, .int k), (0, .ref b), (1, .ref (ad 0)), (2, .ref (ad' 48)), (3, .ref aO), (4, .int x4)]) hx hb dL_law_693 hl (by decide) rfl (fun ls hl => ?_)
  refine lv_aload_n hx hb dL_law_695 rfl (lv_at hl 4 rfl) ?_
  refine f_callM (r := some (.int (g'.1 4))) (rest := []) [] C hw cv_L_134 (qX12_thrown rfl) rfl ⟨rfl, rfl⟩ ⟨Nat.le_of_ble_eq_true rfl, Nat.le_of_ble_eq_true rfl⟩ (rv_M C hw) hl.1 rfl (Nat.le_of_ble_eq_true rfl) hf dL_law_696 (fun H locs hw => ?_)
  refine lv_iload hx hb dL_law_699 (lv_at hl 1 rfl) ?_
  refine lv_icmp_eq (tgt := 706) hx hb dL_law_701 (by decide) (fun _ => ?_) (fun z => absurd e2 z)
  refine lv_iload hx hb dL_law_706 (lv_at hl 1 rfl) ?_
  refine lv_if_ne (tgt := 723) hx hb dL_law_708 (by decide) (fun _ => ?_) (fun z => ?_)
  · refine lv_goto (tgt := 2453) hx hb dL_law_723 (by decide) ?_
    exact kk σ' P T' g' h' al fo' H locs ls k1 k4 k5 k3 hw (lv_sub hl [2, 3, 4, 5, 6] rfl)
  · refine lv_aload_n hx hb dL_law_711 rfl (lv_at hl 5 rfl) ?_
    refine lv_iconst (v := (0 : Int32)) hx hb dL_law_712 (by decide) ?_
    refine o_load C hw dL_law_713 ?_
    refine lv_iload hx hb dL_law_714 (lv_at hl 0 rfl) ?_
    refine lv_i2l hx hb dL_law_716 rfl ?_
    refine W.lcmp hx hb dL_law_717 ?_
    refine lv_if_eq (tgt := 723) hx hb dL_law_718 (by decide) (fun _ => ?_) (fun y => absurd ((lg_cmp_eq _ _).mpr (e4 z)) y)
    refine lv_goto (tgt := 2453) hx hb dL_law_723 (by decide) ?_
    exact kk σ' P T' g' h' al fo' H locs ls k1 k4 k5 k3 hw (lv_sub hl [2, 3, 4, 5, 6] rfl)

set_option maxHeartbeats 4000000 in
set_option maxRecDepth 100000 in
theorem lc_11 {p : Program} {l : Launch} {e : Env} {s : State} {m : MethodId} {args : Array Value} {below : List Frame} {meth : Method} {c : Code} {H : Heap} {locs : List Loc} {cells slots : Nat} {Q : State → Prop} {D : va_G} {cs : Nat → ClassId} {ad ad' al adK adV : Nat → Nat} {A : Nat → Prop} {b L aO T : Nat} {xs : Nat → Int32} {x4 : Int32} {σ : AS} {P : PL} {g : MS} {h : CS} {fo : Nat → Int64} {ls : Array Slot} (C : MCx p s m args meth c A RL cL_law 8 (some .boolean) D cs) (hL : LC l s args adK adV A) (hX : LX s A b L xs) (hin : Hin x4 L) (hs : wfS σ) (hM : MI σ g) (hC : CI σ P T h) (hT : T + 31 < 2 ^ 31) (hw : MH D (SW cs ad al P h ++ outC cs aO fo :: MW cs ad' g) A s H locs) (hl : lv_has ls 8 (lvL b (ad 0) (ad' 48) aO x4)) (hf : cells + 131 ≤ room_1.cells ∧ slots + 1006 ≤ room_1.slots) (kk : Nx p l e s m args below meth c D cs A ad ad' b aO x4 T cells slots Q) : W p l e room_1 s m args below meth c H locs cells slots Q (F0 m 726 ls []) := by
  have hx := C.1
  have hb := C.2.1
  have hst := hL.2.2.2.1
  obtain ⟨σ', T', g', h', k1, k2, k3, k4, k5, ko⟩ := st_undo hs hM hC hT (xs (x4 + 1).toNatClampNeg)
  obtain ⟨r, k, fo', e1, e2, e3, e4⟩ : ∃ (r : Int32) (k : Int32) (fo' : Nat → Int64), fX12_undo g (xs (x4 + 1).toNatClampNeg) = some (r, g') ∧ g'.1 4 = k ∧ WOut l D cs adK adV yL_undo cL_undo 4 [(0, 9, 12, 13)] [.ref (ad 0), .int (xs (x4 + 1).toNatClampNeg), .ref aO] (SW cs ad al P h ++ outC cs aO fo :: MW cs ad' g) k (SW cs ad al P h' ++ outC cs aO fo' :: MW cs ad' g) ∧ (k = 0 → fo' 0 = r.toInt64) := by
    rcases ko with ⟨r, q1, q2, q3⟩ | ⟨r, e, w, q1, q0, q2, q3⟩
    · exact ⟨r, 0, _, q1, q2, ⟨_, 0, 0, nL_undo hst q3, ⟨rfl, rfl⟩, by decide, by decide, by decide, by decide⟩, fun _ => rfl⟩
    · simp only [List.mem_cons, Prod.mk.injEq, List.not_mem_nil, or_false] at q0
      obtain ⟨rfl, rfl⟩ := q0
      exact ⟨r, 1, fo, q1, q2, ⟨_, 1, 6, xL_undo_1 hst q3, ⟨rfl, rfl⟩, by decide, by decide, by decide, by decide⟩, fun z => absurd z (by decide)⟩
  refine lv_aload_n hx hb dL_law_726 rfl (lv_at hl 1 rfl) ?_
  refine s_ld 0 4 C hX hw hl rfl rfl dL_law_727 dL_law_728 dL_law_730 dL_law_731 dL_law_732 (by decide) hin.1 ?_
  refine lv_aload_n hx hb dL_law_733 rfl (lv_at hl 3 rfl) ?_
  refine w_callS (rest := []) [.ref (ad 0), .int (xs (x4 + 1).toNatClampNeg), .ref aO] C hL hw cw_L_171 e3 rfl (by decide) ⟨Nat.le_of_ble_eq_true rfl, Nat.le_of_ble_eq_true rfl⟩ hl.1 rfl (Nat.le_of_ble_eq_true rfl) hf dL_law_734 (fun H locs hw => ?_)
  refine lv_istore (lv' := [(5, .int k), (0, .ref b), (1, .ref (ad 0)), (2, .ref (ad' 48)), (3, .ref aO), (4, .int x4)]) hx hb dL_law_737 hl (by decide) rfl (fun ls hl => ?_)
  refine lv_aload_n hx hb dL_law_739 rfl (lv_at hl 3 rfl) ?_
  refine s_ld 1 5 C hX hw hl rfl rfl dL_law_740 dL_law_741 dL_law_743 dL_law_744 dL_law_745 (by decide) hin.1 ?_
  refine f_callM (r := some (.int r)) (rest := []) [.int (xs (x4 + 1).toNatClampNeg)] C hw cv_L_173 (qX12_undo e1) rfl ⟨rfl, rfl⟩ ⟨Nat.le_of_ble_eq_true rfl, Nat.le_of_ble_eq_true rfl⟩ (rv_M C hw) hl.1 rfl (Nat.le_of_ble_eq_true rfl) hf dL_law_746 (fun H locs hw => ?_)
  refine lv_istore (lv' := [(6, .int r), (5, .int k), (0, .ref b), (1, .ref (ad 0)), (2, .ref (ad' 48)), (3, .ref aO), (4, .int x4)]) hx hb dL_law_749 hl (by decide) rfl (fun ls hl => ?_)
  refine lv_aload_n hx hb dL_law_751 rfl (lv_at hl 4 rfl) ?_
  refine f_callM (r := some (.int (g'.1 4))) (rest := []) [] C hw cv_L_134 (qX12_thrown rfl) rfl ⟨rfl, rfl⟩ ⟨Nat.le_of_ble_eq_true rfl, Nat.le_of_ble_eq_true rfl⟩ (rv_M C hw) hl.1 rfl (Nat.le_of_ble_eq_true rfl) hf dL_law_752 (fun H locs hw => ?_)
  refine lv_iload hx hb dL_law_755 (lv_at hl 1 rfl) ?_
  refine lv_icmp_eq (tgt := 762) hx hb dL_law_757 (by decide) (fun _ => ?_) (fun z => absurd e2 z)
  refine lv_iload hx hb dL_law_762 (lv_at hl 1 rfl) ?_
  refine lv_if_ne (tgt := 779) hx hb dL_law_764 (by decide) (fun _ => ?_) (fun z => ?_)
  · refine lv_goto (tgt := 2453) hx hb dL_law_779 (by decide) ?_
    exact kk σ' P T' g' h' al fo' H locs ls k1 k4 k5 k3 hw (lv_sub hl [2, 3, 4, 5, 6] rfl)
  · refine lv_aload_n hx hb dL_law_767 rfl (lv_at hl 5 rfl) ?_
    refine lv_iconst (v := (0 : Int32)) hx hb dL_law_768 (by decide) ?_
    refine o_load C hw dL_law_769 ?_
    refine lv_iload hx hb dL_law_770 (lv_at hl 0 rfl) ?_
    refine lv_i2l hx hb dL_law_772 rfl ?_
    refine W.lcmp hx hb dL_law_773 ?_
    refine lv_if_eq (tgt := 779) hx hb dL_law_774 (by decide) (fun _ => ?_) (fun y => absurd ((lg_cmp_eq _ _).mpr (e4 z)) y)
    refine lv_goto (tgt := 2453) hx hb dL_law_779 (by decide) ?_
    exact kk σ' P T' g' h' al fo' H locs ls k1 k4 k5 k3 hw (lv_sub hl [2, 3, 4, 5, 6] rfl)

set_option maxHeartbeats 4000000 in
set_option maxRecDepth 100000 in
theorem lc_12 {p : Program} {l : Launch} {e : Env} {s : State} {m : MethodId} {args : Array Value} {below : List Frame} {meth : Method} {c : Code} {H : Heap} {locs : List Loc} {cells slots : Nat} {Q : State → Prop} {D : va_G} {cs : Nat → ClassId} {ad ad' al adK adV : Nat → Nat} {A : Nat → Prop} {b L aO T : Nat} {xs : Nat → Int32} {x4 : Int32} {σ : AS} {P : PL} {g : MS} {h : CS} {fo : Nat → Int64} {ls : Array Slot} (C : MCx p s m args meth c A RL cL_law 8 (some .boolean) D cs) (hL : LC l s args adK adV A) (hX : LX s A b L xs) (hin : Hin x4 L) (hs : wfS σ) (hM : MI σ g) (hC : CI σ P T h) (hT : T + 31 < 2 ^ 31) (hw : MH D (SW cs ad al P h ++ outC cs aO fo :: MW cs ad' g) A s H locs) (hl : lv_has ls 8 (lvL b (ad 0) (ad' 48) aO x4)) (hf : cells + 131 ≤ room_1.cells ∧ slots + 1006 ≤ room_1.slots) (kk : Nx p l e s m args below meth c D cs A ad ad' b aO x4 T cells slots Q) : W p l e room_1 s m args below meth c H locs cells slots Q (F0 m 782 ls []) := by
  have hx := C.1
  have hb := C.2.1
  have hst := hL.2.2.2.1
  obtain ⟨σ', T', g', h', k1, k2, k3, k4, k5, ko⟩ := st_judge hs hM hC (xs (x4 + 1).toNatClampNeg) (xs (x4 + 2).toNatClampNeg)
  obtain ⟨r, k, fo', e1, e2, e3, e4⟩ : ∃ (r : Int32) (k : Int32) (fo' : Nat → Int64), fX12_judge g (xs (x4 + 1).toNatClampNeg) (xs (x4 + 2).toNatClampNeg) = some (r, g') ∧ g'.1 4 = k ∧ WOut l D cs adK adV yL_judge cL_judge 5 [(0, 10, 13, 19), (0, 10, 17, 36), (0, 10, 21, 13)] [.ref (ad 0), .int (xs (x4 + 1).toNatClampNeg), .int (xs (x4 + 2).toNatClampNeg), .ref aO] (SW cs ad al P h ++ outC cs aO fo :: MW cs ad' g) k (SW cs ad al P h' ++ outC cs aO fo' :: MW cs ad' g) ∧ (k = 0 → fo' 0 = r.toInt64) := by
    rcases ko with ⟨r, q1, q2, q3⟩ | ⟨r, e, w, q1, q0, q2, q3⟩
    · exact ⟨r, 0, _, q1, q2, ⟨_, 0, 0, nL_judge hst q3, ⟨rfl, rfl⟩, by decide, by decide, by decide, by decide⟩, fun _ => rfl⟩
    · simp only [List.mem_cons, Prod.mk.injEq, List.not_mem_nil, or_false] at q0
      rcases q0 with ⟨rfl, rfl⟩ | ⟨rfl, rfl⟩ | ⟨rfl, rfl⟩
      · exact ⟨r, 1, fo, q1, q2, ⟨_, 1, 6, xL_judge_2 hst q3, ⟨rfl, rfl⟩, by decide, by decide, by decide, by decide⟩, fun z => absurd z (by decide)⟩
      · exact ⟨r, 2, fo, q1, q2, ⟨_, 1, 6, xL_judge_3 hst q3, ⟨rfl, rfl⟩, by decide, by decide, by decide, by decide⟩, fun z => absurd z (by decide)⟩
      · exact ⟨r, 3, fo, q1, q2, ⟨_, 1, 6, xL_judge_1 hst q3, ⟨rfl, rfl⟩, by decide, by decide, by decide, by decide⟩, fun z => absurd z (by decide)⟩
  refine lv_aload_n hx hb dL_law_782 rfl (lv_at hl 1 rfl) ?_
  refine s_ld 0 4 C hX hw hl rfl rfl dL_law_783 dL_law_784 dL_law_786 dL_law_787 dL_law_788 (by decide) hin.1 ?_
  refine s_ld 0 4 C hX hw hl rfl rfl dL_law_789 dL_law_790 dL_law_792 dL_law_793 dL_law_794 (by decide) hin.2.1 ?_
  refine lv_aload_n hx hb dL_law_795 rfl (lv_at hl 3 rfl) ?_
  refine w_callS (rest := []) [.ref (ad 0), .int (xs (x4 + 1).toNatClampNeg), .int (xs (x4 + 2).toNatClampNeg), .ref aO] C hL hw cw_L_174 e3 rfl (by decide) ⟨Nat.le_of_ble_eq_true rfl, Nat.le_of_ble_eq_true rfl⟩ hl.1 rfl (Nat.le_of_ble_eq_true rfl) hf dL_law_796 (fun H locs hw => ?_)
  refine lv_istore (lv' := [(5, .int k), (0, .ref b), (1, .ref (ad 0)), (2, .ref (ad' 48)), (3, .ref aO), (4, .int x4)]) hx hb dL_law_799 hl (by decide) rfl (fun ls hl => ?_)
  refine lv_aload_n hx hb dL_law_801 rfl (lv_at hl 3 rfl) ?_
  refine s_ld 1 5 C hX hw hl rfl rfl dL_law_802 dL_law_803 dL_law_805 dL_law_806 dL_law_807 (by decide) hin.1 ?_
  refine s_ld 1 5 C hX hw hl rfl rfl dL_law_808 dL_law_809 dL_law_811 dL_law_812 dL_law_813 (by decide) hin.2.1 ?_
  refine f_callM (r := some (.int r)) (rest := []) [.int (xs (x4 + 1).toNatClampNeg), .int (xs (x4 + 2).toNatClampNeg)] C hw cv_L_176 (qX12_judge e1) rfl ⟨rfl, rfl⟩ ⟨Nat.le_of_ble_eq_true rfl, Nat.le_of_ble_eq_true rfl⟩ (rv_M C hw) hl.1 rfl (Nat.le_of_ble_eq_true rfl) hf dL_law_814 (fun H locs hw => ?_)
  refine lv_istore (lv' := [(6, .int r), (5, .int k), (0, .ref b), (1, .ref (ad 0)), (2, .ref (ad' 48)), (3, .ref aO), (4, .int x4)]) hx hb dL_law_817 hl (by decide) rfl (fun ls hl => ?_)
  refine lv_aload_n hx hb dL_law_819 rfl (lv_at hl 4 rfl) ?_
  refine f_callM (r := some (.int (g'.1 4))) (rest := []) [] C hw cv_L_134 (qX12_thrown rfl) rfl ⟨rfl, rfl⟩ ⟨Nat.le_of_ble_eq_true rfl, Nat.le_of_ble_eq_true rfl⟩ (rv_M C hw) hl.1 rfl (Nat.le_of_ble_eq_true rfl) hf dL_law_820 (fun H locs hw => ?_)
  refine lv_iload hx hb dL_law_823 (lv_at hl 1 rfl) ?_
  refine lv_icmp_eq (tgt := 830) hx hb dL_law_825 (by decide) (fun _ => ?_) (fun z => absurd e2 z)
  refine lv_iload hx hb dL_law_830 (lv_at hl 1 rfl) ?_
  refine lv_if_ne (tgt := 847) hx hb dL_law_832 (by decide) (fun _ => ?_) (fun z => ?_)
  · refine lv_goto (tgt := 2453) hx hb dL_law_847 (by decide) ?_
    exact kk σ' P T' g' h' al fo' H locs ls k1 k4 k5 k3 hw (lv_sub hl [2, 3, 4, 5, 6] rfl)
  · refine lv_aload_n hx hb dL_law_835 rfl (lv_at hl 5 rfl) ?_
    refine lv_iconst (v := (0 : Int32)) hx hb dL_law_836 (by decide) ?_
    refine o_load C hw dL_law_837 ?_
    refine lv_iload hx hb dL_law_838 (lv_at hl 0 rfl) ?_
    refine lv_i2l hx hb dL_law_840 rfl ?_
    refine W.lcmp hx hb dL_law_841 ?_
    refine lv_if_eq (tgt := 847) hx hb dL_law_842 (by decide) (fun _ => ?_) (fun y => absurd ((lg_cmp_eq _ _).mpr (e4 z)) y)
    refine lv_goto (tgt := 2453) hx hb dL_law_847 (by decide) ?_
    exact kk σ' P T' g' h' al fo' H locs ls k1 k4 k5 k3 hw (lv_sub hl [2, 3, 4, 5, 6] rfl)

set_option maxHeartbeats 4000000 in
set_option maxRecDepth 100000 in
theorem lc_13 {p : Program} {l : Launch} {e : Env} {s : State} {m : MethodId} {args : Array Value} {below : List Frame} {meth : Method} {c : Code} {H : Heap} {locs : List Loc} {cells slots : Nat} {Q : State → Prop} {D : va_G} {cs : Nat → ClassId} {ad ad' al adK adV : Nat → Nat} {A : Nat → Prop} {b L aO T : Nat} {xs : Nat → Int32} {x4 : Int32} {σ : AS} {P : PL} {g : MS} {h : CS} {fo : Nat → Int64} {ls : Array Slot} (C : MCx p s m args meth c A RL cL_law 8 (some .boolean) D cs) (hL : LC l s args adK adV A) (hX : LX s A b L xs) (hin : Hin x4 L) (hs : wfS σ) (hM : MI σ g) (hC : CI σ P T h) (hT : T + 31 < 2 ^ 31) (hw : MH D (SW cs ad al P h ++ outC cs aO fo :: MW cs ad' g) A s H locs) (hl : lv_has ls 8 (lvL b (ad 0) (ad' 48) aO x4)) (hf : cells + 131 ≤ room_1.cells ∧ slots + 1006 ≤ room_1.slots) (kk : Nx p l e s m args below meth c D cs A ad ad' b aO x4 T cells slots Q) : W p l e room_1 s m args below meth c H locs cells slots Q (F0 m 850 ls []) := by
  have hx := C.1
  have hb := C.2.1
  have hst := hL.2.2.2.1
  obtain ⟨σ', T', g', h', k1, k2, k3, k4, k5, ko⟩ := st_perform hs hM hC hT (xs (x4 + 1).toNatClampNeg)
  obtain ⟨r, k, fo', e1, e2, e3, e4⟩ : ∃ (r : Int32) (k : Int32) (fo' : Nat → Int64), fX12_perform g (xs (x4 + 1).toNatClampNeg) = some (r, g') ∧ g'.1 4 = k ∧ WOut l D cs adK adV yL_perform cL_perform 4 [(0, 9, 12, 19), (0, 9, 15, 36)] [.ref (ad 0), .int (xs (x4 + 1).toNatClampNeg), .ref aO] (SW cs ad al P h ++ outC cs aO fo :: MW cs ad' g) k (SW cs ad al P h' ++ outC cs aO fo' :: MW cs ad' g) ∧ (k = 0 → fo' 0 = r.toInt64) := by
    rcases ko with ⟨r, q1, q2, q3⟩ | ⟨r, e, w, q1, q0, q2, q3⟩
    · exact ⟨r, 0, _, q1, q2, ⟨_, 0, 0, nL_perform hst q3, ⟨rfl, rfl⟩, by decide, by decide, by decide, by decide⟩, fun _ => rfl⟩
    · simp only [List.mem_cons, Prod.mk.injEq, List.not_mem_nil, or_false] at q0
      rcases q0 with ⟨rfl, rfl⟩ | ⟨rfl, rfl⟩
      · exact ⟨r, 1, fo, q1, q2, ⟨_, 1, 6, xL_perform_2 hst q3, ⟨rfl, rfl⟩, by decide, by decide, by decide, by decide⟩, fun z => absurd z (by decide)⟩
      · exact ⟨r, 2, fo, q1, q2, ⟨_, 1, 6, xL_perform_3 hst q3, ⟨rfl, rfl⟩, by decide, by decide, by decide, by decide⟩, fun z => absurd z (by decide)⟩
  refine lv_aload_n hx hb dL_law_850 rfl (lv_at hl 1 rfl) ?_
  refine s_ld 0 4 C hX hw hl rfl rfl dL_law_851 dL_law_852 dL_law_854 dL_law_855 dL_law_856 (by decide) hin.1 ?_
  refine lv_aload_n hx hb dL_law_857 rfl (lv_at hl 3 rfl) ?_
  refine w_callS (rest := []) [.ref (ad 0), .int (xs (x4 + 1).toNatClampNeg), .ref aO] C hL hw cw_L_177 e3 rfl (by decide) ⟨Nat.le_of_ble_eq_true rfl, Nat.le_of_ble_eq_true rfl⟩ hl.1 rfl (Nat.le_of_ble_eq_true rfl) hf dL_law_858 (fun H locs hw => ?_)
  refine lv_istore (lv' := [(5, .int k), (0, .ref b), (1, .ref (ad 0)), (2, .ref (ad' 48)), (3, .ref aO), (4, .int x4)]) hx hb dL_law_861 hl (by decide) rfl (fun ls hl => ?_)
  refine lv_aload_n hx hb dL_law_863 rfl (lv_at hl 3 rfl) ?_
  refine s_ld 1 5 C hX hw hl rfl rfl dL_law_864 dL_law_865 dL_law_867 dL_law_868 dL_law_869 (by decide) hin.1 ?_
  refine f_callM (r := some (.int r)) (rest := []) [.int (xs (x4 + 1).toNatClampNeg)] C hw cv_L_179 (qX12_perform e1) rfl ⟨rfl, rfl⟩ ⟨Nat.le_of_ble_eq_true rfl, Nat.le_of_ble_eq_true rfl⟩ (rv_M C hw) hl.1 rfl (Nat.le_of_ble_eq_true rfl) hf dL_law_870 (fun H locs hw => ?_)
  refine lv_istore (lv' := [(6, .int r), (5, .int k), (0, .ref b), (1, .ref (ad 0)), (2, .ref (ad' 48)), (3, .ref aO), (4, .int x4)]) hx hb dL_law_873 hl (by decide) rfl (fun ls hl => ?_)
  refine lv_aload_n hx hb dL_law_875 rfl (lv_at hl 4 rfl) ?_
  refine f_callM (r := some (.int (g'.1 4))) (rest := []) [] C hw cv_L_134 (qX12_thrown rfl) rfl ⟨rfl, rfl⟩ ⟨Nat.le_of_ble_eq_true rfl, Nat.le_of_ble_eq_true rfl⟩ (rv_M C hw) hl.1 rfl (Nat.le_of_ble_eq_true rfl) hf dL_law_876 (fun H locs hw => ?_)
  refine lv_iload hx hb dL_law_879 (lv_at hl 1 rfl) ?_
  refine lv_icmp_eq (tgt := 886) hx hb dL_law_881 (by decide) (fun _ => ?_) (fun z => absurd e2 z)
  refine lv_iload hx hb dL_law_886 (lv_at hl 1 rfl) ?_
  refine lv_if_ne (tgt := 903) hx hb dL_law_888 (by decide) (fun _ => ?_) (fun z => ?_)
  · refine lv_goto (tgt := 2453) hx hb dL_law_903 (by decide) ?_
    exact kk σ' P T' g' h' al fo' H locs ls k1 k4 k5 k3 hw (lv_sub hl [2, 3, 4, 5, 6] rfl)
  · refine lv_aload_n hx hb dL_law_891 rfl (lv_at hl 5 rfl) ?_
    refine lv_iconst (v := (0 : Int32)) hx hb dL_law_892 (by decide) ?_
    refine o_load C hw dL_law_893 ?_
    refine lv_iload hx hb dL_law_894 (lv_at hl 0 rfl) ?_
    refine lv_i2l hx hb dL_law_896 rfl ?_
    refine W.lcmp hx hb dL_law_897 ?_
    refine lv_if_eq (tgt := 903) hx hb dL_law_898 (by decide) (fun _ => ?_) (fun y => absurd ((lg_cmp_eq _ _).mpr (e4 z)) y)
    refine lv_goto (tgt := 2453) hx hb dL_law_903 (by decide) ?_
    exact kk σ' P T' g' h' al fo' H locs ls k1 k4 k5 k3 hw (lv_sub hl [2, 3, 4, 5, 6] rfl)

set_option maxHeartbeats 4000000 in
set_option maxRecDepth 100000 in
theorem lc_14 {p : Program} {l : Launch} {e : Env} {s : State} {m : MethodId} {args : Array Value} {below : List Frame} {meth : Method} {c : Code} {H : Heap} {locs : List Loc} {cells slots : Nat} {Q : State → Prop} {D : va_G} {cs : Nat → ClassId} {ad ad' al adK adV : Nat → Nat} {A : Nat → Prop} {b L aO T : Nat} {xs : Nat → Int32} {x4 : Int32} {σ : AS} {P : PL} {g : MS} {h : CS} {fo : Nat → Int64} {ls : Array Slot} (C : MCx p s m args meth c A RL cL_law 8 (some .boolean) D cs) (hL : LC l s args adK adV A) (hX : LX s A b L xs) (hin : Hin x4 L) (hs : wfS σ) (hM : MI σ g) (hC : CI σ P T h) (hT : T + 31 < 2 ^ 31) (hw : MH D (SW cs ad al P h ++ outC cs aO fo :: MW cs ad' g) A s H locs) (hl : lv_has ls 8 (lvL b (ad 0) (ad' 48) aO x4)) (hf : cells + 131 ≤ room_1.cells ∧ slots + 1006 ≤ room_1.slots) (kk : Nx p l e s m args below meth c D cs A ad ad' b aO x4 T cells slots Q) : W p l e room_1 s m args below meth c H locs cells slots Q (F0 m 906 ls []) := by
  have hx := C.1
  have hb := C.2.1
  have hst := hL.2.2.2.1
  obtain ⟨σ', T', g', h', k1, k2, k3, k4, k5, ko⟩ := st_session hs hM hC hT (xs (x4 + 1).toNatClampNeg) (xs (x4 + 2).toNatClampNeg)
  obtain ⟨r, k, fo', e1, e2, e3, e4⟩ : ∃ (r : Int32) (k : Int32) (fo' : Nat → Int64), fX12_session g (xs (x4 + 1).toNatClampNeg) (xs (x4 + 2).toNatClampNeg) = some (r, g') ∧ g'.1 4 = k ∧ WOut l D cs adK adV yL_session cL_session 5 [(0, 10, 13, 13)] [.ref (ad 0), .int (xs (x4 + 1).toNatClampNeg), .int (xs (x4 + 2).toNatClampNeg), .ref aO] (SW cs ad al P h ++ outC cs aO fo :: MW cs ad' g) k (SW cs ad al P h' ++ outC cs aO fo' :: MW cs ad' g) ∧ (k = 0 → fo' 0 = r.toInt64) := by
    rcases ko with ⟨r, q1, q2, q3⟩ | ⟨r, e, w, q1, q0, q2, q3⟩
    · exact ⟨r, 0, _, q1, q2, ⟨_, 0, 0, nL_session hst q3, ⟨rfl, rfl⟩, by decide, by decide, by decide, by decide⟩, fun _ => rfl⟩
    · simp only [List.mem_cons, Prod.mk.injEq, List.not_mem_nil, or_false] at q0
      obtain ⟨rfl, rfl⟩ := q0
      exact ⟨r, 1, fo, q1, q2, ⟨_, 1, 6, xL_session_1 hst q3, ⟨rfl, rfl⟩, by decide, by decide, by decide, by decide⟩, fun z => absurd z (by decide)⟩
  refine lv_aload_n hx hb dL_law_906 rfl (lv_at hl 1 rfl) ?_
  refine s_ld 0 4 C hX hw hl rfl rfl dL_law_907 dL_law_908 dL_law_910 dL_law_911 dL_law_912 (by decide) hin.1 ?_
  refine s_ld 0 4 C hX hw hl rfl rfl dL_law_913 dL_law_914 dL_law_916 dL_law_917 dL_law_918 (by decide) hin.2.1 ?_
  refine lv_aload_n hx hb dL_law_919 rfl (lv_at hl 3 rfl) ?_
  refine w_callS (rest := []) [.ref (ad 0), .int (xs (x4 + 1).toNatClampNeg), .int (xs (x4 + 2).toNatClampNeg), .ref aO] C hL hw cw_L_180 e3 rfl (by decide) ⟨Nat.le_of_ble_eq_true rfl, Nat.le_of_ble_eq_true rfl⟩ hl.1 rfl (Nat.le_of_ble_eq_true rfl) hf dL_law_920 (fun H locs hw => ?_)
  refine lv_istore (lv' := [(5, .int k), (0, .ref b), (1, .ref (ad 0)), (2, .ref (ad' 48)), (3, .ref aO), (4, .int x4)]) hx hb dL_law_923 hl (by decide) rfl (fun ls hl => ?_)
  refine lv_aload_n hx hb dL_law_925 rfl (lv_at hl 3 rfl) ?_
  refine s_ld 1 5 C hX hw hl rfl rfl dL_law_926 dL_law_927 dL_law_929 dL_law_930 dL_law_931 (by decide) hin.1 ?_
  refine s_ld 1 5 C hX hw hl rfl rfl dL_law_932 dL_law_933 dL_law_935 dL_law_936 dL_law_937 (by decide) hin.2.1 ?_
  refine f_callM (r := some (.int r)) (rest := []) [.int (xs (x4 + 1).toNatClampNeg), .int (xs (x4 + 2).toNatClampNeg)] C hw cv_L_182 (qX12_session e1) rfl ⟨rfl, rfl⟩ ⟨Nat.le_of_ble_eq_true rfl, Nat.le_of_ble_eq_true rfl⟩ (rv_M C hw) hl.1 rfl (Nat.le_of_ble_eq_true rfl) hf dL_law_938 (fun H locs hw => ?_)
  refine lv_istore (lv' := [(6, .int r), (5, .int k), (0, .ref b), (1, .ref (ad 0)), (2, .ref (ad' 48)), (3, .ref aO), (4, .int x4)]) hx hb dL_law_941 hl (by decide) rfl (fun ls hl => ?_)
  refine lv_aload_n hx hb dL_law_943 rfl (lv_at hl 4 rfl) ?_
  refine f_callM (r := some (.int (g'.1 4))) (rest := []) [] C hw cv_L_134 (qX12_thrown rfl) rfl ⟨rfl, rfl⟩ ⟨Nat.le_of_ble_eq_true rfl, Nat.le_of_ble_eq_true rfl⟩ (rv_M C hw) hl.1 rfl (Nat.le_of_ble_eq_true rfl) hf dL_law_944 (fun H locs hw => ?_)
  refine lv_iload hx hb dL_law_947 (lv_at hl 1 rfl) ?_
  refine lv_icmp_eq (tgt := 954) hx hb dL_law_949 (by decide) (fun _ => ?_) (fun z => absurd e2 z)
  refine lv_iload hx hb dL_law_954 (lv_at hl 1 rfl) ?_
  refine lv_if_ne (tgt := 971) hx hb dL_law_956 (by decide) (fun _ => ?_) (fun z => ?_)
  · refine lv_goto (tgt := 2453) hx hb dL_law_971 (by decide) ?_
    exact kk σ' P T' g' h' al fo' H locs ls k1 k4 k5 k3 hw (lv_sub hl [2, 3, 4, 5, 6] rfl)
  · refine lv_aload_n hx hb dL_law_959 rfl (lv_at hl 5 rfl) ?_
    refine lv_iconst (v := (0 : Int32)) hx hb dL_law_960 (by decide) ?_
    refine o_load C hw dL_law_961 ?_
    refine lv_iload hx hb dL_law_962 (lv_at hl 0 rfl) ?_
    refine lv_i2l hx hb dL_law_964 rfl ?_
    refine W.lcmp hx hb dL_law_965 ?_
    refine lv_if_eq (tgt := 971) hx hb dL_law_966 (by decide) (fun _ => ?_) (fun y => absurd ((lg_cmp_eq _ _).mpr (e4 z)) y)
    refine lv_goto (tgt := 2453) hx hb dL_law_971 (by decide) ?_
    exact kk σ' P T' g' h' al fo' H locs ls k1 k4 k5 k3 hw (lv_sub hl [2, 3, 4, 5, 6] rfl)

set_option maxHeartbeats 4000000 in
set_option maxRecDepth 100000 in
theorem lc_15 {p : Program} {l : Launch} {e : Env} {s : State} {m : MethodId} {args : Array Value} {below : List Frame} {meth : Method} {c : Code} {H : Heap} {locs : List Loc} {cells slots : Nat} {Q : State → Prop} {D : va_G} {cs : Nat → ClassId} {ad ad' al adK adV : Nat → Nat} {A : Nat → Prop} {b L aO T : Nat} {xs : Nat → Int32} {x4 : Int32} {σ : AS} {P : PL} {g : MS} {h : CS} {fo : Nat → Int64} {ls : Array Slot} (C : MCx p s m args meth c A RL cL_law 8 (some .boolean) D cs) (hL : LC l s args adK adV A) (hX : LX s A b L xs) (hin : Hin x4 L) (hs : wfS σ) (hM : MI σ g) (hC : CI σ P T h) (hT : T + 31 < 2 ^ 31) (hw : MH D (SW cs ad al P h ++ outC cs aO fo :: MW cs ad' g) A s H locs) (hl : lv_has ls 8 (lvL b (ad 0) (ad' 48) aO x4)) (hf : cells + 131 ≤ room_1.cells ∧ slots + 1006 ≤ room_1.slots) (kk : Nx p l e s m args below meth c D cs A ad ad' b aO x4 T cells slots Q) : W p l e room_1 s m args below meth c H locs cells slots Q (F0 m 974 ls []) := by
  have hx := C.1
  have hb := C.2.1
  have hst := hL.2.2.2.1
  obtain ⟨σ', T', g', h', k1, k2, k3, k4, k5, ko⟩ := st_cheapest hs hM hC (xs (x4 + 1).toNatClampNeg) (xs (x4 + 2).toNatClampNeg)
  obtain ⟨r, k, fo', e1, e2, e3, e4⟩ : ∃ (r : Int32) (k : Int32) (fo' : Nat → Int64), fX12_cheapest g (xs (x4 + 1).toNatClampNeg) (xs (x4 + 2).toNatClampNeg) = some (r, g') ∧ g'.1 4 = k ∧ WOut l D cs adK adV yL_cheapest cL_cheapest 5 [(0, 10, 13, 19), (0, 10, 17, 36), (0, 10, 21, 13)] [.ref (ad 0), .int (xs (x4 + 1).toNatClampNeg), .int (xs (x4 + 2).toNatClampNeg), .ref aO] (SW cs ad al P h ++ outC cs aO fo :: MW cs ad' g) k (SW cs ad al P h' ++ outC cs aO fo' :: MW cs ad' g) ∧ (k = 0 → fo' 0 = r.toInt64) := by
    rcases ko with ⟨r, q1, q2, q3⟩ | ⟨r, e, w, q1, q0, q2, q3⟩
    · exact ⟨r, 0, _, q1, q2, ⟨_, 0, 0, nL_cheapest hst q3, ⟨rfl, rfl⟩, by decide, by decide, by decide, by decide⟩, fun _ => rfl⟩
    · simp only [List.mem_cons, Prod.mk.injEq, List.not_mem_nil, or_false] at q0
      rcases q0 with ⟨rfl, rfl⟩ | ⟨rfl, rfl⟩ | ⟨rfl, rfl⟩
      · exact ⟨r, 1, fo, q1, q2, ⟨_, 1, 6, xL_cheapest_2 hst q3, ⟨rfl, rfl⟩, by decide, by decide, by decide, by decide⟩, fun z => absurd z (by decide)⟩
      · exact ⟨r, 2, fo, q1, q2, ⟨_, 1, 6, xL_cheapest_3 hst q3, ⟨rfl, rfl⟩, by decide, by decide, by decide, by decide⟩, fun z => absurd z (by decide)⟩
      · exact ⟨r, 3, fo, q1, q2, ⟨_, 1, 6, xL_cheapest_1 hst q3, ⟨rfl, rfl⟩, by decide, by decide, by decide, by decide⟩, fun z => absurd z (by decide)⟩
  refine lv_aload_n hx hb dL_law_974 rfl (lv_at hl 1 rfl) ?_
  refine s_ld 0 4 C hX hw hl rfl rfl dL_law_975 dL_law_976 dL_law_978 dL_law_979 dL_law_980 (by decide) hin.1 ?_
  refine s_ld 0 4 C hX hw hl rfl rfl dL_law_981 dL_law_982 dL_law_984 dL_law_985 dL_law_986 (by decide) hin.2.1 ?_
  refine lv_aload_n hx hb dL_law_987 rfl (lv_at hl 3 rfl) ?_
  refine w_callS (rest := []) [.ref (ad 0), .int (xs (x4 + 1).toNatClampNeg), .int (xs (x4 + 2).toNatClampNeg), .ref aO] C hL hw cw_L_183 e3 rfl (by decide) ⟨Nat.le_of_ble_eq_true rfl, Nat.le_of_ble_eq_true rfl⟩ hl.1 rfl (Nat.le_of_ble_eq_true rfl) hf dL_law_988 (fun H locs hw => ?_)
  refine lv_istore (lv' := [(5, .int k), (0, .ref b), (1, .ref (ad 0)), (2, .ref (ad' 48)), (3, .ref aO), (4, .int x4)]) hx hb dL_law_991 hl (by decide) rfl (fun ls hl => ?_)
  refine lv_aload_n hx hb dL_law_993 rfl (lv_at hl 3 rfl) ?_
  refine s_ld 1 5 C hX hw hl rfl rfl dL_law_994 dL_law_995 dL_law_997 dL_law_998 dL_law_999 (by decide) hin.1 ?_
  refine s_ld 1 5 C hX hw hl rfl rfl dL_law_1000 dL_law_1001 dL_law_1003 dL_law_1004 dL_law_1005 (by decide) hin.2.1 ?_
  refine f_callM (r := some (.int r)) (rest := []) [.int (xs (x4 + 1).toNatClampNeg), .int (xs (x4 + 2).toNatClampNeg)] C hw cv_L_185 (qX12_cheapest e1) rfl ⟨rfl, rfl⟩ ⟨Nat.le_of_ble_eq_true rfl, Nat.le_of_ble_eq_true rfl⟩ (rv_M C hw) hl.1 rfl (Nat.le_of_ble_eq_true rfl) hf dL_law_1006 (fun H locs hw => ?_)
  refine lv_istore (lv' := [(6, .int r), (5, .int k), (0, .ref b), (1, .ref (ad 0)), (2, .ref (ad' 48)), (3, .ref aO), (4, .int x4)]) hx hb dL_law_1009 hl (by decide) rfl (fun ls hl => ?_)
  refine lv_aload_n hx hb dL_law_1011 rfl (lv_at hl 4 rfl) ?_
  refine f_callM (r := some (.int (g'.1 4))) (rest := []) [] C hw cv_L_134 (qX12_thrown rfl) rfl ⟨rfl, rfl⟩ ⟨Nat.le_of_ble_eq_true rfl, Nat.le_of_ble_eq_true rfl⟩ (rv_M C hw) hl.1 rfl (Nat.le_of_ble_eq_true rfl) hf dL_law_1012 (fun H locs hw => ?_)
  refine lv_iload hx hb dL_law_1015 (lv_at hl 1 rfl) ?_
  refine lv_icmp_eq (tgt := 1022) hx hb dL_law_1017 (by decide) (fun _ => ?_) (fun z => absurd e2 z)
  refine lv_iload hx hb dL_law_1022 (lv_at hl 1 rfl) ?_
  refine lv_if_ne (tgt := 1039) hx hb dL_law_1024 (by decide) (fun _ => ?_) (fun z => ?_)
  · refine lv_goto (tgt := 2453) hx hb dL_law_1039 (by decide) ?_
    exact kk σ' P T' g' h' al fo' H locs ls k1 k4 k5 k3 hw (lv_sub hl [2, 3, 4, 5, 6] rfl)
  · refine lv_aload_n hx hb dL_law_1027 rfl (lv_at hl 5 rfl) ?_
    refine lv_iconst (v := (0 : Int32)) hx hb dL_law_1028 (by decide) ?_
    refine o_load C hw dL_law_1029 ?_
    refine lv_iload hx hb dL_law_1030 (lv_at hl 0 rfl) ?_
    refine lv_i2l hx hb dL_law_1032 rfl ?_
    refine W.lcmp hx hb dL_law_1033 ?_
    refine lv_if_eq (tgt := 1039) hx hb dL_law_1034 (by decide) (fun _ => ?_) (fun y => absurd ((lg_cmp_eq _ _).mpr (e4 z)) y)
    refine lv_goto (tgt := 2453) hx hb dL_law_1039 (by decide) ?_
    exact kk σ' P T' g' h' al fo' H locs ls k1 k4 k5 k3 hw (lv_sub hl [2, 3, 4, 5, 6] rfl)

set_option maxHeartbeats 4000000 in
set_option maxRecDepth 100000 in
theorem lc_16 {p : Program} {l : Launch} {e : Env} {s : State} {m : MethodId} {args : Array Value} {below : List Frame} {meth : Method} {c : Code} {H : Heap} {locs : List Loc} {cells slots : Nat} {Q : State → Prop} {D : va_G} {cs : Nat → ClassId} {ad ad' al adK adV : Nat → Nat} {A : Nat → Prop} {b L aO T : Nat} {xs : Nat → Int32} {x4 : Int32} {σ : AS} {P : PL} {g : MS} {h : CS} {fo : Nat → Int64} {ls : Array Slot} (C : MCx p s m args meth c A RL cL_law 8 (some .boolean) D cs) (hL : LC l s args adK adV A) (hX : LX s A b L xs) (hin : Hin x4 L) (hs : wfS σ) (hM : MI σ g) (hC : CI σ P T h) (hT : T + 31 < 2 ^ 31) (hw : MH D (SW cs ad al P h ++ outC cs aO fo :: MW cs ad' g) A s H locs) (hl : lv_has ls 8 (lvL b (ad 0) (ad' 48) aO x4)) (hf : cells + 131 ≤ room_1.cells ∧ slots + 1006 ≤ room_1.slots) (kk : Nx p l e s m args below meth c D cs A ad ad' b aO x4 T cells slots Q) : W p l e room_1 s m args below meth c H locs cells slots Q (F0 m 1042 ls []) := by
  have hx := C.1
  have hb := C.2.1
  have hst := hL.2.2.2.1
  obtain ⟨σ', T', g', h', k1, k2, k3, k4, k5, ko⟩ := st_ways hs hM hC (xs (x4 + 1).toNatClampNeg)
  obtain ⟨r, k, fo', e1, e2, e3, e4⟩ : ∃ (r : Int32) (k : Int32) (fo' : Nat → Int64), fX12_ways g (xs (x4 + 1).toNatClampNeg) = some (r, g') ∧ g'.1 4 = k ∧ WOut l D cs adK adV yL_ways cL_ways 4 [(0, 9, 12, 19), (0, 9, 15, 36), (0, 9, 18, 13)] [.ref (ad 0), .int (xs (x4 + 1).toNatClampNeg), .ref aO] (SW cs ad al P h ++ outC cs aO fo :: MW cs ad' g) k (SW cs ad al P h' ++ outC cs aO fo' :: MW cs ad' g) ∧ (k = 0 → fo' 0 = r.toInt64) := by
    rcases ko with ⟨r, q1, q2, q3⟩ | ⟨r, e, w, q1, q0, q2, q3⟩
    · exact ⟨r, 0, _, q1, q2, ⟨_, 0, 0, nL_ways hst q3, ⟨rfl, rfl⟩, by decide, by decide, by decide, by decide⟩, fun _ => rfl⟩
    · simp only [List.mem_cons, Prod.mk.injEq, List.not_mem_nil, or_false] at q0
      rcases q0 with ⟨rfl, rfl⟩ | ⟨rfl, rfl⟩ | ⟨rfl, rfl⟩
      · exact ⟨r, 1, fo, q1, q2, ⟨_, 1, 6, xL_ways_2 hst q3, ⟨rfl, rfl⟩, by decide, by decide, by decide, by decide⟩, fun z => absurd z (by decide)⟩
      · exact ⟨r, 2, fo, q1, q2, ⟨_, 1, 6, xL_ways_3 hst q3, ⟨rfl, rfl⟩, by decide, by decide, by decide, by decide⟩, fun z => absurd z (by decide)⟩
      · exact ⟨r, 3, fo, q1, q2, ⟨_, 1, 6, xL_ways_1 hst q3, ⟨rfl, rfl⟩, by decide, by decide, by decide, by decide⟩, fun z => absurd z (by decide)⟩
  refine lv_aload_n hx hb dL_law_1042 rfl (lv_at hl 1 rfl) ?_
  refine s_ld 0 4 C hX hw hl rfl rfl dL_law_1043 dL_law_1044 dL_law_1046 dL_law_1047 dL_law_1048 (by decide) hin.1 ?_
  refine lv_aload_n hx hb dL_law_1049 rfl (lv_at hl 3 rfl) ?_
  refine w_callS (rest := []) [.ref (ad 0), .int (xs (x4 + 1).toNatClampNeg), .ref aO] C hL hw cw_L_186 e3 rfl (by decide) ⟨Nat.le_of_ble_eq_true rfl, Nat.le_of_ble_eq_true rfl⟩ hl.1 rfl (Nat.le_of_ble_eq_true rfl) hf dL_law_1050 (fun H locs hw => ?_)
  refine lv_istore (lv' := [(5, .int k), (0, .ref b), (1, .ref (ad 0)), (2, .ref (ad' 48)), (3, .ref aO), (4, .int x4)]) hx hb dL_law_1053 hl (by decide) rfl (fun ls hl => ?_)
  refine lv_aload_n hx hb dL_law_1055 rfl (lv_at hl 3 rfl) ?_
  refine s_ld 1 5 C hX hw hl rfl rfl dL_law_1056 dL_law_1057 dL_law_1059 dL_law_1060 dL_law_1061 (by decide) hin.1 ?_
  refine f_callM (r := some (.int r)) (rest := []) [.int (xs (x4 + 1).toNatClampNeg)] C hw cv_L_188 (qX12_ways e1) rfl ⟨rfl, rfl⟩ ⟨Nat.le_of_ble_eq_true rfl, Nat.le_of_ble_eq_true rfl⟩ (rv_M C hw) hl.1 rfl (Nat.le_of_ble_eq_true rfl) hf dL_law_1062 (fun H locs hw => ?_)
  refine lv_istore (lv' := [(6, .int r), (5, .int k), (0, .ref b), (1, .ref (ad 0)), (2, .ref (ad' 48)), (3, .ref aO), (4, .int x4)]) hx hb dL_law_1065 hl (by decide) rfl (fun ls hl => ?_)
  refine lv_aload_n hx hb dL_law_1067 rfl (lv_at hl 4 rfl) ?_
  refine f_callM (r := some (.int (g'.1 4))) (rest := []) [] C hw cv_L_134 (qX12_thrown rfl) rfl ⟨rfl, rfl⟩ ⟨Nat.le_of_ble_eq_true rfl, Nat.le_of_ble_eq_true rfl⟩ (rv_M C hw) hl.1 rfl (Nat.le_of_ble_eq_true rfl) hf dL_law_1068 (fun H locs hw => ?_)
  refine lv_iload hx hb dL_law_1071 (lv_at hl 1 rfl) ?_
  refine lv_icmp_eq (tgt := 1078) hx hb dL_law_1073 (by decide) (fun _ => ?_) (fun z => absurd e2 z)
  refine lv_iload hx hb dL_law_1078 (lv_at hl 1 rfl) ?_
  refine lv_if_ne (tgt := 1095) hx hb dL_law_1080 (by decide) (fun _ => ?_) (fun z => ?_)
  · refine lv_goto (tgt := 2453) hx hb dL_law_1095 (by decide) ?_
    exact kk σ' P T' g' h' al fo' H locs ls k1 k4 k5 k3 hw (lv_sub hl [2, 3, 4, 5, 6] rfl)
  · refine lv_aload_n hx hb dL_law_1083 rfl (lv_at hl 5 rfl) ?_
    refine lv_iconst (v := (0 : Int32)) hx hb dL_law_1084 (by decide) ?_
    refine o_load C hw dL_law_1085 ?_
    refine lv_iload hx hb dL_law_1086 (lv_at hl 0 rfl) ?_
    refine lv_i2l hx hb dL_law_1088 rfl ?_
    refine W.lcmp hx hb dL_law_1089 ?_
    refine lv_if_eq (tgt := 1095) hx hb dL_law_1090 (by decide) (fun _ => ?_) (fun y => absurd ((lg_cmp_eq _ _).mpr (e4 z)) y)
    refine lv_goto (tgt := 2453) hx hb dL_law_1095 (by decide) ?_
    exact kk σ' P T' g' h' al fo' H locs ls k1 k4 k5 k3 hw (lv_sub hl [2, 3, 4, 5, 6] rfl)

set_option maxHeartbeats 4000000 in
set_option maxRecDepth 100000 in
theorem lc_17 {p : Program} {l : Launch} {e : Env} {s : State} {m : MethodId} {args : Array Value} {below : List Frame} {meth : Method} {c : Code} {H : Heap} {locs : List Loc} {cells slots : Nat} {Q : State → Prop} {D : va_G} {cs : Nat → ClassId} {ad ad' al adK adV : Nat → Nat} {A : Nat → Prop} {b L aO T : Nat} {xs : Nat → Int32} {x4 : Int32} {σ : AS} {P : PL} {g : MS} {h : CS} {fo : Nat → Int64} {ls : Array Slot} (C : MCx p s m args meth c A RL cL_law 8 (some .boolean) D cs) (hL : LC l s args adK adV A) (hX : LX s A b L xs) (hin : Hin x4 L) (hs : wfS σ) (hM : MI σ g) (hC : CI σ P T h) (hT : T + 31 < 2 ^ 31) (hw : MH D (SW cs ad al P h ++ outC cs aO fo :: MW cs ad' g) A s H locs) (hl : lv_has ls 8 (lvL b (ad 0) (ad' 48) aO x4)) (hf : cells + 131 ≤ room_1.cells ∧ slots + 1006 ≤ room_1.slots) (kk : Nx p l e s m args below meth c D cs A ad ad' b aO x4 T cells slots Q) : W p l e room_1 s m args below meth c H locs cells slots Q (F0 m 1098 ls []) := by
  have hx := C.1
  have hb := C.2.1
  have hst := hL.2.2.2.1
  obtain ⟨σ', T', g', h', k1, k2, k3, k4, k5, ko⟩ := st_throne hs hM hC (xs (x4 + 1).toNatClampNeg) (xs (x4 + 2).toNatClampNeg)
  obtain ⟨r, k, fo', e1, e2, e3, e4⟩ : ∃ (r : Int32) (k : Int32) (fo' : Nat → Int64), fX12_throne g (xs (x4 + 1).toNatClampNeg) (xs (x4 + 2).toNatClampNeg) = some (r, g') ∧ g'.1 4 = k ∧ WOut l D cs adK adV yL_throne cL_throne 5 [(0, 10, 13, 19), (0, 10, 17, 13)] [.ref (ad 0), .int (xs (x4 + 1).toNatClampNeg), .int (xs (x4 + 2).toNatClampNeg), .ref aO] (SW cs ad al P h ++ outC cs aO fo :: MW cs ad' g) k (SW cs ad al P h' ++ outC cs aO fo' :: MW cs ad' g) ∧ (k = 0 → fo' 0 = r.toInt64) := by
    rcases ko with ⟨r, q1, q2, q3⟩ | ⟨r, e, w, q1, q0, q2, q3⟩
    · exact ⟨r, 0, _, q1, q2, ⟨_, 0, 0, nL_throne hst q3, ⟨rfl, rfl⟩, by decide, by decide, by decide, by decide⟩, fun _ => rfl⟩
    · simp only [List.mem_cons, Prod.mk.injEq, List.not_mem_nil, or_false] at q0
      rcases q0 with ⟨rfl, rfl⟩ | ⟨rfl, rfl⟩
      · exact ⟨r, 1, fo, q1, q2, ⟨_, 1, 6, xL_throne_2 hst q3, ⟨rfl, rfl⟩, by decide, by decide, by decide, by decide⟩, fun z => absurd z (by decide)⟩
      · exact ⟨r, 2, fo, q1, q2, ⟨_, 1, 6, xL_throne_1 hst q3, ⟨rfl, rfl⟩, by decide, by decide, by decide, by decide⟩, fun z => absurd z (by decide)⟩
  refine lv_aload_n hx hb dL_law_1098 rfl (lv_at hl 1 rfl) ?_
  refine s_ld 0 4 C hX hw hl rfl rfl dL_law_1099 dL_law_1100 dL_law_1102 dL_law_1103 dL_law_1104 (by decide) hin.1 ?_
  refine s_ld 0 4 C hX hw hl rfl rfl dL_law_1105 dL_law_1106 dL_law_1108 dL_law_1109 dL_law_1110 (by decide) hin.2.1 ?_
  refine lv_aload_n hx hb dL_law_1111 rfl (lv_at hl 3 rfl) ?_
  refine w_callS (rest := []) [.ref (ad 0), .int (xs (x4 + 1).toNatClampNeg), .int (xs (x4 + 2).toNatClampNeg), .ref aO] C hL hw cw_L_189 e3 rfl (by decide) ⟨Nat.le_of_ble_eq_true rfl, Nat.le_of_ble_eq_true rfl⟩ hl.1 rfl (Nat.le_of_ble_eq_true rfl) hf dL_law_1112 (fun H locs hw => ?_)
  refine lv_istore (lv' := [(5, .int k), (0, .ref b), (1, .ref (ad 0)), (2, .ref (ad' 48)), (3, .ref aO), (4, .int x4)]) hx hb dL_law_1115 hl (by decide) rfl (fun ls hl => ?_)
  refine lv_aload_n hx hb dL_law_1117 rfl (lv_at hl 3 rfl) ?_
  refine s_ld 1 5 C hX hw hl rfl rfl dL_law_1118 dL_law_1119 dL_law_1121 dL_law_1122 dL_law_1123 (by decide) hin.1 ?_
  refine s_ld 1 5 C hX hw hl rfl rfl dL_law_1124 dL_law_1125 dL_law_1127 dL_law_1128 dL_law_1129 (by decide) hin.2.1 ?_
  refine f_callM (r := some (.int r)) (rest := []) [.int (xs (x4 + 1).toNatClampNeg), .int (xs (x4 + 2).toNatClampNeg)] C hw cv_L_191 (qX12_throne e1) rfl ⟨rfl, rfl⟩ ⟨Nat.le_of_ble_eq_true rfl, Nat.le_of_ble_eq_true rfl⟩ (rv_M C hw) hl.1 rfl (Nat.le_of_ble_eq_true rfl) hf dL_law_1130 (fun H locs hw => ?_)
  refine lv_istore (lv' := [(6, .int r), (5, .int k), (0, .ref b), (1, .ref (ad 0)), (2, .ref (ad' 48)), (3, .ref aO), (4, .int x4)]) hx hb dL_law_1133 hl (by decide) rfl (fun ls hl => ?_)
  refine lv_aload_n hx hb dL_law_1135 rfl (lv_at hl 4 rfl) ?_
  refine f_callM (r := some (.int (g'.1 4))) (rest := []) [] C hw cv_L_134 (qX12_thrown rfl) rfl ⟨rfl, rfl⟩ ⟨Nat.le_of_ble_eq_true rfl, Nat.le_of_ble_eq_true rfl⟩ (rv_M C hw) hl.1 rfl (Nat.le_of_ble_eq_true rfl) hf dL_law_1136 (fun H locs hw => ?_)
  refine lv_iload hx hb dL_law_1139 (lv_at hl 1 rfl) ?_
  refine lv_icmp_eq (tgt := 1146) hx hb dL_law_1141 (by decide) (fun _ => ?_) (fun z => absurd e2 z)
  refine lv_iload hx hb dL_law_1146 (lv_at hl 1 rfl) ?_
  refine lv_if_ne (tgt := 1163) hx hb dL_law_1148 (by decide) (fun _ => ?_) (fun z => ?_)
  · refine lv_goto (tgt := 2453) hx hb dL_law_1163 (by decide) ?_
    exact kk σ' P T' g' h' al fo' H locs ls k1 k4 k5 k3 hw (lv_sub hl [2, 3, 4, 5, 6] rfl)
  · refine lv_aload_n hx hb dL_law_1151 rfl (lv_at hl 5 rfl) ?_
    refine lv_iconst (v := (0 : Int32)) hx hb dL_law_1152 (by decide) ?_
    refine o_load C hw dL_law_1153 ?_
    refine lv_iload hx hb dL_law_1154 (lv_at hl 0 rfl) ?_
    refine lv_i2l hx hb dL_law_1156 rfl ?_
    refine W.lcmp hx hb dL_law_1157 ?_
    refine lv_if_eq (tgt := 1163) hx hb dL_law_1158 (by decide) (fun _ => ?_) (fun y => absurd ((lg_cmp_eq _ _).mpr (e4 z)) y)
    refine lv_goto (tgt := 2453) hx hb dL_law_1163 (by decide) ?_
    exact kk σ' P T' g' h' al fo' H locs ls k1 k4 k5 k3 hw (lv_sub hl [2, 3, 4, 5, 6] rfl)
