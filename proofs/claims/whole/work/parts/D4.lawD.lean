set_option maxHeartbeats 4000000 in
set_option maxRecDepth 100000 in
theorem lc_27 {p : Program} {l : Launch} {e : Env} {s : State} {m : MethodId} {args : Array Value} {below : List Frame} {meth : Method} {c : Code} {H : Heap} {locs : List Loc} {cells slots : Nat} {Q : State → Prop} {D : va_G} {cs : Nat → ClassId} {ad ad' al adK adV : Nat → Nat} {A : Nat → Prop} {b L aO T : Nat} {xs : Nat → Int32} {x4 : Int32} {σ : AS} {P : PL} {g : MS} {h : CS} {fo : Nat → Int64} {ls : Array Slot} (C : MCx p s m args meth c A RL cL_law 8 (some .boolean) D cs) (hL : LC l s args adK adV A) (hX : LX s A b L xs) (hin : Hin x4 L) (hs : wfS σ) (hM : MI σ g) (hC : CI σ P T h) (hT : T + 31 < 2 ^ 31) (hw : MH D (SW cs ad al P h ++ outC cs aO fo :: MW cs ad' g) A s H locs) (hl : lv_has ls 8 (lvL b (ad 0) (ad' 48) aO x4)) (hf : cells + 131 ≤ room_1.cells ∧ slots + 1006 ≤ room_1.slots) (kk : Nx p l e s m args below meth c D cs A ad ad' b aO x4 T cells slots Q) : W p l e room_1 s m args below meth c H locs cells slots Q (F0 m 1553 ls []) := by
  have hx := C.1
  have hb := C.2.1
  have hst := hL.2.2.2.1
  obtain ⟨σ', T', g', h', k1, k2, k3, k4, k5, ko⟩ := st_chairIn hs hM hC (xs (x4 + 1).toNatClampNeg)
  obtain ⟨r, k, fo', e1, e2, e3, e4⟩ : ∃ (r : Int32) (k : Int32) (fo' : Nat → Int64), fX12_chairIn g (xs (x4 + 1).toNatClampNeg) = some (r, g') ∧ g'.1 4 = k ∧ WOut l D cs adK adV yL_chairIn cL_chairIn 4 [(0, 9, 12, 13)] [.ref (ad 0), .int (xs (x4 + 1).toNatClampNeg), .ref aO] (SW cs ad al P h ++ outC cs aO fo :: MW cs ad' g) k (SW cs ad al P h' ++ outC cs aO fo' :: MW cs ad' g) ∧ (k = 0 → fo' 0 = r.toInt64) := by
    rcases ko with ⟨r, q1, q2, q3⟩ | ⟨r, e, w, q1, q0, q2, q3⟩
    · exact ⟨r, 0, _, q1, q2, ⟨_, 0, 0, nL_chairIn hst q3, ⟨rfl, rfl⟩, by decide, by decide, by decide, by decide⟩, fun _ => rfl⟩
    · simp only [List.mem_cons, Prod.mk.injEq, List.not_mem_nil, or_false] at q0
      obtain ⟨rfl, rfl⟩ := q0
      exact ⟨r, 1, fo, q1, q2, ⟨_, 1, 6, xL_chairIn_1 hst q3, ⟨rfl, rfl⟩, by decide, by decide, by decide, by decide⟩, fun z => absurd z (by decide)⟩
  refine lv_aload_n hx hb dL_law_1553 rfl (lv_at hl 1 rfl) ?_
  refine s_ld 0 4 C hX hw hl rfl rfl dL_law_1554 dL_law_1555 dL_law_1557 dL_law_1558 dL_law_1559 (by decide) hin.1 ?_
  refine lv_aload_n hx hb dL_law_1560 rfl (lv_at hl 3 rfl) ?_
  refine w_callS (rest := []) [.ref (ad 0), .int (xs (x4 + 1).toNatClampNeg), .ref aO] C hL hw cw_L_222 e3 rfl (by decide) ⟨Nat.le_of_ble_eq_true rfl, Nat.le_of_ble_eq_true rfl⟩ hl.1 rfl (Nat.le_of_ble_eq_true rfl) hf dL_law_1561 (fun H locs hw => ?_)
  refine lv_istore (lv' := [(5, .int k), (0, .ref b), (1, .ref (ad 0)), (2, .ref (ad' 48)), (3, .ref aO), (4, .int x4)]) hx hb dL_law_1564 hl (by decide) rfl (fun ls hl => ?_)
  refine lv_aload_n hx hb dL_law_1566 rfl (lv_at hl 3 rfl) ?_
  refine s_ld 1 5 C hX hw hl rfl rfl dL_law_1567 dL_law_1568 dL_law_1570 dL_law_1571 dL_law_1572 (by decide) hin.1 ?_
  refine f_callM (r := some (.int r)) (rest := []) [.int (xs (x4 + 1).toNatClampNeg)] C hw cv_L_224 (qX12_chairIn e1) rfl ⟨rfl, rfl⟩ ⟨Nat.le_of_ble_eq_true rfl, Nat.le_of_ble_eq_true rfl⟩ (rv_M C hw) hl.1 rfl (Nat.le_of_ble_eq_true rfl) hf dL_law_1573 (fun H locs hw => ?_)
  refine lv_istore (lv' := [(6, .int r), (5, .int k), (0, .ref b), (1, .ref (ad 0)), (2, .ref (ad' 48)), (3, .ref aO), (4, .int x4)]) hx hb dL_law_1576 hl (by decide) rfl (fun ls hl => ?_)
  refine lv_aload_n hx hb dL_law_1578 rfl (lv_at hl 4 rfl) ?_
  refine f_callM (r := some (.int (g'.1 4))) (rest := []) [] C hw cv_L_134 (qX12_thrown rfl) rfl ⟨rfl, rfl⟩ ⟨Nat.le_of_ble_eq_true rfl, Nat.le_of_ble_eq_true rfl⟩ (rv_M C hw) hl.1 rfl (Nat.le_of_ble_eq_true rfl) hf dL_law_1579 (fun H locs hw => ?_)
  refine lv_iload hx hb dL_law_1582 (lv_at hl 1 rfl) ?_
  refine lv_icmp_eq (tgt := 1589) hx hb dL_law_1584 (by decide) (fun _ => ?_) (fun z => absurd e2 z)
  refine lv_iload hx hb dL_law_1589 (lv_at hl 1 rfl) ?_
  refine lv_if_ne (tgt := 1606) hx hb dL_law_1591 (by decide) (fun _ => ?_) (fun z => ?_)
  · refine lv_goto (tgt := 2453) hx hb dL_law_1606 (by decide) ?_
    exact kk σ' P T' g' h' al fo' H locs ls k1 k4 k5 k3 hw (lv_sub hl [2, 3, 4, 5, 6] rfl)
  · refine lv_aload_n hx hb dL_law_1594 rfl (lv_at hl 5 rfl) ?_
    refine lv_iconst (v := (0 : Int32)) hx hb dL_law_1595 (by decide) ?_
    refine o_load C hw dL_law_1596 ?_
    refine lv_iload hx hb dL_law_1597 (lv_at hl 0 rfl) ?_
    refine lv_i2l hx hb dL_law_1599 rfl ?_
    refine W.lcmp hx hb dL_law_1600 ?_
    refine lv_if_eq (tgt := 1606) hx hb dL_law_1601 (by decide) (fun _ => ?_) (fun y => absurd ((lg_cmp_eq _ _).mpr (e4 z)) y)
    refine lv_goto (tgt := 2453) hx hb dL_law_1606 (by decide) ?_
    exact kk σ' P T' g' h' al fo' H locs ls k1 k4 k5 k3 hw (lv_sub hl [2, 3, 4, 5, 6] rfl)

set_option maxHeartbeats 4000000 in
set_option maxRecDepth 100000 in
theorem lc_28 {p : Program} {l : Launch} {e : Env} {s : State} {m : MethodId} {args : Array Value} {below : List Frame} {meth : Method} {c : Code} {H : Heap} {locs : List Loc} {cells slots : Nat} {Q : State → Prop} {D : va_G} {cs : Nat → ClassId} {ad ad' al adK adV : Nat → Nat} {A : Nat → Prop} {b L aO T : Nat} {xs : Nat → Int32} {x4 : Int32} {σ : AS} {P : PL} {g : MS} {h : CS} {fo : Nat → Int64} {ls : Array Slot} (C : MCx p s m args meth c A RL cL_law 8 (some .boolean) D cs) (hL : LC l s args adK adV A) (hX : LX s A b L xs) (hin : Hin x4 L) (hs : wfS σ) (hM : MI σ g) (hC : CI σ P T h) (hT : T + 31 < 2 ^ 31) (hw : MH D (SW cs ad al P h ++ outC cs aO fo :: MW cs ad' g) A s H locs) (hl : lv_has ls 8 (lvL b (ad 0) (ad' 48) aO x4)) (hf : cells + 131 ≤ room_1.cells ∧ slots + 1006 ≤ room_1.slots) (kk : Nx p l e s m args below meth c D cs A ad ad' b aO x4 T cells slots Q) : W p l e room_1 s m args below meth c H locs cells slots Q (F0 m 1609 ls []) := by
  have hx := C.1
  have hb := C.2.1
  have hst := hL.2.2.2.1
  obtain ⟨σ', T', g', h', k1, k2, k3, k4, k5, ko⟩ := st_aimIn hs hM hC (xs (x4 + 1).toNatClampNeg) (xs (x4 + 2).toNatClampNeg)
  obtain ⟨r, k, fo', e1, e2, e3, e4⟩ : ∃ (r : Int32) (k : Int32) (fo' : Nat → Int64), fX12_aimIn g (xs (x4 + 1).toNatClampNeg) (xs (x4 + 2).toNatClampNeg) = some (r, g') ∧ g'.1 4 = k ∧ WOut l D cs adK adV yL_aimIn cL_aimIn 5 [(0, 10, 13, 19), (0, 10, 17, 13)] [.ref (ad 0), .int (xs (x4 + 1).toNatClampNeg), .int (xs (x4 + 2).toNatClampNeg), .ref aO] (SW cs ad al P h ++ outC cs aO fo :: MW cs ad' g) k (SW cs ad al P h' ++ outC cs aO fo' :: MW cs ad' g) ∧ (k = 0 → fo' 0 = r.toInt64) := by
    rcases ko with ⟨r, q1, q2, q3⟩ | ⟨r, e, w, q1, q0, q2, q3⟩
    · exact ⟨r, 0, _, q1, q2, ⟨_, 0, 0, nL_aimIn hst q3, ⟨rfl, rfl⟩, by decide, by decide, by decide, by decide⟩, fun _ => rfl⟩
    · simp only [List.mem_cons, Prod.mk.injEq, List.not_mem_nil, or_false] at q0
      rcases q0 with ⟨rfl, rfl⟩ | ⟨rfl, rfl⟩
      · exact ⟨r, 1, fo, q1, q2, ⟨_, 1, 6, xL_aimIn_2 hst q3, ⟨rfl, rfl⟩, by decide, by decide, by decide, by decide⟩, fun z => absurd z (by decide)⟩
      · exact ⟨r, 2, fo, q1, q2, ⟨_, 1, 6, xL_aimIn_1 hst q3, ⟨rfl, rfl⟩, by decide, by decide, by decide, by decide⟩, fun z => absurd z (by decide)⟩
  refine lv_aload_n hx hb dL_law_1609 rfl (lv_at hl 1 rfl) ?_
  refine s_ld 0 4 C hX hw hl rfl rfl dL_law_1610 dL_law_1611 dL_law_1613 dL_law_1614 dL_law_1615 (by decide) hin.1 ?_
  refine s_ld 0 4 C hX hw hl rfl rfl dL_law_1616 dL_law_1617 dL_law_1619 dL_law_1620 dL_law_1621 (by decide) hin.2.1 ?_
  refine lv_aload_n hx hb dL_law_1622 rfl (lv_at hl 3 rfl) ?_
  refine w_callS (rest := []) [.ref (ad 0), .int (xs (x4 + 1).toNatClampNeg), .int (xs (x4 + 2).toNatClampNeg), .ref aO] C hL hw cw_L_225 e3 rfl (by decide) ⟨Nat.le_of_ble_eq_true rfl, Nat.le_of_ble_eq_true rfl⟩ hl.1 rfl (Nat.le_of_ble_eq_true rfl) hf dL_law_1623 (fun H locs hw => ?_)
  refine lv_istore (lv' := [(5, .int k), (0, .ref b), (1, .ref (ad 0)), (2, .ref (ad' 48)), (3, .ref aO), (4, .int x4)]) hx hb dL_law_1626 hl (by decide) rfl (fun ls hl => ?_)
  refine lv_aload_n hx hb dL_law_1628 rfl (lv_at hl 3 rfl) ?_
  refine s_ld 1 5 C hX hw hl rfl rfl dL_law_1629 dL_law_1630 dL_law_1632 dL_law_1633 dL_law_1634 (by decide) hin.1 ?_
  refine s_ld 1 5 C hX hw hl rfl rfl dL_law_1635 dL_law_1636 dL_law_1638 dL_law_1639 dL_law_1640 (by decide) hin.2.1 ?_
  refine f_callM (r := some (.int r)) (rest := []) [.int (xs (x4 + 1).toNatClampNeg), .int (xs (x4 + 2).toNatClampNeg)] C hw cv_L_227 (qX12_aimIn e1) rfl ⟨rfl, rfl⟩ ⟨Nat.le_of_ble_eq_true rfl, Nat.le_of_ble_eq_true rfl⟩ (rv_M C hw) hl.1 rfl (Nat.le_of_ble_eq_true rfl) hf dL_law_1641 (fun H locs hw => ?_)
  refine lv_istore (lv' := [(6, .int r), (5, .int k), (0, .ref b), (1, .ref (ad 0)), (2, .ref (ad' 48)), (3, .ref aO), (4, .int x4)]) hx hb dL_law_1644 hl (by decide) rfl (fun ls hl => ?_)
  refine lv_aload_n hx hb dL_law_1646 rfl (lv_at hl 4 rfl) ?_
  refine f_callM (r := some (.int (g'.1 4))) (rest := []) [] C hw cv_L_134 (qX12_thrown rfl) rfl ⟨rfl, rfl⟩ ⟨Nat.le_of_ble_eq_true rfl, Nat.le_of_ble_eq_true rfl⟩ (rv_M C hw) hl.1 rfl (Nat.le_of_ble_eq_true rfl) hf dL_law_1647 (fun H locs hw => ?_)
  refine lv_iload hx hb dL_law_1650 (lv_at hl 1 rfl) ?_
  refine lv_icmp_eq (tgt := 1657) hx hb dL_law_1652 (by decide) (fun _ => ?_) (fun z => absurd e2 z)
  refine lv_iload hx hb dL_law_1657 (lv_at hl 1 rfl) ?_
  refine lv_if_ne (tgt := 1674) hx hb dL_law_1659 (by decide) (fun _ => ?_) (fun z => ?_)
  · refine lv_goto (tgt := 2453) hx hb dL_law_1674 (by decide) ?_
    exact kk σ' P T' g' h' al fo' H locs ls k1 k4 k5 k3 hw (lv_sub hl [2, 3, 4, 5, 6] rfl)
  · refine lv_aload_n hx hb dL_law_1662 rfl (lv_at hl 5 rfl) ?_
    refine lv_iconst (v := (0 : Int32)) hx hb dL_law_1663 (by decide) ?_
    refine o_load C hw dL_law_1664 ?_
    refine lv_iload hx hb dL_law_1665 (lv_at hl 0 rfl) ?_
    refine lv_i2l hx hb dL_law_1667 rfl ?_
    refine W.lcmp hx hb dL_law_1668 ?_
    refine lv_if_eq (tgt := 1674) hx hb dL_law_1669 (by decide) (fun _ => ?_) (fun y => absurd ((lg_cmp_eq _ _).mpr (e4 z)) y)
    refine lv_goto (tgt := 2453) hx hb dL_law_1674 (by decide) ?_
    exact kk σ' P T' g' h' al fo' H locs ls k1 k4 k5 k3 hw (lv_sub hl [2, 3, 4, 5, 6] rfl)

set_option maxHeartbeats 4000000 in
set_option maxRecDepth 100000 in
theorem lc_29 {p : Program} {l : Launch} {e : Env} {s : State} {m : MethodId} {args : Array Value} {below : List Frame} {meth : Method} {c : Code} {H : Heap} {locs : List Loc} {cells slots : Nat} {Q : State → Prop} {D : va_G} {cs : Nat → ClassId} {ad ad' al adK adV : Nat → Nat} {A : Nat → Prop} {b L aO T : Nat} {xs : Nat → Int32} {x4 : Int32} {σ : AS} {P : PL} {g : MS} {h : CS} {fo : Nat → Int64} {ls : Array Slot} (C : MCx p s m args meth c A RL cL_law 8 (some .boolean) D cs) (hL : LC l s args adK adV A) (hX : LX s A b L xs) (hin : Hin x4 L) (hs : wfS σ) (hM : MI σ g) (hC : CI σ P T h) (hT : T + 31 < 2 ^ 31) (hw : MH D (SW cs ad al P h ++ outC cs aO fo :: MW cs ad' g) A s H locs) (hl : lv_has ls 8 (lvL b (ad 0) (ad' 48) aO x4)) (hf : cells + 131 ≤ room_1.cells ∧ slots + 1006 ≤ room_1.slots) (kk : Nx p l e s m args below meth c D cs A ad ad' b aO x4 T cells slots Q) : W p l e room_1 s m args below meth c H locs cells slots Q (F0 m 1677 ls []) := by
  have hx := C.1
  have hb := C.2.1
  have hst := hL.2.2.2.1
  obtain ⟨σ', T', g', h', k1, k2, k3, k4, k5, ko⟩ := st_reign hs hM hC (xs (x4 + 1).toNatClampNeg) (xs (x4 + 2).toNatClampNeg)
  obtain ⟨r, k, fo', e1, e2, e3, e4⟩ : ∃ (r : Int32) (k : Int32) (fo' : Nat → Int64), fX12_reign g (xs (x4 + 1).toNatClampNeg) (xs (x4 + 2).toNatClampNeg) = some (r, g') ∧ g'.1 4 = k ∧ WOut l D cs adK adV yL_reign cL_reign 5 [(0, 10, 13, 19), (0, 10, 17, 13)] [.ref (ad 0), .int (xs (x4 + 1).toNatClampNeg), .int (xs (x4 + 2).toNatClampNeg), .ref aO] (SW cs ad al P h ++ outC cs aO fo :: MW cs ad' g) k (SW cs ad al P h' ++ outC cs aO fo' :: MW cs ad' g) ∧ (k = 0 → fo' 0 = r.toInt64) := by
    rcases ko with ⟨r, q1, q2, q3⟩ | ⟨r, e, w, q1, q0, q2, q3⟩
    · exact ⟨r, 0, _, q1, q2, ⟨_, 0, 0, nL_reign hst q3, ⟨rfl, rfl⟩, by decide, by decide, by decide, by decide⟩, fun _ => rfl⟩
    · simp only [List.mem_cons, Prod.mk.injEq, List.not_mem_nil, or_false] at q0
      rcases q0 with ⟨rfl, rfl⟩ | ⟨rfl, rfl⟩
      · exact ⟨r, 1, fo, q1, q2, ⟨_, 1, 6, xL_reign_2 hst q3, ⟨rfl, rfl⟩, by decide, by decide, by decide, by decide⟩, fun z => absurd z (by decide)⟩
      · exact ⟨r, 2, fo, q1, q2, ⟨_, 1, 6, xL_reign_1 hst q3, ⟨rfl, rfl⟩, by decide, by decide, by decide, by decide⟩, fun z => absurd z (by decide)⟩
  refine lv_aload_n hx hb dL_law_1677 rfl (lv_at hl 1 rfl) ?_
  refine s_ld 0 4 C hX hw hl rfl rfl dL_law_1678 dL_law_1679 dL_law_1681 dL_law_1682 dL_law_1683 (by decide) hin.1 ?_
  refine s_ld 0 4 C hX hw hl rfl rfl dL_law_1684 dL_law_1685 dL_law_1687 dL_law_1688 dL_law_1689 (by decide) hin.2.1 ?_
  refine lv_aload_n hx hb dL_law_1690 rfl (lv_at hl 3 rfl) ?_
  refine w_callS (rest := []) [.ref (ad 0), .int (xs (x4 + 1).toNatClampNeg), .int (xs (x4 + 2).toNatClampNeg), .ref aO] C hL hw cw_L_228 e3 rfl (by decide) ⟨Nat.le_of_ble_eq_true rfl, Nat.le_of_ble_eq_true rfl⟩ hl.1 rfl (Nat.le_of_ble_eq_true rfl) hf dL_law_1691 (fun H locs hw => ?_)
  refine lv_istore (lv' := [(5, .int k), (0, .ref b), (1, .ref (ad 0)), (2, .ref (ad' 48)), (3, .ref aO), (4, .int x4)]) hx hb dL_law_1694 hl (by decide) rfl (fun ls hl => ?_)
  refine lv_aload_n hx hb dL_law_1696 rfl (lv_at hl 3 rfl) ?_
  refine s_ld 1 5 C hX hw hl rfl rfl dL_law_1697 dL_law_1698 dL_law_1700 dL_law_1701 dL_law_1702 (by decide) hin.1 ?_
  refine s_ld 1 5 C hX hw hl rfl rfl dL_law_1703 dL_law_1704 dL_law_1706 dL_law_1707 dL_law_1708 (by decide) hin.2.1 ?_
  refine f_callM (r := some (.int r)) (rest := []) [.int (xs (x4 + 1).toNatClampNeg), .int (xs (x4 + 2).toNatClampNeg)] C hw cv_L_230 (qX12_reign e1) rfl ⟨rfl, rfl⟩ ⟨Nat.le_of_ble_eq_true rfl, Nat.le_of_ble_eq_true rfl⟩ (rv_M C hw) hl.1 rfl (Nat.le_of_ble_eq_true rfl) hf dL_law_1709 (fun H locs hw => ?_)
  refine lv_istore (lv' := [(6, .int r), (5, .int k), (0, .ref b), (1, .ref (ad 0)), (2, .ref (ad' 48)), (3, .ref aO), (4, .int x4)]) hx hb dL_law_1712 hl (by decide) rfl (fun ls hl => ?_)
  refine lv_aload_n hx hb dL_law_1714 rfl (lv_at hl 4 rfl) ?_
  refine f_callM (r := some (.int (g'.1 4))) (rest := []) [] C hw cv_L_134 (qX12_thrown rfl) rfl ⟨rfl, rfl⟩ ⟨Nat.le_of_ble_eq_true rfl, Nat.le_of_ble_eq_true rfl⟩ (rv_M C hw) hl.1 rfl (Nat.le_of_ble_eq_true rfl) hf dL_law_1715 (fun H locs hw => ?_)
  refine lv_iload hx hb dL_law_1718 (lv_at hl 1 rfl) ?_
  refine lv_icmp_eq (tgt := 1725) hx hb dL_law_1720 (by decide) (fun _ => ?_) (fun z => absurd e2 z)
  refine lv_iload hx hb dL_law_1725 (lv_at hl 1 rfl) ?_
  refine lv_if_ne (tgt := 1742) hx hb dL_law_1727 (by decide) (fun _ => ?_) (fun z => ?_)
  · refine lv_goto (tgt := 2453) hx hb dL_law_1742 (by decide) ?_
    exact kk σ' P T' g' h' al fo' H locs ls k1 k4 k5 k3 hw (lv_sub hl [2, 3, 4, 5, 6] rfl)
  · refine lv_aload_n hx hb dL_law_1730 rfl (lv_at hl 5 rfl) ?_
    refine lv_iconst (v := (0 : Int32)) hx hb dL_law_1731 (by decide) ?_
    refine o_load C hw dL_law_1732 ?_
    refine lv_iload hx hb dL_law_1733 (lv_at hl 0 rfl) ?_
    refine lv_i2l hx hb dL_law_1735 rfl ?_
    refine W.lcmp hx hb dL_law_1736 ?_
    refine lv_if_eq (tgt := 1742) hx hb dL_law_1737 (by decide) (fun _ => ?_) (fun y => absurd ((lg_cmp_eq _ _).mpr (e4 z)) y)
    refine lv_goto (tgt := 2453) hx hb dL_law_1742 (by decide) ?_
    exact kk σ' P T' g' h' al fo' H locs ls k1 k4 k5 k3 hw (lv_sub hl [2, 3, 4, 5, 6] rfl)

set_option maxHeartbeats 4000000 in
set_option maxRecDepth 100000 in
theorem lc_30 {p : Program} {l : Launch} {e : Env} {s : State} {m : MethodId} {args : Array Value} {below : List Frame} {meth : Method} {c : Code} {H : Heap} {locs : List Loc} {cells slots : Nat} {Q : State → Prop} {D : va_G} {cs : Nat → ClassId} {ad ad' al adK adV : Nat → Nat} {A : Nat → Prop} {b L aO T : Nat} {xs : Nat → Int32} {x4 : Int32} {σ : AS} {P : PL} {g : MS} {h : CS} {fo : Nat → Int64} {ls : Array Slot} (C : MCx p s m args meth c A RL cL_law 8 (some .boolean) D cs) (hL : LC l s args adK adV A) (hX : LX s A b L xs) (hin : Hin x4 L) (hs : wfS σ) (hM : MI σ g) (hC : CI σ P T h) (hT : T + 31 < 2 ^ 31) (hw : MH D (SW cs ad al P h ++ outC cs aO fo :: MW cs ad' g) A s H locs) (hl : lv_has ls 8 (lvL b (ad 0) (ad' 48) aO x4)) (hf : cells + 131 ≤ room_1.cells ∧ slots + 1006 ≤ room_1.slots) (kk : Nx p l e s m args below meth c D cs A ad ad' b aO x4 T cells slots Q) : W p l e room_1 s m args below meth c H locs cells slots Q (F0 m 1745 ls []) := by
  have hx := C.1
  have hb := C.2.1
  have hst := hL.2.2.2.1
  obtain ⟨σ', T', g', h', k1, k2, k3, k4, k5, ko⟩ := st_first hs hM hC (xs (x4 + 1).toNatClampNeg)
  obtain ⟨r, k, fo', e1, e2, e3, e4⟩ : ∃ (r : Int32) (k : Int32) (fo' : Nat → Int64), fX12_first g (xs (x4 + 1).toNatClampNeg) = some (r, g') ∧ g'.1 4 = k ∧ WOut l D cs adK adV yL_first cL_first 4 [(0, 9, 12, 19)] [.ref (ad 0), .int (xs (x4 + 1).toNatClampNeg), .ref aO] (SW cs ad al P h ++ outC cs aO fo :: MW cs ad' g) k (SW cs ad al P h' ++ outC cs aO fo' :: MW cs ad' g) ∧ (k = 0 → fo' 0 = r.toInt64) := by
    rcases ko with ⟨r, q1, q2, q3⟩ | ⟨r, e, w, q1, q0, q2, q3⟩
    · exact ⟨r, 0, _, q1, q2, ⟨_, 0, 0, nL_first hst q3, ⟨rfl, rfl⟩, by decide, by decide, by decide, by decide⟩, fun _ => rfl⟩
    · simp only [List.mem_cons, Prod.mk.injEq, List.not_mem_nil, or_false] at q0
      obtain ⟨rfl, rfl⟩ := q0
      exact ⟨r, 1, fo, q1, q2, ⟨_, 1, 6, xL_first_2 hst q3, ⟨rfl, rfl⟩, by decide, by decide, by decide, by decide⟩, fun z => absurd z (by decide)⟩
  refine lv_aload_n hx hb dL_law_1745 rfl (lv_at hl 1 rfl) ?_
  refine s_ld 0 4 C hX hw hl rfl rfl dL_law_1746 dL_law_1747 dL_law_1749 dL_law_1750 dL_law_1751 (by decide) hin.1 ?_
  refine lv_aload_n hx hb dL_law_1752 rfl (lv_at hl 3 rfl) ?_
  refine w_callS (rest := []) [.ref (ad 0), .int (xs (x4 + 1).toNatClampNeg), .ref aO] C hL hw cw_L_231 e3 rfl (by decide) ⟨Nat.le_of_ble_eq_true rfl, Nat.le_of_ble_eq_true rfl⟩ hl.1 rfl (Nat.le_of_ble_eq_true rfl) hf dL_law_1753 (fun H locs hw => ?_)
  refine lv_istore (lv' := [(5, .int k), (0, .ref b), (1, .ref (ad 0)), (2, .ref (ad' 48)), (3, .ref aO), (4, .int x4)]) hx hb dL_law_1756 hl (by decide) rfl (fun ls hl => ?_)
  refine lv_aload_n hx hb dL_law_1758 rfl (lv_at hl 3 rfl) ?_
  refine s_ld 1 5 C hX hw hl rfl rfl dL_law_1759 dL_law_1760 dL_law_1762 dL_law_1763 dL_law_1764 (by decide) hin.1 ?_
  refine f_callM (r := some (.int r)) (rest := []) [.int (xs (x4 + 1).toNatClampNeg)] C hw cv_L_233 (qX12_first e1) rfl ⟨rfl, rfl⟩ ⟨Nat.le_of_ble_eq_true rfl, Nat.le_of_ble_eq_true rfl⟩ (rv_M C hw) hl.1 rfl (Nat.le_of_ble_eq_true rfl) hf dL_law_1765 (fun H locs hw => ?_)
  refine lv_istore (lv' := [(6, .int r), (5, .int k), (0, .ref b), (1, .ref (ad 0)), (2, .ref (ad' 48)), (3, .ref aO), (4, .int x4)]) hx hb dL_law_1768 hl (by decide) rfl (fun ls hl => ?_)
  refine lv_aload_n hx hb dL_law_1770 rfl (lv_at hl 4 rfl) ?_
  refine f_callM (r := some (.int (g'.1 4))) (rest := []) [] C hw cv_L_134 (qX12_thrown rfl) rfl ⟨rfl, rfl⟩ ⟨Nat.le_of_ble_eq_true rfl, Nat.le_of_ble_eq_true rfl⟩ (rv_M C hw) hl.1 rfl (Nat.le_of_ble_eq_true rfl) hf dL_law_1771 (fun H locs hw => ?_)
  refine lv_iload hx hb dL_law_1774 (lv_at hl 1 rfl) ?_
  refine lv_icmp_eq (tgt := 1781) hx hb dL_law_1776 (by decide) (fun _ => ?_) (fun z => absurd e2 z)
  refine lv_iload hx hb dL_law_1781 (lv_at hl 1 rfl) ?_
  refine lv_if_ne (tgt := 1798) hx hb dL_law_1783 (by decide) (fun _ => ?_) (fun z => ?_)
  · refine lv_goto (tgt := 2453) hx hb dL_law_1798 (by decide) ?_
    exact kk σ' P T' g' h' al fo' H locs ls k1 k4 k5 k3 hw (lv_sub hl [2, 3, 4, 5, 6] rfl)
  · refine lv_aload_n hx hb dL_law_1786 rfl (lv_at hl 5 rfl) ?_
    refine lv_iconst (v := (0 : Int32)) hx hb dL_law_1787 (by decide) ?_
    refine o_load C hw dL_law_1788 ?_
    refine lv_iload hx hb dL_law_1789 (lv_at hl 0 rfl) ?_
    refine lv_i2l hx hb dL_law_1791 rfl ?_
    refine W.lcmp hx hb dL_law_1792 ?_
    refine lv_if_eq (tgt := 1798) hx hb dL_law_1793 (by decide) (fun _ => ?_) (fun y => absurd ((lg_cmp_eq _ _).mpr (e4 z)) y)
    refine lv_goto (tgt := 2453) hx hb dL_law_1798 (by decide) ?_
    exact kk σ' P T' g' h' al fo' H locs ls k1 k4 k5 k3 hw (lv_sub hl [2, 3, 4, 5, 6] rfl)

set_option maxHeartbeats 4000000 in
set_option maxRecDepth 100000 in
theorem lc_31 {p : Program} {l : Launch} {e : Env} {s : State} {m : MethodId} {args : Array Value} {below : List Frame} {meth : Method} {c : Code} {H : Heap} {locs : List Loc} {cells slots : Nat} {Q : State → Prop} {D : va_G} {cs : Nat → ClassId} {ad ad' al adK adV : Nat → Nat} {A : Nat → Prop} {b L aO T : Nat} {xs : Nat → Int32} {x4 : Int32} {σ : AS} {P : PL} {g : MS} {h : CS} {fo : Nat → Int64} {ls : Array Slot} (C : MCx p s m args meth c A RL cL_law 8 (some .boolean) D cs) (hL : LC l s args adK adV A) (hX : LX s A b L xs) (hin : Hin x4 L) (hs : wfS σ) (hM : MI σ g) (hC : CI σ P T h) (hT : T + 31 < 2 ^ 31) (hw : MH D (SW cs ad al P h ++ outC cs aO fo :: MW cs ad' g) A s H locs) (hl : lv_has ls 8 (lvL b (ad 0) (ad' 48) aO x4)) (hf : cells + 131 ≤ room_1.cells ∧ slots + 1006 ≤ room_1.slots) (kk : Nx p l e s m args below meth c D cs A ad ad' b aO x4 T cells slots Q) : W p l e room_1 s m args below meth c H locs cells slots Q (F0 m 1801 ls []) := by
  have hx := C.1
  have hb := C.2.1
  have hst := hL.2.2.2.1
  obtain ⟨σ', T', g', h', k1, k2, k3, k4, k5, ko⟩ := st_seen hs hM hC (xs (x4 + 1).toNatClampNeg)
  obtain ⟨r, k, fo', e1, e2, e3, e4⟩ : ∃ (r : Int32) (k : Int32) (fo' : Nat → Int64), fX12_seen g (xs (x4 + 1).toNatClampNeg) = some (r, g') ∧ g'.1 4 = k ∧ WOut l D cs adK adV yL_seen cL_seen 4 [(0, 9, 12, 19), (0, 9, 15, 36), (0, 9, 18, 13)] [.ref (ad 0), .int (xs (x4 + 1).toNatClampNeg), .ref aO] (SW cs ad al P h ++ outC cs aO fo :: MW cs ad' g) k (SW cs ad al P h' ++ outC cs aO fo' :: MW cs ad' g) ∧ (k = 0 → fo' 0 = r.toInt64) := by
    rcases ko with ⟨r, q1, q2, q3⟩ | ⟨r, e, w, q1, q0, q2, q3⟩
    · exact ⟨r, 0, _, q1, q2, ⟨_, 0, 0, nL_seen hst q3, ⟨rfl, rfl⟩, by decide, by decide, by decide, by decide⟩, fun _ => rfl⟩
    · simp only [List.mem_cons, Prod.mk.injEq, List.not_mem_nil, or_false] at q0
      rcases q0 with ⟨rfl, rfl⟩ | ⟨rfl, rfl⟩ | ⟨rfl, rfl⟩
      · exact ⟨r, 1, fo, q1, q2, ⟨_, 1, 6, xL_seen_2 hst q3, ⟨rfl, rfl⟩, by decide, by decide, by decide, by decide⟩, fun z => absurd z (by decide)⟩
      · exact ⟨r, 2, fo, q1, q2, ⟨_, 1, 6, xL_seen_3 hst q3, ⟨rfl, rfl⟩, by decide, by decide, by decide, by decide⟩, fun z => absurd z (by decide)⟩
      · exact ⟨r, 3, fo, q1, q2, ⟨_, 1, 6, xL_seen_1 hst q3, ⟨rfl, rfl⟩, by decide, by decide, by decide, by decide⟩, fun z => absurd z (by decide)⟩
  refine lv_aload_n hx hb dL_law_1801 rfl (lv_at hl 1 rfl) ?_
  refine s_ld 0 4 C hX hw hl rfl rfl dL_law_1802 dL_law_1803 dL_law_1805 dL_law_1806 dL_law_1807 (by decide) hin.1 ?_
  refine lv_aload_n hx hb dL_law_1808 rfl (lv_at hl 3 rfl) ?_
  refine w_callS (rest := []) [.ref (ad 0), .int (xs (x4 + 1).toNatClampNeg), .ref aO] C hL hw cw_L_234 e3 rfl (by decide) ⟨Nat.le_of_ble_eq_true rfl, Nat.le_of_ble_eq_true rfl⟩ hl.1 rfl (Nat.le_of_ble_eq_true rfl) hf dL_law_1809 (fun H locs hw => ?_)
  refine lv_istore (lv' := [(5, .int k), (0, .ref b), (1, .ref (ad 0)), (2, .ref (ad' 48)), (3, .ref aO), (4, .int x4)]) hx hb dL_law_1812 hl (by decide) rfl (fun ls hl => ?_)
  refine lv_aload_n hx hb dL_law_1814 rfl (lv_at hl 3 rfl) ?_
  refine s_ld 1 5 C hX hw hl rfl rfl dL_law_1815 dL_law_1816 dL_law_1818 dL_law_1819 dL_law_1820 (by decide) hin.1 ?_
  refine f_callM (r := some (.int r)) (rest := []) [.int (xs (x4 + 1).toNatClampNeg)] C hw cv_L_236 (qX12_seen e1) rfl ⟨rfl, rfl⟩ ⟨Nat.le_of_ble_eq_true rfl, Nat.le_of_ble_eq_true rfl⟩ (rv_M C hw) hl.1 rfl (Nat.le_of_ble_eq_true rfl) hf dL_law_1821 (fun H locs hw => ?_)
  refine lv_istore (lv' := [(6, .int r), (5, .int k), (0, .ref b), (1, .ref (ad 0)), (2, .ref (ad' 48)), (3, .ref aO), (4, .int x4)]) hx hb dL_law_1824 hl (by decide) rfl (fun ls hl => ?_)
  refine lv_aload_n hx hb dL_law_1826 rfl (lv_at hl 4 rfl) ?_
  refine f_callM (r := some (.int (g'.1 4))) (rest := []) [] C hw cv_L_134 (qX12_thrown rfl) rfl ⟨rfl, rfl⟩ ⟨Nat.le_of_ble_eq_true rfl, Nat.le_of_ble_eq_true rfl⟩ (rv_M C hw) hl.1 rfl (Nat.le_of_ble_eq_true rfl) hf dL_law_1827 (fun H locs hw => ?_)
  refine lv_iload hx hb dL_law_1830 (lv_at hl 1 rfl) ?_
  refine lv_icmp_eq (tgt := 1837) hx hb dL_law_1832 (by decide) (fun _ => ?_) (fun z => absurd e2 z)
  refine lv_iload hx hb dL_law_1837 (lv_at hl 1 rfl) ?_
  refine lv_if_ne (tgt := 1854) hx hb dL_law_1839 (by decide) (fun _ => ?_) (fun z => ?_)
  · refine lv_goto (tgt := 2453) hx hb dL_law_1854 (by decide) ?_
    exact kk σ' P T' g' h' al fo' H locs ls k1 k4 k5 k3 hw (lv_sub hl [2, 3, 4, 5, 6] rfl)
  · refine lv_aload_n hx hb dL_law_1842 rfl (lv_at hl 5 rfl) ?_
    refine lv_iconst (v := (0 : Int32)) hx hb dL_law_1843 (by decide) ?_
    refine o_load C hw dL_law_1844 ?_
    refine lv_iload hx hb dL_law_1845 (lv_at hl 0 rfl) ?_
    refine lv_i2l hx hb dL_law_1847 rfl ?_
    refine W.lcmp hx hb dL_law_1848 ?_
    refine lv_if_eq (tgt := 1854) hx hb dL_law_1849 (by decide) (fun _ => ?_) (fun y => absurd ((lg_cmp_eq _ _).mpr (e4 z)) y)
    refine lv_goto (tgt := 2453) hx hb dL_law_1854 (by decide) ?_
    exact kk σ' P T' g' h' al fo' H locs ls k1 k4 k5 k3 hw (lv_sub hl [2, 3, 4, 5, 6] rfl)

set_option maxHeartbeats 4000000 in
set_option maxRecDepth 100000 in
theorem lc_32 {p : Program} {l : Launch} {e : Env} {s : State} {m : MethodId} {args : Array Value} {below : List Frame} {meth : Method} {c : Code} {H : Heap} {locs : List Loc} {cells slots : Nat} {Q : State → Prop} {D : va_G} {cs : Nat → ClassId} {ad ad' al adK adV : Nat → Nat} {A : Nat → Prop} {b L aO T : Nat} {xs : Nat → Int32} {x4 : Int32} {σ : AS} {P : PL} {g : MS} {h : CS} {fo : Nat → Int64} {ls : Array Slot} (C : MCx p s m args meth c A RL cL_law 8 (some .boolean) D cs) (hL : LC l s args adK adV A) (hX : LX s A b L xs) (hin : Hin x4 L) (hs : wfS σ) (hM : MI σ g) (hC : CI σ P T h) (hT : T + 31 < 2 ^ 31) (hw : MH D (SW cs ad al P h ++ outC cs aO fo :: MW cs ad' g) A s H locs) (hl : lv_has ls 8 (lvL b (ad 0) (ad' 48) aO x4)) (hf : cells + 131 ≤ room_1.cells ∧ slots + 1006 ≤ room_1.slots) (kk : Nx p l e s m args below meth c D cs A ad ad' b aO x4 T cells slots Q) : W p l e room_1 s m args below meth c H locs cells slots Q (F0 m 1857 ls []) := by
  have hx := C.1
  have hb := C.2.1
  have hst := hL.2.2.2.1
  obtain ⟨σ', T', g', h', k1, k2, k3, k4, k5, ko⟩ := st_seenAt hs hM hC (xs (x4 + 1).toNatClampNeg) (xs (x4 + 2).toNatClampNeg)
  obtain ⟨r, k, fo', e1, e2, e3, e4⟩ : ∃ (r : Int32) (k : Int32) (fo' : Nat → Int64), fX12_seenAt g (xs (x4 + 1).toNatClampNeg) (xs (x4 + 2).toNatClampNeg) = some (r, g') ∧ g'.1 4 = k ∧ WOut l D cs adK adV yL_seenAt cL_seenAt 5 [(0, 10, 13, 19), (0, 10, 17, 36), (0, 10, 21, 13)] [.ref (ad 0), .int (xs (x4 + 1).toNatClampNeg), .int (xs (x4 + 2).toNatClampNeg), .ref aO] (SW cs ad al P h ++ outC cs aO fo :: MW cs ad' g) k (SW cs ad al P h' ++ outC cs aO fo' :: MW cs ad' g) ∧ (k = 0 → fo' 0 = r.toInt64) := by
    rcases ko with ⟨r, q1, q2, q3⟩ | ⟨r, e, w, q1, q0, q2, q3⟩
    · exact ⟨r, 0, _, q1, q2, ⟨_, 0, 0, nL_seenAt hst q3, ⟨rfl, rfl⟩, by decide, by decide, by decide, by decide⟩, fun _ => rfl⟩
    · simp only [List.mem_cons, Prod.mk.injEq, List.not_mem_nil, or_false] at q0
      rcases q0 with ⟨rfl, rfl⟩ | ⟨rfl, rfl⟩ | ⟨rfl, rfl⟩
      · exact ⟨r, 1, fo, q1, q2, ⟨_, 1, 6, xL_seenAt_2 hst q3, ⟨rfl, rfl⟩, by decide, by decide, by decide, by decide⟩, fun z => absurd z (by decide)⟩
      · exact ⟨r, 2, fo, q1, q2, ⟨_, 1, 6, xL_seenAt_3 hst q3, ⟨rfl, rfl⟩, by decide, by decide, by decide, by decide⟩, fun z => absurd z (by decide)⟩
      · exact ⟨r, 3, fo, q1, q2, ⟨_, 1, 6, xL_seenAt_1 hst q3, ⟨rfl, rfl⟩, by decide, by decide, by decide, by decide⟩, fun z => absurd z (by decide)⟩
  refine lv_aload_n hx hb dL_law_1857 rfl (lv_at hl 1 rfl) ?_
  refine s_ld 0 4 C hX hw hl rfl rfl dL_law_1858 dL_law_1859 dL_law_1861 dL_law_1862 dL_law_1863 (by decide) hin.1 ?_
  refine s_ld 0 4 C hX hw hl rfl rfl dL_law_1864 dL_law_1865 dL_law_1867 dL_law_1868 dL_law_1869 (by decide) hin.2.1 ?_
  refine lv_aload_n hx hb dL_law_1870 rfl (lv_at hl 3 rfl) ?_
  refine w_callS (rest := []) [.ref (ad 0), .int (xs (x4 + 1).toNatClampNeg), .int (xs (x4 + 2).toNatClampNeg), .ref aO] C hL hw cw_L_237 e3 rfl (by decide) ⟨Nat.le_of_ble_eq_true rfl, Nat.le_of_ble_eq_true rfl⟩ hl.1 rfl (Nat.le_of_ble_eq_true rfl) hf dL_law_1871 (fun H locs hw => ?_)
  refine lv_istore (lv' := [(5, .int k), (0, .ref b), (1, .ref (ad 0)), (2, .ref (ad' 48)), (3, .ref aO), (4, .int x4)]) hx hb dL_law_1874 hl (by decide) rfl (fun ls hl => ?_)
  refine lv_aload_n hx hb dL_law_1876 rfl (lv_at hl 3 rfl) ?_
  refine s_ld 1 5 C hX hw hl rfl rfl dL_law_1877 dL_law_1878 dL_law_1880 dL_law_1881 dL_law_1882 (by decide) hin.1 ?_
  refine s_ld 1 5 C hX hw hl rfl rfl dL_law_1883 dL_law_1884 dL_law_1886 dL_law_1887 dL_law_1888 (by decide) hin.2.1 ?_
  refine f_callM (r := some (.int r)) (rest := []) [.int (xs (x4 + 1).toNatClampNeg), .int (xs (x4 + 2).toNatClampNeg)] C hw cv_L_239 (qX12_seenAt e1) rfl ⟨rfl, rfl⟩ ⟨Nat.le_of_ble_eq_true rfl, Nat.le_of_ble_eq_true rfl⟩ (rv_M C hw) hl.1 rfl (Nat.le_of_ble_eq_true rfl) hf dL_law_1889 (fun H locs hw => ?_)
  refine lv_istore (lv' := [(6, .int r), (5, .int k), (0, .ref b), (1, .ref (ad 0)), (2, .ref (ad' 48)), (3, .ref aO), (4, .int x4)]) hx hb dL_law_1892 hl (by decide) rfl (fun ls hl => ?_)
  refine lv_aload_n hx hb dL_law_1894 rfl (lv_at hl 4 rfl) ?_
  refine f_callM (r := some (.int (g'.1 4))) (rest := []) [] C hw cv_L_134 (qX12_thrown rfl) rfl ⟨rfl, rfl⟩ ⟨Nat.le_of_ble_eq_true rfl, Nat.le_of_ble_eq_true rfl⟩ (rv_M C hw) hl.1 rfl (Nat.le_of_ble_eq_true rfl) hf dL_law_1895 (fun H locs hw => ?_)
  refine lv_iload hx hb dL_law_1898 (lv_at hl 1 rfl) ?_
  refine lv_icmp_eq (tgt := 1905) hx hb dL_law_1900 (by decide) (fun _ => ?_) (fun z => absurd e2 z)
  refine lv_iload hx hb dL_law_1905 (lv_at hl 1 rfl) ?_
  refine lv_if_ne (tgt := 1922) hx hb dL_law_1907 (by decide) (fun _ => ?_) (fun z => ?_)
  · refine lv_goto (tgt := 2453) hx hb dL_law_1922 (by decide) ?_
    exact kk σ' P T' g' h' al fo' H locs ls k1 k4 k5 k3 hw (lv_sub hl [2, 3, 4, 5, 6] rfl)
  · refine lv_aload_n hx hb dL_law_1910 rfl (lv_at hl 5 rfl) ?_
    refine lv_iconst (v := (0 : Int32)) hx hb dL_law_1911 (by decide) ?_
    refine o_load C hw dL_law_1912 ?_
    refine lv_iload hx hb dL_law_1913 (lv_at hl 0 rfl) ?_
    refine lv_i2l hx hb dL_law_1915 rfl ?_
    refine W.lcmp hx hb dL_law_1916 ?_
    refine lv_if_eq (tgt := 1922) hx hb dL_law_1917 (by decide) (fun _ => ?_) (fun y => absurd ((lg_cmp_eq _ _).mpr (e4 z)) y)
    refine lv_goto (tgt := 2453) hx hb dL_law_1922 (by decide) ?_
    exact kk σ' P T' g' h' al fo' H locs ls k1 k4 k5 k3 hw (lv_sub hl [2, 3, 4, 5, 6] rfl)

set_option maxHeartbeats 4000000 in
set_option maxRecDepth 100000 in
theorem lc_33 {p : Program} {l : Launch} {e : Env} {s : State} {m : MethodId} {args : Array Value} {below : List Frame} {meth : Method} {c : Code} {H : Heap} {locs : List Loc} {cells slots : Nat} {Q : State → Prop} {D : va_G} {cs : Nat → ClassId} {ad ad' al adK adV : Nat → Nat} {A : Nat → Prop} {b L aO T : Nat} {xs : Nat → Int32} {x4 : Int32} {σ : AS} {P : PL} {g : MS} {h : CS} {fo : Nat → Int64} {ls : Array Slot} (C : MCx p s m args meth c A RL cL_law 8 (some .boolean) D cs) (hL : LC l s args adK adV A) (hX : LX s A b L xs) (hin : Hin x4 L) (hs : wfS σ) (hM : MI σ g) (hC : CI σ P T h) (hT : T + 31 < 2 ^ 31) (hw : MH D (SW cs ad al P h ++ outC cs aO fo :: MW cs ad' g) A s H locs) (hl : lv_has ls 8 (lvL b (ad 0) (ad' 48) aO x4)) (hf : cells + 131 ≤ room_1.cells ∧ slots + 1006 ≤ room_1.slots) (kk : Nx p l e s m args below meth c D cs A ad ad' b aO x4 T cells slots Q) : W p l e room_1 s m args below meth c H locs cells slots Q (F0 m 1925 ls []) := by
  have hx := C.1
  have hb := C.2.1
  have hst := hL.2.2.2.1
  obtain ⟨σ', T', g', h', k1, k2, k3, k4, k5, ko⟩ := st_ask hs hM hC (xs (x4 + 1).toNatClampNeg)
  obtain ⟨r, k, fo', e1, e2, e3, e4⟩ : ∃ (r : Int32) (k : Int32) (fo' : Nat → Int64), fX12_ask g (xs (x4 + 1).toNatClampNeg) = some (r, g') ∧ g'.1 4 = k ∧ WOut l D cs adK adV yL_ask cL_ask 4 [(0, 9, 12, 19), (0, 9, 15, 36), (0, 9, 18, 13)] [.ref (ad 0), .int (xs (x4 + 1).toNatClampNeg), .ref aO] (SW cs ad al P h ++ outC cs aO fo :: MW cs ad' g) k (SW cs ad al P h' ++ outC cs aO fo' :: MW cs ad' g) ∧ (k = 0 → fo' 0 = r.toInt64) := by
    rcases ko with ⟨r, q1, q2, q3⟩ | ⟨r, e, w, q1, q0, q2, q3⟩
    · exact ⟨r, 0, _, q1, q2, ⟨_, 0, 0, nL_ask hst q3, ⟨rfl, rfl⟩, by decide, by decide, by decide, by decide⟩, fun _ => rfl⟩
    · simp only [List.mem_cons, Prod.mk.injEq, List.not_mem_nil, or_false] at q0
      rcases q0 with ⟨rfl, rfl⟩ | ⟨rfl, rfl⟩ | ⟨rfl, rfl⟩
      · exact ⟨r, 1, fo, q1, q2, ⟨_, 1, 6, xL_ask_2 hst q3, ⟨rfl, rfl⟩, by decide, by decide, by decide, by decide⟩, fun z => absurd z (by decide)⟩
      · exact ⟨r, 2, fo, q1, q2, ⟨_, 1, 6, xL_ask_3 hst q3, ⟨rfl, rfl⟩, by decide, by decide, by decide, by decide⟩, fun z => absurd z (by decide)⟩
      · exact ⟨r, 3, fo, q1, q2, ⟨_, 1, 6, xL_ask_1 hst q3, ⟨rfl, rfl⟩, by decide, by decide, by decide, by decide⟩, fun z => absurd z (by decide)⟩
  refine lv_aload_n hx hb dL_law_1925 rfl (lv_at hl 1 rfl) ?_
  refine s_ld 0 4 C hX hw hl rfl rfl dL_law_1926 dL_law_1927 dL_law_1929 dL_law_1930 dL_law_1931 (by decide) hin.1 ?_
  refine lv_aload_n hx hb dL_law_1932 rfl (lv_at hl 3 rfl) ?_
  refine w_callS (rest := []) [.ref (ad 0), .int (xs (x4 + 1).toNatClampNeg), .ref aO] C hL hw cw_L_240 e3 rfl (by decide) ⟨Nat.le_of_ble_eq_true rfl, Nat.le_of_ble_eq_true rfl⟩ hl.1 rfl (Nat.le_of_ble_eq_true rfl) hf dL_law_1933 (fun H locs hw => ?_)
  refine lv_istore (lv' := [(5, .int k), (0, .ref b), (1, .ref (ad 0)), (2, .ref (ad' 48)), (3, .ref aO), (4, .int x4)]) hx hb dL_law_1936 hl (by decide) rfl (fun ls hl => ?_)
  refine lv_aload_n hx hb dL_law_1938 rfl (lv_at hl 3 rfl) ?_
  refine s_ld 1 5 C hX hw hl rfl rfl dL_law_1939 dL_law_1940 dL_law_1942 dL_law_1943 dL_law_1944 (by decide) hin.1 ?_
  refine f_callM (r := some (.int r)) (rest := []) [.int (xs (x4 + 1).toNatClampNeg)] C hw cv_L_242 (qX12_ask e1) rfl ⟨rfl, rfl⟩ ⟨Nat.le_of_ble_eq_true rfl, Nat.le_of_ble_eq_true rfl⟩ (rv_M C hw) hl.1 rfl (Nat.le_of_ble_eq_true rfl) hf dL_law_1945 (fun H locs hw => ?_)
  refine lv_istore (lv' := [(6, .int r), (5, .int k), (0, .ref b), (1, .ref (ad 0)), (2, .ref (ad' 48)), (3, .ref aO), (4, .int x4)]) hx hb dL_law_1948 hl (by decide) rfl (fun ls hl => ?_)
  refine lv_aload_n hx hb dL_law_1950 rfl (lv_at hl 4 rfl) ?_
  refine f_callM (r := some (.int (g'.1 4))) (rest := []) [] C hw cv_L_134 (qX12_thrown rfl) rfl ⟨rfl, rfl⟩ ⟨Nat.le_of_ble_eq_true rfl, Nat.le_of_ble_eq_true rfl⟩ (rv_M C hw) hl.1 rfl (Nat.le_of_ble_eq_true rfl) hf dL_law_1951 (fun H locs hw => ?_)
  refine lv_iload hx hb dL_law_1954 (lv_at hl 1 rfl) ?_
  refine lv_icmp_eq (tgt := 1961) hx hb dL_law_1956 (by decide) (fun _ => ?_) (fun z => absurd e2 z)
  refine lv_iload hx hb dL_law_1961 (lv_at hl 1 rfl) ?_
  refine lv_if_ne (tgt := 1978) hx hb dL_law_1963 (by decide) (fun _ => ?_) (fun z => ?_)
  · refine lv_goto (tgt := 2453) hx hb dL_law_1978 (by decide) ?_
    exact kk σ' P T' g' h' al fo' H locs ls k1 k4 k5 k3 hw (lv_sub hl [2, 3, 4, 5, 6] rfl)
  · refine lv_aload_n hx hb dL_law_1966 rfl (lv_at hl 5 rfl) ?_
    refine lv_iconst (v := (0 : Int32)) hx hb dL_law_1967 (by decide) ?_
    refine o_load C hw dL_law_1968 ?_
    refine lv_iload hx hb dL_law_1969 (lv_at hl 0 rfl) ?_
    refine lv_i2l hx hb dL_law_1971 rfl ?_
    refine W.lcmp hx hb dL_law_1972 ?_
    refine lv_if_eq (tgt := 1978) hx hb dL_law_1973 (by decide) (fun _ => ?_) (fun y => absurd ((lg_cmp_eq _ _).mpr (e4 z)) y)
    refine lv_goto (tgt := 2453) hx hb dL_law_1978 (by decide) ?_
    exact kk σ' P T' g' h' al fo' H locs ls k1 k4 k5 k3 hw (lv_sub hl [2, 3, 4, 5, 6] rfl)

set_option maxHeartbeats 4000000 in
set_option maxRecDepth 100000 in
theorem lc_34 {p : Program} {l : Launch} {e : Env} {s : State} {m : MethodId} {args : Array Value} {below : List Frame} {meth : Method} {c : Code} {H : Heap} {locs : List Loc} {cells slots : Nat} {Q : State → Prop} {D : va_G} {cs : Nat → ClassId} {ad ad' al adK adV : Nat → Nat} {A : Nat → Prop} {b L aO T : Nat} {xs : Nat → Int32} {x4 : Int32} {σ : AS} {P : PL} {g : MS} {h : CS} {fo : Nat → Int64} {ls : Array Slot} (C : MCx p s m args meth c A RL cL_law 8 (some .boolean) D cs) (hL : LC l s args adK adV A) (hX : LX s A b L xs) (hin : Hin x4 L) (hs : wfS σ) (hM : MI σ g) (hC : CI σ P T h) (hT : T + 31 < 2 ^ 31) (hw : MH D (SW cs ad al P h ++ outC cs aO fo :: MW cs ad' g) A s H locs) (hl : lv_has ls 8 (lvL b (ad 0) (ad' 48) aO x4)) (hf : cells + 131 ≤ room_1.cells ∧ slots + 1006 ≤ room_1.slots) (kk : Nx p l e s m args below meth c D cs A ad ad' b aO x4 T cells slots Q) : W p l e room_1 s m args below meth c H locs cells slots Q (F0 m 1981 ls []) := by
  have hx := C.1
  have hb := C.2.1
  have hst := hL.2.2.2.1
  obtain ⟨σ', T', g', h', k1, k2, k3, k4, k5, ko⟩ := st_chance hs hM hC (xs (x4 + 1).toNatClampNeg) (xs (x4 + 2).toNatClampNeg) (xs (x4 + 3).toNatClampNeg)
  obtain ⟨r, k, fo', e1, e2, e3, e4⟩ : ∃ (r : Int32) (k : Int32) (fo' : Nat → Int64), fX12_chance g (xs (x4 + 1).toNatClampNeg) (xs (x4 + 2).toNatClampNeg) (xs (x4 + 3).toNatClampNeg) = some (r, g') ∧ g'.1 4 = k ∧ WOut l D cs adK adV yL_chance cL_chance 6 [(0, 12, 15, 19), (0, 12, 19, 13)] [.ref (ad 0), .int (xs (x4 + 1).toNatClampNeg), .int (xs (x4 + 2).toNatClampNeg), .int (xs (x4 + 3).toNatClampNeg), .ref aO] (SW cs ad al P h ++ outC cs aO fo :: MW cs ad' g) k (SW cs ad al P h' ++ outC cs aO fo' :: MW cs ad' g) ∧ (k = 0 → fo' 0 = r.toInt64) := by
    rcases ko with ⟨r, q1, q2, q3⟩ | ⟨r, e, w, q1, q0, q2, q3⟩
    · exact ⟨r, 0, _, q1, q2, ⟨_, 0, 0, nL_chance hst q3, ⟨rfl, rfl⟩, by decide, by decide, by decide, by decide⟩, fun _ => rfl⟩
    · simp only [List.mem_cons, Prod.mk.injEq, List.not_mem_nil, or_false] at q0
      rcases q0 with ⟨rfl, rfl⟩ | ⟨rfl, rfl⟩
      · exact ⟨r, 1, fo, q1, q2, ⟨_, 1, 6, xL_chance_2 hst q3, ⟨rfl, rfl⟩, by decide, by decide, by decide, by decide⟩, fun z => absurd z (by decide)⟩
      · exact ⟨r, 2, fo, q1, q2, ⟨_, 1, 6, xL_chance_1 hst q3, ⟨rfl, rfl⟩, by decide, by decide, by decide, by decide⟩, fun z => absurd z (by decide)⟩
  refine lv_aload_n hx hb dL_law_1981 rfl (lv_at hl 1 rfl) ?_
  refine s_ld 0 4 C hX hw hl rfl rfl dL_law_1982 dL_law_1983 dL_law_1985 dL_law_1986 dL_law_1987 (by decide) hin.1 ?_
  refine s_ld 0 4 C hX hw hl rfl rfl dL_law_1988 dL_law_1989 dL_law_1991 dL_law_1992 dL_law_1993 (by decide) hin.2.1 ?_
  refine s_ld 0 4 C hX hw hl rfl rfl dL_law_1994 dL_law_1995 dL_law_1997 dL_law_1998 dL_law_1999 (by decide) hin.2.2.1 ?_
  refine lv_aload_n hx hb dL_law_2000 rfl (lv_at hl 3 rfl) ?_
  refine w_callS (rest := []) [.ref (ad 0), .int (xs (x4 + 1).toNatClampNeg), .int (xs (x4 + 2).toNatClampNeg), .int (xs (x4 + 3).toNatClampNeg), .ref aO] C hL hw cw_L_243 e3 rfl (by decide) ⟨Nat.le_of_ble_eq_true rfl, Nat.le_of_ble_eq_true rfl⟩ hl.1 rfl (Nat.le_of_ble_eq_true rfl) hf dL_law_2001 (fun H locs hw => ?_)
  refine lv_istore (lv' := [(5, .int k), (0, .ref b), (1, .ref (ad 0)), (2, .ref (ad' 48)), (3, .ref aO), (4, .int x4)]) hx hb dL_law_2004 hl (by decide) rfl (fun ls hl => ?_)
  refine lv_aload_n hx hb dL_law_2006 rfl (lv_at hl 3 rfl) ?_
  refine s_ld 1 5 C hX hw hl rfl rfl dL_law_2007 dL_law_2008 dL_law_2010 dL_law_2011 dL_law_2012 (by decide) hin.1 ?_
  refine s_ld 1 5 C hX hw hl rfl rfl dL_law_2013 dL_law_2014 dL_law_2016 dL_law_2017 dL_law_2018 (by decide) hin.2.1 ?_
  refine s_ld 1 5 C hX hw hl rfl rfl dL_law_2019 dL_law_2020 dL_law_2022 dL_law_2023 dL_law_2024 (by decide) hin.2.2.1 ?_
  refine f_callM (r := some (.int r)) (rest := []) [.int (xs (x4 + 1).toNatClampNeg), .int (xs (x4 + 2).toNatClampNeg), .int (xs (x4 + 3).toNatClampNeg)] C hw cv_L_246 (qX12_chance e1) rfl ⟨rfl, rfl⟩ ⟨Nat.le_of_ble_eq_true rfl, Nat.le_of_ble_eq_true rfl⟩ (rv_M C hw) hl.1 rfl (Nat.le_of_ble_eq_true rfl) hf dL_law_2025 (fun H locs hw => ?_)
  refine lv_istore (lv' := [(6, .int r), (5, .int k), (0, .ref b), (1, .ref (ad 0)), (2, .ref (ad' 48)), (3, .ref aO), (4, .int x4)]) hx hb dL_law_2028 hl (by decide) rfl (fun ls hl => ?_)
  refine lv_aload_n hx hb dL_law_2030 rfl (lv_at hl 4 rfl) ?_
  refine f_callM (r := some (.int (g'.1 4))) (rest := []) [] C hw cv_L_134 (qX12_thrown rfl) rfl ⟨rfl, rfl⟩ ⟨Nat.le_of_ble_eq_true rfl, Nat.le_of_ble_eq_true rfl⟩ (rv_M C hw) hl.1 rfl (Nat.le_of_ble_eq_true rfl) hf dL_law_2031 (fun H locs hw => ?_)
  refine lv_iload hx hb dL_law_2034 (lv_at hl 1 rfl) ?_
  refine lv_icmp_eq (tgt := 2041) hx hb dL_law_2036 (by decide) (fun _ => ?_) (fun z => absurd e2 z)
  refine lv_iload hx hb dL_law_2041 (lv_at hl 1 rfl) ?_
  refine lv_if_ne (tgt := 2058) hx hb dL_law_2043 (by decide) (fun _ => ?_) (fun z => ?_)
  · refine lv_goto (tgt := 2453) hx hb dL_law_2058 (by decide) ?_
    exact kk σ' P T' g' h' al fo' H locs ls k1 k4 k5 k3 hw (lv_sub hl [2, 3, 4, 5, 6] rfl)
  · refine lv_aload_n hx hb dL_law_2046 rfl (lv_at hl 5 rfl) ?_
    refine lv_iconst (v := (0 : Int32)) hx hb dL_law_2047 (by decide) ?_
    refine o_load C hw dL_law_2048 ?_
    refine lv_iload hx hb dL_law_2049 (lv_at hl 0 rfl) ?_
    refine lv_i2l hx hb dL_law_2051 rfl ?_
    refine W.lcmp hx hb dL_law_2052 ?_
    refine lv_if_eq (tgt := 2058) hx hb dL_law_2053 (by decide) (fun _ => ?_) (fun y => absurd ((lg_cmp_eq _ _).mpr (e4 z)) y)
    refine lv_goto (tgt := 2453) hx hb dL_law_2058 (by decide) ?_
    exact kk σ' P T' g' h' al fo' H locs ls k1 k4 k5 k3 hw (lv_sub hl [2, 3, 4, 5, 6] rfl)
