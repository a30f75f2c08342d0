/-! ===== the law's switch and its loop ===== -/
set_option maxHeartbeats 4000000 in
set_option maxRecDepth 100000 in
theorem law_switch {p : Program} {l : Launch} {e : Env} {s : State} {m : MethodId} {args : Array Value} {below : List Frame} {meth : Method} {c : Code} {H : Heap} {locs : List Loc} {cells slots : Nat} {Q : State → Prop} {D : va_G} {cs : Nat → ClassId} {ad ad' al adK adV : Nat → Nat} {A : Nat → Prop} {b L aO T : Nat} {xs : Nat → Int32} {x4 : Int32} {σ : AS} {P : PL} {g : MS} {h : CS} {fo : Nat → Int64} {ls : Array Slot} {v : Int32} (C : MCx p s m args meth c A RL cL_law 8 (some .boolean) D cs) (hL : LC l s args adK adV A) (hX : LX s A b L xs) (hin : Hin x4 L) (hs : wfS σ) (hM : MI σ g) (hC : CI σ P T h) (hT : T + 31 < 2 ^ 31) (hw : MH D (SW cs ad al P h ++ outC cs aO fo :: MW cs ad' g) A s H locs) (hl : lv_has ls 8 (lvL b (ad 0) (ad' 48) aO x4)) (hf : cells + 131 ≤ room_1.cells ∧ slots + 1006 ≤ room_1.slots) (kk : Nx p l e s m args below meth c D cs A ad ad' b aO x4 T cells slots Q) : W p l e room_1 s m args below meth c H locs cells slots Q (F0 m 40 ls [.int v]) := by
  have hx := C.1
  have hb := C.2.1
  by_cases h0 : v.toInt < 0 ∨ 41 < v.toInt
  · refine lv_tableOut (tgt := 2453) hx hb dL_law_40 h0 (by decide) ?_
    exact W.widen (Nat.le_add_right _ _) (Nat.le_add_right _ _) (kk σ P T g h al fo H locs ls hs hM hC (Nat.le_add_right _ _) hw hl)
  · have h1 : ¬ v.toInt < 0 := fun z => h0 (Or.inl z)
    have h2 : ¬ 41 < v.toInt := fun z => h0 (Or.inr z)
    obtain ⟨n, hn, e⟩ : ∃ n : Nat, n < 42 ∧ v.toInt = (n : Int) := ⟨v.toInt.toNat, by omega, by omega⟩
    match n, hn, e with
    | 0, _, e => exact lv_tableIn (off := 184) (tgt := 224) hx hb dL_law_40 h1 h2 (by rw [e]; rfl) (by decide) (lc_0 C hL hX hin hs hM hC hT hw hl hf kk)
    | 1, _, e => exact lv_tableIn (off := 257) (tgt := 297) hx hb dL_law_40 h1 h2 (by rw [e]; rfl) (by decide) (lc_1 C hL hX hin hs hM hC hT hw hl hf kk)
    | 2, _, e => exact lv_tableIn (off := 313) (tgt := 353) hx hb dL_law_40 h1 h2 (by rw [e]; rfl) (by decide) (lc_2 C hL hX hin hs hM hC hT hw hl hf kk)
    | 3, _, e => exact lv_tableIn (off := 338) (tgt := 378) hx hb dL_law_40 h1 h2 (by rw [e]; rfl) (by decide) (lc_3 C hL hX hin hs hM hC hT hw hl hf kk)
    | 4, _, e => exact lv_tableIn (off := 406) (tgt := 446) hx hb dL_law_40 h1 h2 (by rw [e]; rfl) (by decide) (lc_4 C hL hX hin hs hM hC hT hw hl hf kk)
    | 5, _, e => exact lv_tableIn (off := 419) (tgt := 459) hx hb dL_law_40 h1 h2 (by rw [e]; rfl) (by decide) (lc_5 C hL hX hin hs hM hC hT hw hl hf kk)
    | 6, _, e => exact lv_tableIn (off := 475) (tgt := 515) hx hb dL_law_40 h1 h2 (by rw [e]; rfl) (by decide) (lc_6 C hL hX hin hs hM hC hT hw hl hf kk)
    | 7, _, e => exact lv_tableIn (off := 531) (tgt := 571) hx hb dL_law_40 h1 h2 (by rw [e]; rfl) (by decide) (lc_7 C hL hX hin hs hM hC hT hw hl hf kk)
    | 8, _, e => exact lv_tableIn (off := 568) (tgt := 608) hx hb dL_law_40 h1 h2 (by rw [e]; rfl) (by decide) (lc_8 C hL hX hin hs hM hC hT hw hl hf kk)
    | 9, _, e => exact lv_tableIn (off := 605) (tgt := 645) hx hb dL_law_40 h1 h2 (by rw [e]; rfl) (by decide) (lc_9 C hL hX hin hs hM hC hT hw hl hf kk)
    | 10, _, e => exact lv_tableIn (off := 630) (tgt := 670) hx hb dL_law_40 h1 h2 (by rw [e]; rfl) (by decide) (lc_10 C hL hX hin hs hM hC hT hw hl hf kk)
    | 11, _, e => exact lv_tableIn (off := 686) (tgt := 726) hx hb dL_law_40 h1 h2 (by rw [e]; rfl) (by decide) (lc_11 C hL hX hin hs hM hC hT hw hl hf kk)
    | 12, _, e => exact lv_tableIn (off := 742) (tgt := 782) hx hb dL_law_40 h1 h2 (by rw [e]; rfl) (by decide) (lc_12 C hL hX hin hs hM hC hT hw hl hf kk)
    | 13, _, e => exact lv_tableIn (off := 810) (tgt := 850) hx hb dL_law_40 h1 h2 (by rw [e]; rfl) (by decide) (lc_13 C hL hX hin hs hM hC hT hw hl hf kk)
    | 14, _, e => exact lv_tableIn (off := 866) (tgt := 906) hx hb dL_law_40 h1 h2 (by rw [e]; rfl) (by decide) (lc_14 C hL hX hin hs hM hC hT hw hl hf kk)
    | 15, _, e => exact lv_tableIn (off := 934) (tgt := 974) hx hb dL_law_40 h1 h2 (by rw [e]; rfl) (by decide) (lc_15 C hL hX hin hs hM hC hT hw hl hf kk)
    | 16, _, e => exact lv_tableIn (off := 1002) (tgt := 1042) hx hb dL_law_40 h1 h2 (by rw [e]; rfl) (by decide) (lc_16 C hL hX hin hs hM hC hT hw hl hf kk)
    | 17, _, e => exact lv_tableIn (off := 1058) (tgt := 1098) hx hb dL_law_40 h1 h2 (by rw [e]; rfl) (by decide) (lc_17 C hL hX hin hs hM hC hT hw hl hf kk)
    | 18, _, e => exact lv_tableIn (off := 1126) (tgt := 1166) hx hb dL_law_40 h1 h2 (by rw [e]; rfl) (by decide) (lc_18 C hL hX hin hs hM hC hT hw hl hf kk)
    | 19, _, e => exact lv_tableIn (off := 1139) (tgt := 1179) hx hb dL_law_40 h1 h2 (by rw [e]; rfl) (by decide) (lc_19 C hL hX hin hs hM hC hT hw hl hf kk)
    | 20, _, e => exact lv_tableIn (off := 1152) (tgt := 1192) hx hb dL_law_40 h1 h2 (by rw [e]; rfl) (by decide) (lc_20 C hL hX hin hs hM hC hT hw hl hf kk)
    | 21, _, e => exact lv_tableIn (off := 1208) (tgt := 1248) hx hb dL_law_40 h1 h2 (by rw [e]; rfl) (by decide) (lc_21 C hL hX hin hs hM hC hT hw hl hf kk)
    | 22, _, e => exact lv_tableIn (off := 1221) (tgt := 1261) hx hb dL_law_40 h1 h2 (by rw [e]; rfl) (by decide) (lc_22 C hL hX hin hs hM hC hT hw hl hf kk)
    | 23, _, e => exact lv_tableIn (off := 1277) (tgt := 1317) hx hb dL_law_40 h1 h2 (by rw [e]; rfl) (by decide) (lc_23 C hL hX hin hs hM hC hT hw hl hf kk)
    | 24, _, e => exact lv_tableIn (off := 1345) (tgt := 1385) hx hb dL_law_40 h1 h2 (by rw [e]; rfl) (by decide) (lc_24 C hL hX hin hs hM hC hT hw hl hf kk)
    | 25, _, e => exact lv_tableIn (off := 1401) (tgt := 1441) hx hb dL_law_40 h1 h2 (by rw [e]; rfl) (by decide) (lc_25 C hL hX hin hs hM hC hT hw hl hf kk)
    | 26, _, e => exact lv_tableIn (off := 1457) (tgt := 1497) hx hb dL_law_40 h1 h2 (by rw [e]; rfl) (by decide) (lc_26 C hL hX hin hs hM hC hT hw hl hf kk)
    | 27, _, e => exact lv_tableIn (off := 1513) (tgt := 1553) hx hb dL_law_40 h1 h2 (by rw [e]; rfl) (by decide) (lc_27 C hL hX hin hs hM hC hT hw hl hf kk)
    | 28, _, e => exact lv_tableIn (off := 1569) (tgt := 1609) hx hb dL_law_40 h1 h2 (by rw [e]; rfl) (by decide) (lc_28 C hL hX hin hs hM hC hT hw hl hf kk)
    | 29, _, e => exact lv_tableIn (off := 1637) (tgt := 1677) hx hb dL_law_40 h1 h2 (by rw [e]; rfl) (by decide) (lc_29 C hL hX hin hs hM hC hT hw hl hf kk)
    | 30, _, e => exact lv_tableIn (off := 1705) (tgt := 1745) hx hb dL_law_40 h1 h2 (by rw [e]; rfl) (by decide) (lc_30 C hL hX hin hs hM hC hT hw hl hf kk)
    | 31, _, e => exact lv_tableIn (off := 1761) (tgt := 1801) hx hb dL_law_40 h1 h2 (by rw [e]; rfl) (by decide) (lc_31 C hL hX hin hs hM hC hT hw hl hf kk)
    | 32, _, e => exact lv_tableIn (off := 1817) (tgt := 1857) hx hb dL_law_40 h1 h2 (by rw [e]; rfl) (by decide) (lc_32 C hL hX hin hs hM hC hT hw hl hf kk)
    | 33, _, e => exact lv_tableIn (off := 1885) (tgt := 1925) hx hb dL_law_40 h1 h2 (by rw [e]; rfl) (by decide) (lc_33 C hL hX hin hs hM hC hT hw hl hf kk)
    | 34, _, e => exact lv_tableIn (off := 1941) (tgt := 1981) hx hb dL_law_40 h1 h2 (by rw [e]; rfl) (by decide) (lc_34 C hL hX hin hs hM hC hT hw hl hf kk)
    | 35, _, e => exact lv_tableIn (off := 2021) (tgt := 2061) hx hb dL_law_40 h1 h2 (by rw [e]; rfl) (by decide) (lc_35 C hL hX hin hs hM hC hT hw hl hf kk)
    | 36, _, e => exact lv_tableIn (off := 2077) (tgt := 2117) hx hb dL_law_40 h1 h2 (by rw [e]; rfl) (by decide) (lc_36 C hL hX hin hs hM hC hT hw hl hf kk)
    | 37, _, e => exact lv_tableIn (off := 2137) (tgt := 2177) hx hb dL_law_40 h1 h2 (by rw [e]; rfl) (by decide) (lc_37 C hL hX hin hs hM hC hT hw hl hf kk)
    | 38, _, e => exact lv_tableIn (off := 2248) (tgt := 2288) hx hb dL_law_40 h1 h2 (by rw [e]; rfl) (by decide) (lc_38 C hL hX hin hs hM hC hT hw hl hf kk)
    | 39, _, e => exact lv_tableIn (off := 2316) (tgt := 2356) hx hb dL_law_40 h1 h2 (by rw [e]; rfl) (by decide) (lc_39 C hL hX hin hs hM hC hT hw hl hf kk)
    | 40, _, e => exact lv_tableIn (off := 2352) (tgt := 2392) hx hb dL_law_40 h1 h2 (by rw [e]; rfl) (by decide) (lc_40 C hL hX hin hs hM hC hT hw hl hf kk)
    | 41, _, e => exact lv_tableIn (off := 2388) (tgt := 2428) hx hb dL_law_40 h1 h2 (by rw [e]; rfl) (by decide) (lc_41 C hL hX hin hs hM hC hT hw hl hf kk)
    | k + 42, hn, _ => exact absurd hn (by omega)
theorem l_six {L : Nat} (hL : L ≤ 3072) : (Int32.ofNat L - 6).toInt = (L : Int) - 6 := by
  have h1 : (Int32.ofNat L).toInt = (L : Int) := nI_toInt (n := L) (by omega)
  have h2 : (6 : Int32).toInt = 6 := rfl
  rw [fb_subI (by rw [h1, h2]; omega) (by rw [h1, h2]; omega), h1, h2]
theorem l_goes {L k : Nat} (hL : L ≤ 3072) (hk : 6 * k ≤ L) (h : ¬ Int32.ofNat L - 6 < nI (6 * k)) : 6 * k + 6 ≤ L := by
  rw [Int32.lt_iff_toInt_lt, l_six hL, nI_toInt (by omega)] at h
  omega
theorem l_hin {L k : Nat} (hL : L ≤ 3072) (h : 6 * k + 6 ≤ L) : vp_in (nI (6 * k)) L ∧ Hin (nI (6 * k)) L := by
  have a : ∀ j, j < 6 → vp_in (nI (6 * k + j)) L := fun j hj => vp_in_nI (by omega) (by omega)
  have b : ∀ j, j < 6 → vp_in (nI (6 * k) + nI j) L := fun j hj => by rw [nI_add]; exact a j hj
  exact ⟨a 0 (by omega), b 1 (by omega), b 2 (by omega), b 3 (by omega), b 4 (by omega), b 5 (by omega)⟩
section
variable {p : Program} {l : Launch} {e : Env} {s : State} {m : MethodId} {args : Array Value} {below : List Frame} {meth : Method} {c : Code} {Q : State → Prop} {D : va_G} {cs : Nat → ClassId} {ad ad' adK adV : Nat → Nat} {A : Nat → Prop} {b L aO : Nat} {xs : Nat → Int32}
set_option maxHeartbeats 4000000 in
set_option maxRecDepth 100000 in
theorem law_loop (C : MCx p s m args meth c A RL cL_law 8 (some .boolean) D cs) (hLC : LC l s args adK adV A) (hX : LX s A b L xs) (hL : L ≤ 3072)
    (hend : ∀ (H : Heap) (locs : List Loc) (ls : Array Slot) (cells slots : Nat), cells ≤ 601024 → slots ≤ 7293034 → va_S A s.heap H locs → W p l e room_1 s m args below meth c H locs cells slots Q (F0 m 2459 ls [])) :
    ∀ (n k : Nat), 6 * k ≤ L → L + 1 ≤ 6 * k + n → ∀ (σ : AS) (P : PL) (T : Nat) (g : MS) (h : CS) (al : Nat → Nat) (fo : Nat → Int64) (H : Heap) (locs : List Loc) (ls : Array Slot), wfS σ → MI σ g → CI σ P T h → T ≤ 31 * k → MH D (SW cs ad al P h ++ outC cs aO fo :: MW cs ad' g) A s H locs → lv_has ls 8 (lvL b (ad 0) (ad' 48) aO (nI (6 * k))) → W p l e room_1 s m args below meth c H locs (200 + 131 * k) (120000 + 1006 * k) Q (F0 m 23 ls []) := by
  have hx := C.1
  have hb := C.2.1
  intro n
  induction n with
  | zero =>
    intro k h1 h2
    exact absurd h2 (by omega)
  | succ n ih =>
    intro k hk hn σ P T g h al fo H locs ls hs hM hC hT hw hl
    refine lv_iload hx hb dL_law_23 (lv_at hl 4 rfl) ?_
    refine lv_aload_n hx hb dL_law_25 rfl (lv_at hl 0 rfl) ?_
    refine va_slen hx hb hX.1 hX.2.1 hX.2.2 hw.2.2 dL_law_26 ?_
    refine lv_bipush (v := 6) hx hb dL_law_27 (by decide) ?_
    refine lv_isub hx hb dL_law_29 ?_
    refine lv_icmp_gt (tgt := 2459) hx hb dL_law_30 (by decide) (fun _ => hend _ _ _ _ _ (by omega) (by omega) hw.2.2) (fun hge => ?_)
    have hk6 := l_goes hL hk hge
    obtain ⟨hi0, hin⟩ := l_hin hL hk6
    refine lv_aload_n hx hb dL_law_33 rfl (lv_at hl 0 rfl) ?_
    refine lv_iload hx hb dL_law_34 (lv_at hl 4 rfl) ?_
    refine va_sld hx hb hX.1 hX.2.1 hX.2.2 hw.2.2 hi0 dL_law_36 ?_
    refine lv_bipush (v := 63) hx hb dL_law_37 (by decide) ?_
    refine lv_iand hx hb dL_law_39 ?_
    have r1 : room_1.cells = 601024 := rfl
    have r2 : room_1.slots = 7293034 := rfl
    refine law_switch (fo := fo) (al := al) C hLC hX hin hs hM hC (by omega) hw hl ⟨by rw [r1]; omega, by rw [r2]; omega⟩ ?_
    intro σ' P' T' g' h' al' fo' H locs ls q1 q2 q3 q4 q5 q6
    refine lv_iinc (v := nI (6 * (k + 1))) (lv' := [(4, .int (nI (6 * (k + 1)))), (0, .ref b), (1, .ref (ad 0)), (2, .ref (ad' 48)), (3, .ref aO)]) hx hb dL_law_2453 q6 (k := 4) rfl (nI_add (6 * k) 6) (by decide) rfl (fun ls hl => ?_)
    refine lv_goto (tgt := 23) hx hb dL_law_2456 (by decide) ?_
    exact ih (k + 1) hk6 (by omega) σ' P' T' g' h' al' fo' H locs ls q1 q2 q3 (by omega) q5 (lv_sub hl [1, 2, 3, 4, 0] rfl)
end
