/-! ===== a number cut to a sort ===== -/
theorem sxt (x : BitVec 64) (k : Nat) (hk : k < 64) (i : Nat) (hi : i < 64) : ((x <<< k).sshiftRight k).getLsbD i = if i + k < 64 then x.getLsbD i else x.getLsbD (63 - k) := by
  rw [BitVec.getLsbD_sshiftRight]
  have hm : (x <<< k).msb = x.getLsbD (63 - k) := by
    rw [BitVec.msb_eq_getLsbD_last, BitVec.getLsbD_shiftLeft]
    rw [decide_eq_true (show 64 - 1 < 64 by omega), decide_eq_false (show ¬ 64 - 1 < k by omega)]
    rfl
  rw [decide_eq_false (show ¬ 64 ≤ i by omega)]
  by_cases h : i + k < 64
  · rw [if_pos h, if_pos (by omega), BitVec.getLsbD_shiftLeft, decide_eq_true (show k + i < 64 by omega), decide_eq_false (show ¬ k + i < k by omega), Nat.add_sub_cancel_left]
    simp
  · rw [if_neg h, if_neg (by omega), hm]
    simp
theorem sx8 (x : BitVec 64) : (x <<< 56).sshiftRight 56 = (((x.setWidth 32).setWidth 8).signExtend 32).signExtend 64 := by
  apply BitVec.eq_of_getLsbD_eq
  intro i hi
  rw [sxt x 56 (by omega) i hi]
  rw [BitVec.getLsbD_signExtend, BitVec.msb_signExtend]
  have hm : ((x.setWidth 32).setWidth 8).msb = x.getLsbD 7 := by
    rw [BitVec.msb_eq_getLsbD_last, BitVec.getLsbD_setWidth, BitVec.getLsbD_setWidth]
    simp
  rw [BitVec.getLsbD_signExtend, hm]
  by_cases h : i < 8
  · simp [h, show i < 64 by omega, show i < 32 by omega, show i + 56 < 64 by omega]
  · by_cases h2 : i < 32
    · simp [h, h2, hi, show ¬ i + 56 < 64 by omega]
    · simp [h2, hi, show ¬ i + 56 < 64 by omega]
theorem sx16 (x : BitVec 64) : (x <<< 48).sshiftRight 48 = (((x.setWidth 32).setWidth 16).signExtend 32).signExtend 64 := by
  apply BitVec.eq_of_getLsbD_eq
  intro i hi
  rw [sxt x 48 (by omega) i hi]
  rw [BitVec.getLsbD_signExtend, BitVec.msb_signExtend]
  have hm : ((x.setWidth 32).setWidth 16).msb = x.getLsbD 15 := by
    rw [BitVec.msb_eq_getLsbD_last, BitVec.getLsbD_setWidth, BitVec.getLsbD_setWidth]
    simp
  rw [BitVec.getLsbD_signExtend, hm]
  by_cases h : i < 16
  · simp [h, show i < 64 by omega, show i < 32 by omega, show i + 48 < 64 by omega]
  · by_cases h2 : i < 32
    · simp [h, h2, hi, show ¬ i + 48 < 64 by omega]
    · simp [h2, hi, show ¬ i + 48 < 64 by omega]
theorem sx32 (x : BitVec 64) : (x <<< 32).sshiftRight 32 = (x.setWidth 32).signExtend 64 := by
  apply BitVec.eq_of_getLsbD_eq
  intro i hi
  rw [sxt x 32 (by omega) i hi]
  have hm : (x.setWidth 32).msb = x.getLsbD 31 := by
    rw [BitVec.msb_eq_getLsbD_last, BitVec.getLsbD_setWidth]
    simp
  rw [BitVec.getLsbD_signExtend, hm]
  by_cases h : i < 32
  · simp [h, show i < 64 by omega, show i + 32 < 64 by omega]
  · simp [h, hi, show ¬ i + 32 < 64 by omega]
/-- v cut to the sort s -/
def ctA (s : Nat) (v : Int64) : Int64 := if s = 0 then v.toInt32.toInt8.toInt32.toInt64 else if s = 1 then v.toInt32.toInt16.toInt32.toInt64 else if s = 2 then v.toInt32.toInt64 else v
theorem shl_sh (v : Int64) (y : Int32) (k : Nat) (h : ((y.toInt64 &&& 63).toBitVec.smod 64).toNat = k) : (jshrL (jshlL v y) y).toBitVec = (v.toBitVec <<< k).sshiftRight k := by
  unfold jshrL jshlL
  rw [Int64.toBitVec_shiftRight, Int64.toBitVec_shiftLeft, BitVec.sshiftRight_eq', BitVec.shiftLeft_eq', h]
theorem cut_eq {s : Nat} (hs : s ≤ 3) (v : Int64) : jshrL (jshlL v ((64 : Int32) - (jshl (8 : Int32) (nI s)))) ((64 : Int32) - (jshl (8 : Int32) (nI s))) = ctA s v := by
  apply Int64.toBitVec_inj.mp
  rcases (show s = 0 ∨ s = 1 ∨ s = 2 ∨ s = 3 by omega) with q | q | q | q <;> subst q
  · rw [shl_sh _ _ 56 (by decide), sx8]
    show _ = (v.toInt32.toInt8.toInt32.toInt64).toBitVec
    rw [Int32.toBitVec_toInt64, Int8.toBitVec_toInt32, Int32.toBitVec_toInt8, Int64.toBitVec_toInt32, BitVec.signExtend_eq_setWidth_of_le (v := 32) v.toBitVec (by omega), BitVec.signExtend_eq_setWidth_of_le (v := 8) _ (by omega)]
  · rw [shl_sh _ _ 48 (by decide), sx16]
    show _ = (v.toInt32.toInt16.toInt32.toInt64).toBitVec
    rw [Int32.toBitVec_toInt64, Int16.toBitVec_toInt32, Int32.toBitVec_toInt16, Int64.toBitVec_toInt32, BitVec.signExtend_eq_setWidth_of_le (v := 32) v.toBitVec (by omega), BitVec.signExtend_eq_setWidth_of_le (v := 16) _ (by omega)]
  · rw [shl_sh _ _ 32 (by decide), sx32]
    show _ = (v.toInt32.toInt64).toBitVec
    rw [Int32.toBitVec_toInt64, Int64.toBitVec_toInt32, BitVec.signExtend_eq_setWidth_of_le (v := 32) v.toBitVec (by omega)]
  · rw [shl_sh _ _ 0 (by decide)]
    show (v.toBitVec <<< 0).sshiftRight 0 = v.toBitVec
    rw [BitVec.shiftLeft_zero, BitVec.sshiftRight_zero]
/-! ===== the reference's plain calls ===== -/
def memAns (b : AB) (m : Nat) (w : Int32) : Int32 := if w = 0 then nI (bA b m) else if w = 1 then pm (fcA (bN b) (bA b) m) else if w = 2 then nI (bW b m) else if w = 3 then nI (vt b (bA b) m) else if w = 4 then nI (stk b m).toNat else nI (prA b m)
def cntAns (q : AQ) (tl : Nat) (w : Int32) : Int32 := if w = 0 then nI (qL q) else if w = 1 then nI (bN (qB q)) else if w = 2 then nI (bS (qB q)) else if w = 3 then nI (bs (fun m => decide (bA (qB q) m = 0)) (bN (qB q))) else if w = 4 then nI (knA (bN (qB q)) (bA (qB q))) else if w = 5 then nI (fb_sm (bW (qB q)) (bN (qB q))) else if w = 6 then nI (qD q) else if w = 7 then nI tl else -1
section
variable {q : AQ} {g : MS}
theorem MRes.vts {g1 g2 : MS} {th : Nat} (h : MRes q th g g1) (f : fM [] [19, 20, 21, 22] g1 g2) : MRes q th g g2 := ⟨h.1.keepR f (by decide), by rw [f.1 4 (by decide)]; exact h.2.1, h.2.2.trans (kpM.of f (by decide) (by decide))⟩
theorem mMember_eq (hq : wfQ q) (hK : KQ q (g.2.1 0)) {m : Nat} (hm : m < bN (qB q)) {w : Int32} (hwh : upTo 5 w) : Ev (fX12_member g (nI m) w) (fun z => z.1 = memAns (qB q) m w ∧ MRes q 0 g z.2) := by
  have h6 := hq.1.2.1
  have e0 : (0 : Int64).toInt = 0 := rfl
  have e5 : (5 : Int64).toInt = 5 := rfl
  obtain ⟨n, hn, rfl⟩ := hwh
  unfold fX12_member fX12_member_31
  rw [isM_yes hq.1 hK.1 hm, bndc_s, if_neg (by decide), within_y (by rw [i64, n_toInt (by omega), e0]; omega) (by rw [i64, n_toInt (by omega), e5]; omega), bndv_s, if_neg (by decide), bnd_e, if_pos (show (sI g 4 (0 : Int32)).1 4 ≤ 0 from (by decide : (0 : Int32) ≤ 0))]
  refine Ev.v (aimsNow_eq hq.1 (g := sI g 4 0) hK.1) ?_
  rintro g1 ⟨a1, a2⟩
  have R1 := (MRes.same hK).vts (a2.mono (by decide) (by decide))
  refine Ev.v (laysVotes_eq hq.1 R1.1.1 hq.1.2.2.1 a1) ?_
  rintro g2 ⟨c1, c2⟩
  have R2 := R1.vts (c2.mono (by decide) (by decide))
  have hA2 : AR (bN (qB q)) (bA (qB q)) g2 := fun j hj => by rw [c2.row 21 (by decide)]; exact a1 j hj
  unfold memAns
  rcases (show n = 0 ∨ n = 1 ∨ n = 2 ∨ n = 3 ∨ n = 4 ∨ n = 5 by omega) with e | e | e | e | e | e <;> subst e
  · rw [if_pos (show nI 0 = (0 : Int32) from rfl)]
    refine Ev.k (ib_n (by omega) (by omega)) (ev_some.mpr ⟨?_, R2⟩)
    rw [ix_n (by omega), if_pos (show nI 0 = (0 : Int32) from rfl)]
    exact hA2 m hm
  · rw [if_neg (show ¬ nI 1 = (0 : Int32) by decide), if_pos (show nI 1 = (1 : Int32) from rfl), faced_eq hq.1 R2.1.1 hq.1.2.2.1 hA2 hm, bndc_s]
    exact ev_some.mpr ⟨by rw [if_neg (show ¬ nI 1 = (0 : Int32) by decide), if_pos (show nI 1 = (1 : Int32) from rfl)], R2⟩
  · rw [if_neg (show ¬ nI 2 = (0 : Int32) by decide), if_neg (show ¬ nI 2 = (1 : Int32) by decide), if_pos (show nI 2 = (2 : Int32) from rfl), l_12, nI_add]
    refine Ev.k (ib_n (by omega) (by omega)) (ev_some.mpr ⟨?_, R2⟩)
    rw [ix_n (by omega), if_neg (show ¬ nI 2 = (0 : Int32) by decide), if_neg (show ¬ nI 2 = (1 : Int32) by decide), if_pos (show nI 2 = (2 : Int32) from rfl)]
    exact R2.1.1.2.2.2.1 m hm
  · rw [if_neg (show ¬ nI 3 = (0 : Int32) by decide), if_neg (show ¬ nI 3 = (1 : Int32) by decide), if_neg (show ¬ nI 3 = (2 : Int32) by decide), if_pos (show nI 3 = (3 : Int32) from rfl)]
    refine Ev.k (ib_n (by omega) (by omega)) (ev_some.mpr ⟨?_, R2⟩)
    rw [ix_n (by omega), if_neg (show ¬ nI 3 = (0 : Int32) by decide), if_neg (show ¬ nI 3 = (1 : Int32) by decide), if_neg (show ¬ nI 3 = (2 : Int32) by decide), if_pos (show nI 3 = (3 : Int32) from rfl)]
    exact c1 m hm
  · rw [if_neg (show ¬ nI 4 = (0 : Int32) by decide), if_neg (show ¬ nI 4 = (1 : Int32) by decide), if_neg (show ¬ nI 4 = (2 : Int32) by decide), if_neg (show ¬ nI 4 = (3 : Int32) by decide), if_pos (show nI 4 = (4 : Int32) from rfl), isStuck_eq hq.1 R2.1.1 (by omega), bndc_s]
    rw [if_neg (show ¬ nI 4 = (0 : Int32) by decide), if_neg (show ¬ nI 4 = (1 : Int32) by decide), if_neg (show ¬ nI 4 = (2 : Int32) by decide), if_neg (show ¬ nI 4 = (3 : Int32) by decide), if_pos (show nI 4 = (4 : Int32) from rfl)]
    cases stk (qB q) m with
    | true => rw [if_neg (by decide)]; exact ev_some.mpr ⟨rfl, R2⟩
    | false => rw [if_pos (by decide)]; exact ev_some.mpr ⟨rfl, R2⟩
  · rw [if_neg (show ¬ nI 5 = (0 : Int32) by decide), if_neg (show ¬ nI 5 = (1 : Int32) by decide), if_neg (show ¬ nI 5 = (2 : Int32) by decide), if_neg (show ¬ nI 5 = (3 : Int32) by decide), if_neg (show ¬ nI 5 = (4 : Int32) by decide)]
    rw [if_neg (show ¬ nI 5 = (0 : Int32) by decide), if_neg (show ¬ nI 5 = (1 : Int32) by decide), if_neg (show ¬ nI 5 = (2 : Int32) by decide), if_neg (show ¬ nI 5 = (3 : Int32) by decide), if_neg (show ¬ nI 5 = (4 : Int32) by decide)]
    refine Ev.c (notchCosts_eq hq.1 R2.1.1 hm) ?_
    rintro x g3 ⟨d1, d2⟩
    exact ev_some.mpr ⟨d1, R2.vts (d2.mono (by decide) (by decide))⟩
theorem mMember_n1 (hq : wfQ q) (hK : KQ q (g.2.1 0)) {x : Int32} (h : ¬ mem (bN (qB q)) x) (y : Int32) : Ev (fX12_member g x y) (fun z => MRes q 1 g z.2) := by
  unfold fX12_member fX12_member_31
  rw [isM_no hq.1 hK.1 h, bndc_s, if_pos rfl, bnd_e, if_neg (show ¬ (sI g 4 (1 : Int32)).1 4 ≤ 0 from (by decide : ¬ (1 : Int32) ≤ 0))]
  exact ev_some.mpr (MRes.fail hK 1)
theorem mMember_n2 (hq : wfQ q) (hK : KQ q (g.2.1 0)) {m : Nat} (hm : m < bN (qB q)) {y : Int32} (h : ¬ upTo 5 y) : Ev (fX12_member g (nI m) y) (fun z => MRes q 2 g z.2) := by
  have e0 : (0 : Int64).toInt = 0 := rfl
  have e5 : (5 : Int64).toInt = 5 := rfl
  unfold fX12_member fX12_member_31
  rw [isM_yes hq.1 hK.1 hm, bndc_s, if_neg (by decide), within_n (by rw [i64, e0, e5]; exact fun z => h (upTo_of z.1 z.2)), bndv_s, if_pos rfl, bnd_e, if_neg (show ¬ (sI g 4 (2 : Int32)).1 4 ≤ 0 from (by decide : ¬ (2 : Int32) ≤ 0))]
  exact ev_some.mpr (MRes.fail hK 2)
theorem mChairC_eq (hq : wfQ q) (hK : KQ q (g.2.1 0)) : Ev (fX12_chair g) (fun z => z.1 = pm (chA (qB q) (bA (qB q))) ∧ MRes q 0 g z.2) := by
  unfold fX12_chair
  rw [bnd_e]
  refine Ev.c (chairNow_eq (g := sI g 4 0) hq.1 hK.1) ?_
  rintro r g1 ⟨q1, -, -, f1⟩
  exact ev_some.mpr ⟨q1, (MRes.same hK).vts (f1.mono (by decide) (by decide))⟩
theorem mDrags_eq (hq : wfQ q) (hK : KQ q (g.2.1 0)) {m : Nat} (hm : m < bN (qB q)) : Ev (fX12_drags g (nI m)) (fun z => z.1 = nI (bs (alA (qB q) m) (bN (qB q))) ∧ MRes q 0 g z.2) := by
  unfold fX12_drags
  rw [bnd_e, isM_yes (g := sI g 4 0) hq.1 hK.1 hm, bndc_s, if_neg (by decide)]
  refine Ev.c (draggedBy_eq (g := sI g 4 0) hq.1 hK.1 hm) ?_
  rintro r g1 ⟨q1, f1⟩
  exact ev_some.mpr ⟨q1, (MRes.same hK).vts (f1.mono (by decide) (by decide))⟩
theorem mDrags_no (hq : wfQ q) (hK : KQ q (g.2.1 0)) {x : Int32} (h : ¬ mem (bN (qB q)) x) : Ev (fX12_drags g x) (fun z => MRes q 1 g z.2) := by
  unfold fX12_drags fX12_fails
  rw [bnd_e, isM_no (g := sI g 4 0) hq.1 hK.1 h, bndc_s, if_pos rfl, bnd_e, bndc_s]
  exact ev_some.mpr ⟨hK, rfl, (kpM.th g 0).trans (kpM.th _ _)⟩
theorem mGoes_eq (hq : wfQ q) (hK : KQ q (g.2.1 0)) {m : Nat} (hm : m < bN (qB q)) : Ev (fX12_goes g (nI m)) (fun z => z.1 = nI (byA (qB q) (bA (qB q)) m) ∧ MRes q 0 g z.2) := by
  have h6 := hq.1.2.1
  unfold fX12_goes
  rw [bnd_e, isM_yes (g := sI g 4 0) hq.1 hK.1 hm, bndc_s, if_neg (by decide)]
  refine Ev.v (aimsNow_eq hq.1 (g := sI g 4 0) hK.1) ?_
  rintro g1 ⟨a1, a2⟩
  have R1 := (MRes.same hK).vts (a2.mono (by decide) (by decide))
  refine Ev.v (laysVotes_eq hq.1 R1.1.1 hq.1.2.2.1 a1) ?_
  rintro g2 ⟨c1, c2⟩
  have R2 := R1.vts (c2.mono (by decide) (by decide))
  have hA2 : AR (bN (qB q)) (bA (qB q)) g2 := fun j hj => by rw [c2.row 21 (by decide)]; exact a1 j hj
  rw [isStuck_eq hq.1 R2.1.1 (by omega), bndc_s]
  unfold byA
  rw [if_neg (show ¬ bN (qB q) ≤ m by omega)]
  cases stk (qB q) m with
  | true =>
    rw [if_neg (by decide), if_pos rfl]
    exact ev_some.mpr ⟨rfl, R2⟩
  | false =>
    rw [if_pos (by decide), if_neg (by decide)]
    refine Ev.c (goesBy_eq hq.1 R2.1.1 hq.1.2.2.1 hA2 c1 hm) ?_
    rintro x g3 ⟨d1, d2⟩
    exact ev_some.mpr ⟨d1, R2.vts (d2.mono (by decide) (by decide))⟩
theorem mGoes_no (hq : wfQ q) (hK : KQ q (g.2.1 0)) {x : Int32} (h : ¬ mem (bN (qB q)) x) : Ev (fX12_goes g x) (fun z => MRes q 1 g z.2) := by
  unfold fX12_goes fX12_fails
  rw [bnd_e, isM_no (g := sI g 4 0) hq.1 hK.1 h, bndc_s, if_pos rfl, bnd_e, bndc_s]
  exact ev_some.mpr ⟨hK, rfl, (kpM.th g 0).trans (kpM.th _ _)⟩
theorem mCount_eq (hq : wfQ q) (hK : KQ q (g.2.1 0)) {tl : Nat} (h6 : g.1 6 = nI tl) (w : Int32) : Ev (fX12_count g w) (fun z => z.1 = cntAns q tl w ∧ MRes q 0 g z.2) := by
  unfold fX12_count
  rw [bnd_e]
  refine Ev.v (aimsNow_eq hq.1 (g := sI g 4 0) hK.1) ?_
  rintro g1 ⟨a1, a2⟩
  have R := (MRes.same hK).vts (a2.mono (by decide) (by decide))
  have e6 : g1.1 6 = nI tl := by rw [a2.1 6 (by decide)]; exact h6
  unfold cntAns
  by_cases w0 : w = 0
  · rw [if_pos w0, if_pos w0]
    exact Ev.k (by decide) (ev_some.mpr ⟨R.1.2.1, R⟩)
  rw [if_neg w0, if_neg w0]
  by_cases w1 : w = 1
  · rw [if_pos w1, if_pos w1, size_eq R.1.1, bndc_s]
    exact ev_some.mpr ⟨rfl, R⟩
  rw [if_neg w1, if_neg w1]
  by_cases w2 : w = 2
  · rw [if_pos w2, if_pos w2]
    exact Ev.k (by decide) (ev_some.mpr ⟨R.1.1.2.1, R⟩)
  rw [if_neg w2, if_neg w2]
  by_cases w3 : w = 3
  · rw [if_pos w3, if_pos w3, outs_eq hq.1 R.1.1, bndc_s]
    exact ev_some.mpr ⟨rfl, R⟩
  rw [if_neg w3, if_neg w3]
  by_cases w4 : w = 4
  · rw [if_pos w4, if_pos w4, kneesBy_eq hq.1 R.1.1 hq.1.2.2.1 a1, bndc_s]
    exact ev_some.mpr ⟨rfl, R⟩
  rw [if_neg w4, if_neg w4]
  by_cases w5 : w = 5
  · rw [if_pos w5, if_pos w5, weights_eq hq.1 R.1.1, bndc_s]
    exact ev_some.mpr ⟨rfl, R⟩
  rw [if_neg w5, if_neg w5]
  by_cases w6 : w = 6
  · rw [if_pos w6, if_pos w6]
    exact Ev.k (by decide) (ev_some.mpr ⟨R.1.2.2.1, R⟩)
  rw [if_neg w6, if_neg w6]
  by_cases w7 : w = 7
  · rw [if_pos w7, if_pos w7]
    exact ev_some.mpr ⟨e6, R⟩
  rw [if_neg w7, if_neg w7]
  exact ev_some.mpr ⟨rfl, R⟩
def fltAns (fk fp w : Int32) : Int32 := if w = 0 then fk else if w = 1 then fp else -1
theorem mFault_eq (hK : KQ q (g.2.1 0)) (w : Int32) : Ev (fX12_fault g w) (fun z => z.1 = fltAns (g.1 14) (g.1 15) w ∧ MRes q 0 g z.2) := by
  unfold fX12_fault fltAns
  rw [bnd_e]
  by_cases w0 : w = 0
  · rw [if_pos w0, if_pos w0]
    exact ev_some.mpr ⟨rfl, MRes.same hK⟩
  rw [if_neg w0, if_neg w0]
  by_cases w1 : w = 1
  · rw [if_pos w1, if_pos w1]
    exact ev_some.mpr ⟨rfl, MRes.same hK⟩
  rw [if_neg w1, if_neg w1]
  exact ev_some.mpr ⟨rfl, MRes.same hK⟩
end
/-! ===== the class's plain calls ===== -/
section
variable {b : AB} {q : AQ} {P : PL} {g : CS}
theorem cMember_eq (hw : wfB b) (hS : SB b P g 30) {m : Nat} (hm : m < bN b) {w : Int32} (hwh : upTo 5 w) : Ev (fX11_member P g (nI m) w) (fun z => z.1 = Sum.inr (memAns b m w) ∧ fC [(10, 1)] [11] [] g z.2) := by
  have h6 := hw.2.1
  obtain ⟨n, hn, rfl⟩ := hwh
  unfold fX11_member memAns
  rw [needM_y hw hS hm, bxr]
  rcases (show n = 0 ∨ n = 1 ∨ n = 2 ∨ n = 3 ∨ n = 4 ∨ n = 5 by omega) with e | e | e | e | e | e <;> subst e
  · rw [if_pos (show nI 0 = (0 : Int32) from rfl), if_pos (show nI 0 = (0 : Int32) from rfl), hS.2.1, at_l6 (lk16 h6 hw.2.2.1) (by omega), bndv_s]
    exact ev_some.mpr ⟨rfl, fC.refl g⟩
  · rw [if_neg (show ¬ nI 1 = (0 : Int32) by decide), if_pos (show nI 1 = (1 : Int32) from rfl), if_neg (show ¬ nI 1 = (0 : Int32) by decide), if_pos (show nI 1 = (1 : Int32) from rfl), cFaced_eq hw hS hm, bndc_s]
    exact ev_some.mpr ⟨rfl, fC.refl g⟩
  · rw [if_neg (show ¬ nI 2 = (0 : Int32) by decide), if_neg (show ¬ nI 2 = (1 : Int32) by decide), if_pos (show nI 2 = (2 : Int32) from rfl), if_neg (show ¬ nI 2 = (0 : Int32) by decide), if_neg (show ¬ nI 2 = (1 : Int32) by decide), if_pos (show nI 2 = (2 : Int32) from rfl), hS.2.2.1, at_l6 (w16 hw) (by omega), bndv_s]
    exact ev_some.mpr ⟨rfl, fC.refl g⟩
  · rw [if_neg (show ¬ nI 3 = (0 : Int32) by decide), if_neg (show ¬ nI 3 = (1 : Int32) by decide), if_neg (show ¬ nI 3 = (2 : Int32) by decide), if_pos (show nI 3 = (3 : Int32) from rfl), if_neg (show ¬ nI 3 = (0 : Int32) by decide), if_neg (show ¬ nI 3 = (1 : Int32) by decide), if_neg (show ¬ nI 3 = (2 : Int32) by decide), if_pos (show nI 3 = (3 : Int32) from rfl), hS.2.1, votesIn_eq hw hw.2.2.1 hS, bndc_s, votesAt_eq (v := vt b (bA b)) h6 (fun m _ => vt_lt hw (bA b) m (bN b) h6) hm, bndv_s]
    exact ev_some.mpr ⟨rfl, fC.refl g⟩
  · rw [if_neg (show ¬ nI 4 = (0 : Int32) by decide), if_neg (show ¬ nI 4 = (1 : Int32) by decide), if_neg (show ¬ nI 4 = (2 : Int32) by decide), if_neg (show ¬ nI 4 = (3 : Int32) by decide), if_pos (show nI 4 = (4 : Int32) from rfl), if_neg (show ¬ nI 4 = (0 : Int32) by decide), if_neg (show ¬ nI 4 = (1 : Int32) by decide), if_neg (show ¬ nI 4 = (2 : Int32) by decide), if_neg (show ¬ nI 4 = (3 : Int32) by decide), if_pos (show nI 4 = (4 : Int32) from rfl), cStuck_eq hw hS (by omega), bndc_s]
    cases stk b m with
    | true => rw [if_neg (by decide)]; exact ev_some.mpr ⟨rfl, fC.refl g⟩
    | false => rw [if_pos (by decide)]; exact ev_some.mpr ⟨rfl, fC.refl g⟩
  · rw [if_neg (show ¬ nI 5 = (0 : Int32) by decide), if_neg (show ¬ nI 5 = (1 : Int32) by decide), if_neg (show ¬ nI 5 = (2 : Int32) by decide), if_neg (show ¬ nI 5 = (3 : Int32) by decide), if_neg (show ¬ nI 5 = (4 : Int32) by decide), if_pos (show nI 5 = (5 : Int32) from rfl), if_neg (show ¬ nI 5 = (0 : Int32) by decide), if_neg (show ¬ nI 5 = (1 : Int32) by decide), if_neg (show ¬ nI 5 = (2 : Int32) by decide), if_neg (show ¬ nI 5 = (3 : Int32) by decide), if_neg (show ¬ nI 5 = (4 : Int32) by decide)]
    refine Ev.c (price_eq okS30 hw hS hm) ?_
    rintro x g3 ⟨d1, d2⟩
    dsimp only at d1
    rw [d1]
    exact ev_some.mpr ⟨rfl, d2⟩
theorem cMember_n1 (hw : wfB b) (hS : SB b P g 30) {x : Int32} (h : ¬ mem (bN b) x) (y : Int32) : fX11_member P g x y = some (Sum.inl 2, g) := by
  unfold fX11_member
  rw [needM_n hw hS h, bxl]
theorem cMember_n2 (hw : wfB b) (hS : SB b P g 30) {m : Nat} (hm : m < bN b) {y : Int32} (h : ¬ upTo 5 y) : fX11_member P g (nI m) y = some (Sum.inl 1, g) := by
  unfold fX11_member
  rw [needM_y hw hS hm, bxr, if_neg (show ¬ y = (0 : Int32) from fun z => h ⟨0, by omega, z⟩), if_neg (show ¬ y = (1 : Int32) from fun z => h ⟨1, by omega, z⟩), if_neg (show ¬ y = (2 : Int32) from fun z => h ⟨2, by omega, z⟩), if_neg (show ¬ y = (3 : Int32) from fun z => h ⟨3, by omega, z⟩), if_neg (show ¬ y = (4 : Int32) from fun z => h ⟨4, by omega, z⟩), if_neg (show ¬ y = (5 : Int32) from fun z => h ⟨5, by omega, z⟩)]
theorem cChair_eq (hw : wfB b) (hS : SB b P g 30) : fX11_chair P g = some (pm (chA b (bA b)), g) := by
  unfold fX11_chair
  rw [hS.2.1, chairOf_eq hw hw.2.2.1 hS, bndc_s]
theorem cDrags_eq (hw : wfB b) (hS : SB b P g 30) {m : Nat} (hm : m < bN b) : Ev (fX11_drags P g (nI m)) (fun z => z.1 = Sum.inr (nI (bs (alA b m) (bN b))) ∧ fC [(10, 1)] [11] [] g z.2) := by
  unfold fX11_drags
  rw [needM_y hw hS hm, bxr]
  refine Ev.c (turningWith_eq okS30 hw hS hm) ?_
  rintro x g3 ⟨d1, d2⟩
  dsimp only at d1
  rw [d1]
  exact ev_some.mpr ⟨rfl, d2⟩
theorem cDrags_no (hw : wfB b) (hS : SB b P g 30) {x : Int32} (h : ¬ mem (bN b) x) : fX11_drags P g x = some (Sum.inl 2, g) := by
  unfold fX11_drags
  rw [needM_n hw hS h, bxl]
theorem cGoes_eq (hw : wfB b) (hS : SB b P g 30) {m : Nat} (hm : m < bN b) : Ev (fX11_goes P g (nI m)) (fun z => z.1 = Sum.inr (nI (byA b (bA b) m)) ∧ fC [(10, 1)] [11] [] g z.2) := by
  have h6 := hw.2.1
  have ha := (hw.2.2.1 m (by omega)).1
  have hv := vt_le hw (bA b) m
  unfold fX11_goes byA
  rw [needM_y hw hS hm, bxr, cStuck_eq hw hS (by omega), bndc_s, if_neg (show ¬ bN b ≤ m by omega)]
  cases stk b m with
  | true =>
    rw [if_neg (by decide), if_pos rfl]
    exact ev_some.mpr ⟨rfl, fC.refl g⟩
  | false =>
    rw [if_pos (by decide), if_neg (by decide), hS.2.1, votesIn_eq hw hw.2.2.1 hS, bndc_s, votesAt_eq (v := vt b (bA b)) h6 (fun m _ => vt_lt hw (bA b) m (bN b) h6) hm, bndv_s, hS.2.1, at_l6 (lk16 h6 hw.2.2.1) (by omega), bndv_s]
    refine Ev.c (pace_eq okS30 hw hS hm (by omega) (by omega)) ?_
    rintro x g3 ⟨d1, d2⟩
    dsimp only at d1
    rw [d1]
    exact ev_some.mpr ⟨rfl, d2⟩
theorem cGoes_no (hw : wfB b) (hS : SB b P g 30) {x : Int32} (h : ¬ mem (bN b) x) : fX11_goes P g x = some (Sum.inl 2, g) := by
  unfold fX11_goes
  rw [needM_n hw hS h, bxl]
theorem cCount_eq (hq : wfQ q) (hS : SQ q P g 30) {tl : Nat} (h1 : g.1 0 1 = nI tl) (w : Int32) : fX11_count P g w = some (cntAns q tl w, g) := by
  have hw := hq.1
  have h6 := hw.2.1
  unfold fX11_count cntAns fX6_lookingOut fX6_weightsTogether
  by_cases w0 : w = 0
  · rw [if_pos w0, if_pos w0, hS.2.1]
  rw [if_neg w0, if_neg w0]
  by_cases w1 : w = 1
  · rw [if_pos w1, if_pos w1, hS.1.1]
  rw [if_neg w1, if_neg w1]
  by_cases w2 : w = 2
  · rw [if_pos w2, if_pos w2, hS.1.2.2.2.1]
  rw [if_neg w2, if_neg w2]
  by_cases w3 : w = 3
  · have st := lookingOut_lp hw hS.1 (bN (qB q)) 0 fuel (by omega) (by unfold fuel; omega)
    have e : bs (fun m => decide (bA (qB q) m = 0)) 0 = 0 := rfl
    rw [e] at st
    rw [if_pos w3, if_pos w3, l_0, st, bndc_s]
  rw [if_neg w3, if_neg w3]
  by_cases w4 : w = 4
  · rw [if_pos w4, if_pos w4, hS.1.2.1, hS.1.1, kneesIn_eq hw.1 h6 hw.2.2.1, bndv_s]
  rw [if_neg w4, if_neg w4]
  by_cases w5 : w = 5
  · have st := weightsT_lp hw hS.1 (bN (qB q)) 0 fuel (by omega) (by unfold fuel; omega)
    have e : fb_sm (bW (qB q)) 0 = 0 := rfl
    rw [e] at st
    rw [if_pos w5, if_pos w5, l_0, st, bndc_s]
  rw [if_neg w5, if_neg w5]
  by_cases w6 : w = 6
  · rw [if_pos w6, if_pos w6, hS.2.2.1]
  rw [if_neg w6, if_neg w6]
  by_cases w7 : w = 7
  · rw [if_pos w7, if_pos w7, h1]
  rw [if_neg w7, if_neg w7]
theorem cFault_eq (w : Int32) : fX11_fault P g w = some (fltAns (g.1 0 2) (g.1 0 3) w, g) := by
  unfold fX11_fault fltAns
  by_cases w0 : w = 0
  · rw [if_pos w0, if_pos w0]
  rw [if_neg w0, if_neg w0]
  by_cases w1 : w = 1
  · rw [if_pos w1, if_pos w1]
  rw [if_neg w1, if_neg w1]
end
