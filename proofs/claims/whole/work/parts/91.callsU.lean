/-! ===== thrones, idle turns, knees, help, vetoes ===== -/
def mem (n : Nat) (x : Int32) : Prop := ∃ m, m < n ∧ x = nI m
section
variable {b : AB} {g : MS}
theorem isM_no (hw : wfB b) (hK : KB b (g.2.1 0)) {x : Int32} (h : ¬ mem (bN b) x) : fX12_isMember g x.toInt64 = some ((0 : Int32), g) := by
  rw [isM_eq hw hK, if_neg]
  intro z
  rw [i64] at z
  obtain ⟨m, hm, rfl⟩ := nI_of (x := x) (by rw [fa_lt]; have e : (0 : Int32).toInt = 0 := rfl; omega)
  rw [n_toInt hm] at z
  exact h ⟨m, by omega, rfl⟩
theorem isM_yes (hw : wfB b) (hK : KB b (g.2.1 0)) {m : Nat} (hm : m < bN b) : fX12_isMember g (nI m).toInt64 = some ((1 : Int32), g) := by
  have := hw.2.1
  rw [nI_l (by omega)]
  exact isM_y hw hK hm
end
section
variable {b : AB} {P : PL} {g : CS}
theorem needM_y (hw : wfB b) (hS : SB b P g 30) {m : Nat} (hm : m < bN b) : fX11_needMember P g (nI m) = some (Sum.inr (), g) := by
  unfold fX11_needMember
  rw [cHas_eq hw hS hm, bndc_s, if_neg (by decide)]
theorem needM_n (hw : wfB b) (hS : SB b P g 30) {x : Int32} (h : ¬ mem (bN b) x) : fX11_needMember P g x = some (Sum.inl 2, g) := by
  unfold fX11_needMember
  rw [cHas_no hw hS h, bndc_s, if_pos rfl]
end
section
variable {q : AQ} {g : MS}
theorem mChair_all (hq : wfQ q) {g0 : MS} (hK : KQ q (g0.2.1 0)) {m : Nat} (hm : m < 6) (h34 : g0.1 34 = nI m) : Ev (fX12_asksRows g0 (1 : Int32)) (fun g' => g'.1 35 = nI (fb_ct (pC (qB q) m) (nR (qB q))) ∧ BS (qB q) (decide (bstF (pC (qB q) m) (cR (qB q)) (nR (qB q)) ≠ 0)) (if bstF (pC (qB q) m) (cR (qB q)) (nR (qB q)) = 0 then (fun _ => 0) else tcR (bN (qB q)) (rwA (qB q) (bstF (pC (qB q) m) (cR (qB q)) (nR (qB q)) - 1))) g' ∧ g'.1 34 = nI m ∧ fM rI rL g0 g') := by
  refine (askChair hm hq.1 hK.1 h34).mono ?_
  intro g' hR
  unfold all1 at hR
  rw [all1_ix] at hR
  obtain ⟨r1, r2, r3, r4, r5, r6, r7⟩ := hR
  exact ⟨r5, r6, r4.trans h34, r7⟩
theorem mThrone_eq (hq : wfQ q) (hK : KQ q (g.2.1 0)) {m : Nat} (hm : m < bN (qB q)) {w : Int32} (hwh : whOK w) : Ev (fX12_throne g (nI m) w) (fun z => z.1 = paAns (qB q) (bstF (pC (qB q) m) (cR (qB q)) (nR (qB q))) w ∧ MRes q 0 g z.2) := by
  have : Decidable (whOK w) := inferInstanceAs (Decidable (_ ∨ _))
  have hn := hq.1.2.1
  unfold fX12_throne fX12_throne_26
  rw [isM_yes hq.1 hK.1 hm, bndc_s, if_neg (by decide), isWhat_eq, if_pos hwh, bndv_s, if_neg (by decide), bnd_e, if_pos (show (sI g 4 (0 : Int32)).1 4 ≤ 0 from (by decide : (0 : Int32) ≤ 0)), bnd_e]
  have f1 : fM [4, 34] [] g (sI (sI g 4 (0 : Int32)) 34 (nI m)) := ((fM.refl g).sI (by decide)).sI (by decide)
  refine Ev.v (mChair_all (g0 := sI (sI g 4 (0 : Int32)) 34 (nI m)) hq hK (by omega) rfl) ?_
  rintro g' ⟨r1, r2, r3, r4⟩
  rw [toldRow_eq hq.1 r2 hwh, bndc_s]
  exact ev_some.mpr ⟨rfl, (show MRes q 0 g (sI (sI g 4 (0 : Int32)) 34 (nI m)) from ⟨hK, rfl, kpM.of f1 (by decide) (by decide)⟩).frame r4⟩
theorem mThrone_n1 (hq : wfQ q) (hK : KQ q (g.2.1 0)) {x : Int32} (h : ¬ mem (bN (qB q)) x) (w : Int32) : Ev (fX12_throne g x w) (fun z => MRes q 1 g z.2) := by
  unfold fX12_throne fX12_throne_26
  rw [isM_no hq.1 hK.1 h, bndc_s, if_pos rfl, bnd_e, if_neg (show ¬ (sI g 4 (1 : Int32)).1 4 ≤ 0 from (by decide : ¬ (1 : Int32) ≤ 0))]
  exact ev_some.mpr (MRes.fail hK 1)
theorem mThrone_n2 (hq : wfQ q) (hK : KQ q (g.2.1 0)) {m : Nat} (hm : m < bN (qB q)) {w : Int32} (hwh : ¬ whOK w) : Ev (fX12_throne g (nI m) w) (fun z => MRes q 2 g z.2) := by
  have : Decidable (whOK w) := inferInstanceAs (Decidable (_ ∨ _))
  unfold fX12_throne fX12_throne_26
  rw [isM_yes hq.1 hK.1 hm, bndc_s, if_neg (by decide), isWhat_eq, if_neg hwh, bndv_s, if_pos rfl, bnd_e, if_neg (show ¬ (sI g 4 (2 : Int32)).1 4 ≤ 0 from (by decide : ¬ (2 : Int32) ≤ 0))]
  exact ev_some.mpr (MRes.fail hK 2)
def asR (b : AB) (i : Nat) : Bool := asB b (bhA b (rwA b i))
theorem allI_ix {b : AB} : ∀ k, (lpf (fun i (y : A1) => if asB b (bhA b (rwA b i)) then (y.1 + 1, y.2) else y) k (0, false, fun _ => 0)).1 = fb_ct (asR b) k
  | 0 => rfl
  | k + 1 => by
    have ih := allI_ix (b := b) k
    show (if asB b (bhA b (rwA b k)) = true then ((lpf (fun i (y : A1) => if asB b (bhA b (rwA b i)) then (y.1 + 1, y.2) else y) k (0, false, fun _ => 0)).1 + 1, (lpf (fun i (y : A1) => if asB b (bhA b (rwA b i)) then (y.1 + 1, y.2) else y) k (0, false, fun _ => 0)).2) else lpf (fun i (y : A1) => if asB b (bhA b (rwA b i)) then (y.1 + 1, y.2) else y) k (0, false, fun _ => 0)).1 = _
    cases h : asB b (bhA b (rwA b k)) with
    | true => rw [if_pos rfl, ct_y (p := asR b) h, ← ih]
    | false => rw [if_neg (by decide), ct_n (p := asR b) h, ← ih]
theorem mIdle_eq (hq : wfQ q) (hK : KQ q (g.2.1 0)) : Ev (fX12_idle g) (fun z => z.1 = nI (fb_ct (asR (qB q)) (nR (qB q))) ∧ MRes q 0 g z.2) := by
  unfold fX12_idle
  rw [bnd_e]
  refine Ev.v (askIdle (g := sI g 4 0) hq.1 hK.1) ?_
  rintro g' ⟨r1, r2, r3, r4, r5, r6, r7⟩
  refine ev_some.mpr ⟨?_, (MRes.same hK).frame r7⟩
  rw [r5]
  unfold allI
  rw [allI_ix]
/-! knees -/
theorem all2_ix {b : AB} : ∀ k, 0 < k → lpf (fun i y => st2 b (rwA b i) y) k ((false, fun _ => 0) : A2) = (true, tcR (bN b) (rwA b (knF (tR b) (cR b) k - 1)))
  | 0, h => absurd h (by omega)
  | k + 1, _ => by
    show st2 b (rwA b k) (lpf _ k _) = _
    by_cases h0 : k = 0
    · subst h0
      rfl
    · have hp := knF_pos (tR b) (cR b) k (by omega)
      rw [all2_ix k (by omega)]
      unfold st2
      have e1 : knA (bN b) (bhA b (tcR (bN b) (rwA b (knF (tR b) (cR b) k - 1)))) = tR b (knF (tR b) (cR b) k - 1) := by rw [bhA_cong (w := rwA b (knF (tR b) (cR b) k - 1)) tcR_in]; rfl
      have e2 : csA b (tcR (bN b) (rwA b (knF (tR b) (cR b) k - 1))) = cR b (knF (tR b) (cR b) k - 1) := csA_cong tcR_in
      have e3 : knA (bN b) (bhA b (rwA b k)) = tR b k := rfl
      have e4 : csA b (rwA b k) = cR b k := rfl
      show (if true = false ∨ knA (bN b) (bhA b (tcR (bN b) (rwA b (knF (tR b) (cR b) k - 1)))) < knA (bN b) (bhA b (rwA b k)) ∨ (knA (bN b) (bhA b (rwA b k)) = knA (bN b) (bhA b (tcR (bN b) (rwA b (knF (tR b) (cR b) k - 1)))) ∧ csA b (rwA b k) < csA b (tcR (bN b) (rwA b (knF (tR b) (cR b) k - 1)))) then (true, tcR (bN b) (rwA b k)) else (true, tcR (bN b) (rwA b (knF (tR b) (cR b) k - 1)))) = _
      rw [e1, e2, e3, e4]
      by_cases c : tR b (knF (tR b) (cR b) k - 1) < tR b k ∨ (tR b k = tR b (knF (tR b) (cR b) k - 1) ∧ cR b k < cR b (knF (tR b) (cR b) k - 1))
      · rw [if_pos (Or.inr c), knF_y (Or.inr c), Nat.add_sub_cancel]
      · rw [if_neg (fun z => z.elim (fun z => absurd z (by decide)) c), knF_n (fun z => z.elim (fun z => by omega) c)]
def kX (b : AB) : Nat := knF (tR b) (cR b) (nR b)
def knAns (b : AB) (w : Int32) : Int32 := if w = 0 then nI (tR b (kX b - 1)) else if w = 1 then nI (cR b (kX b - 1)) else paAns b (kX b) w
theorem kX_pos {b : AB} (hw : wfB b) : kX b ≠ 0 := by have := knF_pos (tR b) (cR b) (nR b) (nR_pos hw); unfold kX; omega
theorem mKnees_eq (hq : wfQ q) (hK : KQ q (g.2.1 0)) {w : Int32} (hwh : w = 1 ∨ whOK w) : Ev (fX12_knees g w) (fun z => z.1 = knAns (qB q) w ∧ MRes q 0 g z.2) := by
  have : Decidable (whOK w) := inferInstanceAs (Decidable (_ ∨ _))
  have hn := hq.1.2.1
  have key : Ev (fX12_knees_23 (sI g 4 0) w) (fun z => z.1 = knAns (qB q) w ∧ MRes q 0 g z.2) := by
    unfold fX12_knees_23
    refine Ev.v (askKnees (g := sI g 4 0) hq.1 hK.1) ?_
    intro g' hR
    unfold all2 at hR
    rw [all2_ix _ (nR_pos hq.1)] at hR
    obtain ⟨r1, r2, r3, r4, r5⟩ := hR
    obtain ⟨s1, s2, s3⟩ := r4 rfl
    have R := (MRes.same hK).frame r5
    have e1 : knA (bN (qB q)) (bhA (qB q) (tcR (bN (qB q)) (rwA (qB q) (knF (tR (qB q)) (cR (qB q)) (nR (qB q)) - 1)))) = tR (qB q) (kX (qB q) - 1) := by rw [bhA_cong (w := rwA (qB q) (knF (tR (qB q)) (cR (qB q)) (nR (qB q)) - 1)) tcR_in]; rfl
    have e2 : csA (qB q) (tcR (bN (qB q)) (rwA (qB q) (knF (tR (qB q)) (cR (qB q)) (nR (qB q)) - 1))) = cR (qB q) (kX (qB q) - 1) := csA_cong tcR_in
    unfold knAns
    by_cases w0 : w = 0
    · rw [if_pos w0, if_pos w0]
      exact ev_some.mpr ⟨by rw [s1, e1], R⟩
    · rw [if_neg w0, if_neg w0]
      by_cases w1 : w = 1
      · rw [if_pos w1, if_pos w1]
        exact ev_some.mpr ⟨by rw [s2.1, e2], R⟩
      · rw [if_neg w1, if_neg w1]
        obtain ⟨j, hj, e3, e4, -⟩ := wh_ix ((hwh.resolve_left w1).resolve_left w0)
        rw [e3]
        refine Ev.k (ib_n hj (by omega)) (ev_some.mpr ⟨?_, R⟩)
        rw [ix_n (by omega), s2.2 j hj]
        unfold paAns
        rw [if_neg (kX_pos hq.1), if_neg w0, e3, nI_clamp (by omega)]
        by_cases hjn : j < bN (qB q)
        · rw [if_pos hjn, if_pos hjn]
          show nI (tcR (bN (qB q)) (rwA (qB q) (knF (tR (qB q)) (cR (qB q)) (nR (qB q)) - 1)) j) = _
          rw [tcR_in j hjn]
          rfl
        · rw [if_neg hjn, if_neg hjn]
  unfold fX12_knees
  rw [bnd_e]
  by_cases w1 : w = 1
  · rw [if_pos w1]; exact key
  · rw [if_neg w1, isWhat_eq, if_pos (hwh.resolve_left w1), bndv_s, if_neg (by decide)]
    exact key
theorem mKnees_no (hK : KQ q (g.2.1 0)) {w : Int32} (h : ¬ (w = 1 ∨ whOK w)) : Ev (fX12_knees g w) (fun z => MRes q 1 g z.2) := by
  have : Decidable (whOK w) := inferInstanceAs (Decidable (_ ∨ _))
  unfold fX12_knees fX12_fails
  rw [bnd_e, if_neg (fun z => h (Or.inl z)), isWhat_eq, if_neg (fun z => h (Or.inr z)), bndv_s, if_pos rfl, bnd_e, bndc_s]
  exact ev_some.mpr ⟨hK, rfl, (kpM.th g 0).trans (kpM.th _ _)⟩
/-! help -/
theorem all5_ix {b : AB} (m : Nat) : ∀ k, lpf (fun i y => st5 b m (rwA b i) y) k 0 = hlpF (pC b m) (mR b) k
  | 0 => rfl
  | k + 1 => by
    show st5 b m (rwA b k) (lpf _ k _) = _
    rw [all5_ix m k]
    unfold st5
    have e1 : mvA b (rwA b k) = mR b k := rfl
    rw [e1]
    by_cases c : chA b (bhA b (rwA b k)) = m + 1 ∧ (hlpF (pC b m) (mR b) k = 0 ∨ pcN (mR b k) < pcN (hlpF (pC b m) (mR b) k - 1) ∨ (pcN (mR b k) = pcN (hlpF (pC b m) (mR b) k - 1) ∧ mR b k < hlpF (pC b m) (mR b) k - 1))
    · rw [if_pos c, hlpF_y ⟨decide_eq_true c.1, c.2⟩]
    · rw [if_neg c, hlpF_n (fun z => c ⟨of_decide_eq_true z.1, z.2⟩)]
def hlAns (h : Nat) (w : Int32) : Int32 := if h = 0 then -1 else if w = 1 then nI (h - 1) else nI (pcN (h - 1))
theorem mHelps_eq (hq : wfQ q) (hK : KQ q (g.2.1 0)) {m : Nat} (hm : m < bN (qB q)) {w : Int32} (hwh : w = 0 ∨ w = 1) : Ev (fX12_helps g (nI m) w) (fun z => z.1 = hlAns (hlpF (pC (qB q) m) (mR (qB q)) (nR (qB q))) w ∧ MRes q 0 g z.2) := by
  have hn := hq.1.2.1
  have e0 : (0 : Int64).toInt = 0 := rfl
  have e1 : (1 : Int64).toInt = 1 := rfl
  have hwi : 0 ≤ w.toInt ∧ w.toInt ≤ 1 := by rcases hwh with rfl | rfl <;> decide
  unfold fX12_helps fX12_helps_29 fX12_helps_64
  rw [isM_yes hq.1 hK.1 hm, bndc_s, if_neg (by decide), within_y (by rw [i64, e0]; exact hwi.1) (by rw [i64, e1]; exact hwi.2), bndv_s, if_neg (by decide), bnd_e, if_pos (show (sI g 4 (0 : Int32)).1 4 ≤ 0 from (by decide : (0 : Int32) ≤ 0)), bnd_e]
  have f1 : fM [4, 34] [] g (sI (sI g 4 (0 : Int32)) 34 (nI m)) := ((fM.refl g).sI (by decide)).sI (by decide)
  refine Ev.v (askHelp (g := sI (sI g 4 (0 : Int32)) 34 (nI m)) (m := m) (by omega) hq.1 hK.1 rfl) ?_
  intro g' hR
  unfold all5 at hR
  rw [all5_ix] at hR
  obtain ⟨r1, r2, r3, r4, r5, r6⟩ := hR
  have R := (show MRes q 0 g (sI (sI g 4 (0 : Int32)) 34 (nI m)) from ⟨hK, rfl, kpM.of f1 (by decide) (by decide)⟩).frame r6
  rw [r4]
  unfold hlAns
  by_cases h0 : hlpF (pC (qB q) m) (mR (qB q)) (nR (qB q)) = 0
  · rw [if_pos (by rw [h0]; rfl), if_pos h0]
    exact ev_some.mpr ⟨by rw [h0]; rfl, R⟩
  · have ep : pm (hlpF (pC (qB q) m) (mR (qB q)) (nR (qB q))) = nI (hlpF (pC (qB q) m) (mR (qB q)) (nR (qB q)) - 1) := by unfold pm; rw [if_neg h0]
    rw [ep, if_neg (nI_nm1 (by omega)), if_neg h0]
    by_cases w1 : w = 1
    · rw [if_pos w1, if_pos w1]
      exact ev_some.mpr ⟨rfl, R⟩
    · rw [if_neg w1, if_neg w1, bits_eq (by omega), bndv_s]
      exact ev_some.mpr ⟨rfl, R⟩
theorem mHelps_n1 (hq : wfQ q) (hK : KQ q (g.2.1 0)) {x : Int32} (h : ¬ mem (bN (qB q)) x) (w : Int32) : Ev (fX12_helps g x w) (fun z => MRes q 1 g z.2) := by
  unfold fX12_helps fX12_helps_29
  rw [isM_no hq.1 hK.1 h, bndc_s, if_pos rfl, bnd_e, if_neg (show ¬ (sI g 4 (1 : Int32)).1 4 ≤ 0 from (by decide : ¬ (1 : Int32) ≤ 0))]
  exact ev_some.mpr (MRes.fail hK 1)
theorem w01 {w : Int32} (h : ¬ (w = 0 ∨ w = 1)) : ¬ (0 ≤ w.toInt ∧ w.toInt ≤ 1) := fun z => h (by
  rcases (show w.toInt = 0 ∨ w.toInt = 1 by omega) with q | q
  · exact Or.inl (Int32.toInt_inj.mp q)
  · exact Or.inr (Int32.toInt_inj.mp q))
theorem mHelps_n2 (hq : wfQ q) (hK : KQ q (g.2.1 0)) {m : Nat} (hm : m < bN (qB q)) {w : Int32} (hwh : ¬ (w = 0 ∨ w = 1)) : Ev (fX12_helps g (nI m) w) (fun z => MRes q 2 g z.2) := by
  unfold fX12_helps fX12_helps_29
  rw [isM_yes hq.1 hK.1 hm, bndc_s, if_neg (by decide), within_n (by rw [i64]; exact w01 hwh), bndv_s, if_pos rfl, bnd_e, if_neg (show ¬ (sI g 4 (2 : Int32)).1 4 ≤ 0 from (by decide : ¬ (2 : Int32) ≤ 0))]
  exact ev_some.mpr (MRes.fail hK 2)
/-! vetoes -/
def rch (b : AB) (m : Nat) : Bool := decide (0 < fb_ct (pC b m) (nR b))
def vtP (b : AB) (m k : Nat) : Bool := !stk b k && !rch (setS b (bS b + 2 ^ k)) m
def vtA (b : AB) (m : Nat) : Nat := if rch b m then bs (vtP b m) (bN b) else 0
theorem or_add : ∀ x, x < 64 → ∀ m, m < 6 → x.testBit m = false → x ||| 2 ^ m = x + 2 ^ m := by decide +kernel
theorem add_bit : ∀ x, x < 64 → ∀ m, m < 6 → x.testBit m = false → (nI x ||| nI (2 ^ m)) = nI (x + 2 ^ m) := by decide +kernel
theorem sub_bit : ∀ x, x < 64 → ∀ m, m < 6 → x.testBit m = false → (nI (x + 2 ^ m) &&& (nI (2 ^ m) ^^^ (-1 : Int32))) = nI x := by decide +kernel
theorem stuck_lt {b : AB} (hw : wfB b) {k : Nat} (hk : k < bN b) (h : stk b k = false) : bS b + 2 ^ k < 2 ^ bN b := by
  have hn := hw.2.1
  rw [← or_add _ (s64 hw) k (by omega) h]
  exact Nat.or_lt_two_pow hw.2.2.2.2.1 (Nat.pow_lt_pow_right (by omega) hk)
theorem mVet_lp (hq : wfQ q) {k0 : Nat → Int32} (hK : KQ q k0) {m : Nat} (hm : m < 6) : ∀ d k f (g : MS), k + d = bN (qB q) → d < f → g.2.1 0 = k0 → g.1 34 = nI m → Ev (fX12_vetoes_43 f g (nI (bs (vtP (qB q) m) k)) (nI k)) (fun z => z.1 = nI (bs (vtP (qB q) m) (bN (qB q))) ∧ z.2.2.1 0 = k0 ∧ fM rI (0 :: rL) g z.2) := by
  have hw := hq.1
  have hn := hw.2.1
  have hs64 := s64 hw
  intro d
  induction d with
  | zero =>
    intro k f g hk hf h0 h34
    obtain ⟨f, rfl⟩ : ∃ f', f = f' + 1 := ⟨f - 1, by omega⟩
    have hk : k = bN (qB q) := hk
    subst hk
    rw [fX12_vetoes_43, size_eq (b := qB q) (by rw [h0]; exact hK.1), bndc_s, if_pos (nI_le (by omega) (by omega))]
    exact ev_some.mpr ⟨rfl, h0, fM.refl g⟩
  | succ d ih =>
    intro k f g hk hf h0 h34
    obtain ⟨f, rfl⟩ : ∃ f', f = f' + 1 := ⟨f - 1, by omega⟩
    have hKg : KB (qB q) (g.2.1 0) := by rw [h0]; exact hK.1
    have hlt := bs_lt (vtP (qB q) m) k
    rw [fX12_vetoes_43, size_eq hKg, bndc_s, if_neg (nI_ge (by omega) (by omega)), isStuck_eq hw hKg (by omega), bndc_s]
    have fin : ∀ (g1 : MS) (t : Bool), t = vtP (qB q) m k → g1.2.1 0 = k0 → g1.1 34 = nI m → fM rI (0 :: rL) g g1 → Ev (fX12_vetoes_43 f g1 (nI (bs (vtP (qB q) m) k + t.toNat * 2 ^ k)) (nI (k + 1))) (fun z => z.1 = nI (bs (vtP (qB q) m) (bN (qB q))) ∧ z.2.2.1 0 = k0 ∧ fM rI (0 :: rL) g z.2) := by
      intro g1 t ht a1 a2 a3
      rw [ht, ← bs_succ]
      refine (ih (k + 1) f g1 (by omega) (by omega) a1 a2).mono ?_
      rintro z ⟨z1, z2, z3⟩
      exact ⟨z1, z2, a3.trans z3⟩
    cases hst : stk (qB q) k with
    | true =>
      rw [if_neg (show ¬ nI true.toNat = 0 by decide), nI_1, bnd_e]
      have := fin g false (by unfold vtP; rw [hst]; rfl) h0 h34 (fM.refl g)
      rw [Bool.toNat_false, Nat.zero_mul, Nat.add_zero] at this
      exact this
    | false =>
      rw [if_pos (show nI false.toNat = 0 from rfl)]
      refine Ev.k (by decide) (Ev.k (by decide) ?_)
      have e18 : ix (18 : Int32) = 18 := rfl
      rw [bnd_e, e18, hKg.2.1, shl1 (by omega), add_bit _ hs64 k (by omega) hst]
      have hSl := stuck_lt hw (show k < bN (qB q) by omega) hst
      have hw' := wf_setS hw hSl
      have hK' : KB (setS (qB q) (bS (qB q) + 2 ^ k)) ((sA g 0 18 (nI (bS (qB q) + 2 ^ k))).2.1 0) := KB.mS hw hKg rfl (fun i hi => by
        show upd (g.2.1 0) 18 _ i = _
        rw [upd_j, if_neg hi])
      refine Ev.v (askChair (g := sA g 0 18 (nI (bS (qB q) + 2 ^ k))) hm hw' hK' h34) ?_
      intro g2 hR
      unfold all1 at hR
      rw [all1_ix] at hR
      obtain ⟨r1, r2, r3, r4, r5, r6, r7⟩ := hR
      have e0 : g2.2.1 0 = upd k0 18 (nI (bS (qB q) + 2 ^ k)) := by
        rw [r7.row 0 (by decide)]
        show upd (g.2.1 0) 18 _ = _
        rw [h0]
      refine Ev.k (by decide) (Ev.k (by decide) ?_)
      have e2 : g2.2.1 0 18 = nI (bS (qB q) + 2 ^ k) := by rw [e0, upd_j, if_pos rfl]
      rw [bnd_e, e2, sub_bit _ hs64 k (by omega) hst]
      have back : (sA g2 0 18 (nI (bS (qB q)))).2.1 0 = k0 := by
        show upd (g2.2.1 0) 18 _ = _
        rw [e0, fa_upd_twice, fa_upd_same hK.1.2.1]
      have f3 : fM rI (0 :: rL) g (sA g2 0 18 (nI (bS (qB q)))) := (((fM.refl g).sA (a := 0) (i := 18) (v := nI (bS (qB q) + 2 ^ k)) (by decide)).trans (r7.mono (by decide) (by decide))).sA (by decide)
      have e35 : (sA g2 0 18 (nI (bS (qB q)))).1 35 = nI (fb_ct (pC (setS (qB q) (bS (qB q) + 2 ^ k)) m) (nR (setS (qB q) (bS (qB q) + 2 ^ k)))) := r5
      have hct := fb_ct_le (pC (setS (qB q) (bS (qB q) + 2 ^ k)) m) (nR (setS (qB q) (bS (qB q) + 2 ^ k)))
      have hR' := nR_le hw'
      rw [e35, i0 (by omega)]
      unfold fX12_vetoes_110
      by_cases c : fb_ct (pC (setS (qB q) (bS (qB q) + 2 ^ k)) m) (nR (setS (qB q) (bS (qB q) + 2 ^ k))) = 0
      · rw [if_pos c, bnd_e, nI_1, bnd_e]
        have o := or_bit hlt (show k < 31 by omega) true
        rw [Bool.toNat_true, Nat.one_mul] at o
        rw [o]
        have := fin _ true (by unfold vtP rch; rw [hst, c]; rfl) back (r4.trans h34) f3
        rw [Bool.toNat_true, Nat.one_mul] at this
        exact this
      · rw [if_neg c, bnd_e, nI_1, bnd_e]
        have o := or_bit hlt (show k < 31 by omega) false
        rw [Bool.toNat_false, Nat.zero_mul] at o
        rw [l_0, o]
        have := fin _ false (by unfold vtP rch; rw [hst, decide_eq_true (show 0 < fb_ct (pC (setS (qB q) (bS (qB q) + 2 ^ k)) m) (nR (setS (qB q) (bS (qB q) + 2 ^ k))) by omega)]; rfl) back (r4.trans h34) f3
        rw [Bool.toNat_false, Nat.zero_mul] at this
        exact this
theorem mVetoes_eq (hq : wfQ q) (hK : KQ q (g.2.1 0)) {m : Nat} (hm : m < bN (qB q)) : Ev (fX12_vetoes g (nI m)) (fun z => z.1 = nI (vtA (qB q) m) ∧ MRes q 0 g z.2) := by
  have hn := hq.1.2.1
  have hR := nR_le hq.1
  have hct := fb_ct_le (pC (qB q) m) (nR (qB q))
  unfold fX12_vetoes
  rw [bnd_e, isM_yes (g := sI g 4 0) hq.1 hK.1 hm, bndc_s, if_neg (by decide), bnd_e]
  have f1 : fM [4, 34] [] g (sI (sI g 4 (0 : Int32)) 34 (nI m)) := ((fM.refl g).sI (by decide)).sI (by decide)
  refine Ev.v (mChair_all (g0 := sI (sI g 4 (0 : Int32)) 34 (nI m)) hq hK (by omega) rfl) ?_
  rintro g' ⟨r1, r2, r3, r4⟩
  have R := (show MRes q 0 g (sI (sI g 4 (0 : Int32)) 34 (nI m)) from ⟨hK, rfl, kpM.of f1 (by decide) (by decide)⟩).frame r4
  rw [r1, i0 (by omega)]
  unfold vtA rch
  by_cases c : fb_ct (pC (qB q) m) (nR (qB q)) = 0
  · rw [if_pos c, if_neg (by rw [c]; decide)]
    exact ev_some.mpr ⟨rfl, R⟩
  · rw [if_neg c, if_pos (decide_eq_true (by omega))]
    refine (mVet_lp hq (k0 := g'.2.1 0) R.1 (by omega) (bN (qB q)) 0 fuel g' (by omega) (by unfold fuel; omega) rfl r3).mono ?_
    rintro z ⟨z1, z2, z3⟩
    exact ⟨z1, by rw [z2]; exact R.1, by rw [z3.1 4 (by decide)]; exact R.2.1, R.2.2.trans (kpM.of z3 (by decide) (by decide))⟩
theorem mVetoes_no (hq : wfQ q) (hK : KQ q (g.2.1 0)) {x : Int32} (h : ¬ mem (bN (qB q)) x) : Ev (fX12_vetoes g x) (fun z => MRes q 1 g z.2) := by
  unfold fX12_vetoes fX12_fails
  rw [bnd_e, isM_no (g := sI g 4 0) hq.1 hK.1 h, bndc_s, if_pos rfl, bnd_e, bndc_s]
  exact ev_some.mpr ⟨hK, rfl, (kpM.th g 0).trans (kpM.th _ _)⟩
end
section
variable {b : AB} {P : PL} {g : CS} {T : Nat}
theorem cThrone_eq (hw : wfB b) (hTs : g.1 30 7 = nI T) (hS : SB b P g 30) (hV : SV b T g) {m : Nat} (hm : m < bN b) {w : Int32} (hwh : whOK w) : Ev (fX11_throne P g (nI m) w) (fun z => z.1 = Sum.inr (paAns b (bstF (pC b m) (cR b) (nR b)) w) ∧ CRes b T g z.2) := by
  have hn := hw.2.1
  unfold fX11_throne
  rw [needM_y hw hS hm, bxr, needPath_y hwh, bxr]
  refine Ev.v (seats_eq hw hTs hS hV) ?_
  rintro g' ⟨h1, h2, h3⟩
  refine Ev.k (ib_n (by omega) (by omega)) (Ev.k (ib_n (by omega) (by omega)) ?_)
  rw [ix_n (by omega), (h1 m (by omega)).2.1, (h1 m (by omega)).2.2.1, pathAns_eq hw (hS.keep h3 svno30) _ hwh, bndc_s]
  exact ev_some.mpr ⟨rfl, h2, h3⟩
theorem cThrone_n1 (hw : wfB b) (hS : SB b P g 30) {x : Int32} (h : ¬ mem (bN b) x) (w : Int32) : fX11_throne P g x w = some (Sum.inl 2, g) := by
  unfold fX11_throne
  rw [needM_n hw hS h, bxl]
theorem cThrone_n2 (hw : wfB b) (hS : SB b P g 30) {m : Nat} (hm : m < bN b) {w : Int32} (hwh : ¬ whOK w) : fX11_throne P g (nI m) w = some (Sum.inl 1, g) := by
  unfold fX11_throne
  rw [needM_y hw hS hm, bxr, needPath_n hwh, bxl]
theorem cIdle_eq (hw : wfB b) (hTs : g.1 30 7 = nI T) (hS : SB b P g 30) (hV : SV b T g) : Ev (fX11_idle P g) (fun z => z.1 = nI (fb_ct (asR b) (nR b)) ∧ CRes b T g z.2) := by
  unfold fX11_idle
  rw [hS.2.1]
  refine Ev.v (tell_eq hw hTs hS hV _ _) ?_
  rintro g' ⟨h1, h2, h3⟩
  have e : pkB b (16777215 : Int32) (nI (l6 (bA b))) = asR b := by
    funext i
    unfold pkB asR
    have := lanes_as hw (bhA_lk hw (rwA b i))
    cases h : asB b (bhA b (rwA b i)) with
    | true => exact decide_eq_true (this.mpr h)
    | false => exact decide_eq_false (fun z => by rw [this.mp z] at h; exact absurd h (by decide))
  rw [e] at h1
  exact ev_some.mpr ⟨h1.1, h2, h3⟩
theorem cKnees_eq (hw : wfB b) (hTs : g.1 30 7 = nI T) (hS : SB b P g 30) (hV : SV b T g) {w : Int32} (hwh : w = 1 ∨ whOK w) : Ev (fX11_knees P g w) (fun z => z.1 = Sum.inr (knAns b w) ∧ CRes b T g z.2) := by
  have hp := nR_pos hw
  have key : Ev (fX11_knees_10 P g w) (fun z => z.1 = Sum.inr (knAns b w) ∧ CRes b T g z.2) := by
    unfold fX11_knees_10
    refine Ev.v (pairs_eq hw hTs hS hV) ?_
    rintro g' ⟨h1, h2, h3⟩
    have e10 : g'.1 17 10 = nI (tR b (kX b - 1)) := by rw [h1.1, if_neg (by omega)]; rfl
    have e11 : g'.1 17 11 = cOf b (kX b) := by rw [(h1.2 hp).1]; unfold cOf; rw [if_neg (kX_pos hw)]; rfl
    have e12 : g'.1 17 12 = nOf b (kX b) := by rw [(h1.2 hp).2]; unfold nOf; rw [if_neg (kX_pos hw)]; rfl
    rw [e10, e11, e12]
    unfold fX11_knees_54 knAns
    by_cases w0 : w = 0
    · rw [if_pos w0, if_pos w0]
      exact ev_some.mpr ⟨rfl, h2, h3⟩
    · rw [if_neg w0, if_neg w0]
      by_cases w1 : w = 1
      · rw [if_pos w1, if_pos w1, pathAns_eq hw (hS.keep h3 svno30) _ (Or.inl rfl), bndc_s]
        refine ev_some.mpr ⟨?_, h2, h3⟩
        show Sum.inr (paAns b (kX b) 0) = _
        unfold paAns
        rw [if_neg (kX_pos hw), if_pos rfl]
      · rw [if_neg w1, if_neg w1, pathAns_eq hw (hS.keep h3 svno30) _ (hwh.resolve_left w1), bndc_s]
        exact ev_some.mpr ⟨rfl, h2, h3⟩
  unfold fX11_knees
  by_cases w1 : w = 1
  · rw [if_pos w1]; exact key
  · rw [if_neg w1, needPath_y (hwh.resolve_left w1), bxr]; exact key
theorem cKnees_no {w : Int32} (h : ¬ (w = 1 ∨ whOK w)) : fX11_knees P g w = some (Sum.inl 1, g) := by
  unfold fX11_knees
  rw [if_neg (fun z => h (Or.inl z)), needPath_n (fun z => h (Or.inr z)), bxl]
theorem cHelps_eq (hw : wfB b) (hTs : g.1 30 7 = nI T) (hS : SB b P g 30) (hV : SV b T g) {m : Nat} (hm : m < bN b) {w : Int32} (hwh : w = 0 ∨ w = 1) : Ev (fX11_helps P g (nI m) w) (fun z => z.1 = Sum.inr (hlAns (hlpF (pC b m) (mR b) (nR b)) w) ∧ CRes b T g z.2) := by
  have hn := hw.2.1
  have hh := hlpF_le (p := pC b m) (s := mR b) (B := 64) (fun k => mvA_lt hw _) (nR b)
  have key : Ev (fX11_helps_25 P g (nI m) w) (fun z => z.1 = Sum.inr (hlAns (hlpF (pC b m) (mR b) (nR b)) w) ∧ CRes b T g z.2) := by
    unfold fX11_helps_25
    refine Ev.v (seats_eq hw hTs hS hV) ?_
    rintro g' ⟨h1, h2, h3⟩
    refine Ev.k (ib_n (by omega) (by omega)) ?_
    rw [ix_n (by omega), (h1 m (by omega)).2.2.2, bnd_e]
    unfold hlAns
    by_cases h0 : hlpF (pC b m) (mR b) (nR b) = 0
    · rw [if_pos (by rw [h0]; rfl), if_pos h0]
      exact ev_some.mpr ⟨rfl, h2, h3⟩
    · have ep : pm (hlpF (pC b m) (mR b) (nR b)) = nI (hlpF (pC b m) (mR b) (nR b) - 1) := by unfold pm; rw [if_neg h0]
      rw [ep, if_neg (nI_nm1 (by omega)), if_neg h0]
      rcases hwh with rfl | rfl
      · rw [if_pos rfl, if_neg (by decide), bitC _ (by omega), bndv_s]
        exact ev_some.mpr ⟨rfl, h2, h3⟩
      · rw [if_neg (by decide), if_pos rfl]
        exact ev_some.mpr ⟨rfl, h2, h3⟩
  unfold fX11_helps
  rw [needM_y hw hS hm, bxr]
  by_cases w0 : w = 0
  · rw [if_pos w0]; exact key
  · rw [if_neg w0, if_pos (hwh.resolve_left w0)]; exact key
theorem cHelps_n1 (hw : wfB b) (hS : SB b P g 30) {x : Int32} (h : ¬ mem (bN b) x) (w : Int32) : fX11_helps P g x w = some (Sum.inl 2, g) := by
  unfold fX11_helps
  rw [needM_n hw hS h, bxl]
theorem cHelps_n2 (hw : wfB b) (hS : SB b P g 30) {m : Nat} (hm : m < bN b) {w : Int32} (hwh : ¬ (w = 0 ∨ w = 1)) : fX11_helps P g (nI m) w = some (Sum.inl 1, g) := by
  unfold fX11_helps
  rw [needM_y hw hS hm, bxr, if_neg (fun z => hwh (Or.inl z)), if_neg (fun z => hwh (Or.inr z))]
theorem cVet_lp (hw : wfB b) {m : Nat} (hm : m < 6) : ∀ d k f (g : CS), k + d = bN b → d < f → g.1 30 7 = nI T → SB b P g 30 → SV b T g → Ev (fX11_vetoes_29 P f g (nI m) (nI (bs (vtP b m) k)) (nI k)) (fun z => z.1 = Sum.inr (nI (bs (vtP b m) (bN b))) ∧ CRes b T g z.2) := by
  have hn := hw.2.1
  have hs64 := s64 hw
  intro d
  induction d with
  | zero =>
    intro k f g hk hf hTs hS hV
    obtain ⟨f, rfl⟩ : ∃ f', f = f' + 1 := ⟨f - 1, by omega⟩
    have hk : k = bN b := hk
    subst hk
    rw [fX11_vetoes_29, hS.1, if_pos (nI_le (by omega) (by omega))]
    exact ev_some.mpr ⟨rfl, hV, fC.refl g⟩
  | succ d ih =>
    intro k f g hk hf hTs hS hV
    obtain ⟨f, rfl⟩ : ∃ f', f = f' + 1 := ⟨f - 1, by omega⟩
    have hlt := bs_lt (vtP b m) k
    have fin : ∀ (g1 : CS) (t : Bool), t = vtP b m k → CRes b T g g1 → Ev (fX11_vetoes_29 P f g1 (nI m) (nI (bs (vtP b m) k + t.toNat * 2 ^ k)) (nI (k + 1))) (fun z => z.1 = Sum.inr (nI (bs (vtP b m) (bN b))) ∧ CRes b T g z.2) := by
      intro g1 t ht hC
      rw [ht, ← bs_succ]
      refine (ih (k + 1) f g1 (by omega) (by omega) (by rw [hC.2.i 30 7 (by decide)]; exact hTs) (hS.keep hC.2 svno30) hC.1).mono ?_
      rintro z ⟨z1, z2, z3⟩
      exact ⟨z1, z2, hC.2.trans z3⟩
    rw [fX11_vetoes_29, hS.1, if_neg (nI_ge (by omega) (by omega)), cStuck_eq hw hS (by omega), bndc_s]
    cases hst : stk b k with
    | true =>
      rw [if_neg (show ¬ nI true.toNat = 0 by decide), nI_1, bnd_e]
      have := fin g false (by unfold vtP; rw [hst]; rfl) ⟨hV, fC.refl g⟩
      rw [Bool.toNat_false, Nat.zero_mul, Nat.add_zero] at this
      exact this
    | false =>
      have hSl := stuck_lt hw (show k < bN b by omega) hst
      rw [if_pos (show nI false.toNat = 0 from rfl), hS.2.2.2.1, shl1 (by omega), add_bit _ hs64 k (by omega) hst]
      refine Ev.c (reach_eq hw hm hSl hTs hS hV) ?_
      rintro r g2 ⟨q1, q2, q3⟩
      dsimp only at q1
      have hC : CRes b T g g2 := ⟨q2, q3.mono (by decide) (by decide) (by decide)⟩
      have er : decide (0 < fb_ct (pC (setS b (bS b + 2 ^ k)) m) (nR (setS b (bS b + 2 ^ k)))) = rch (setS b (bS b + 2 ^ k)) m := rfl
      rw [q1, er]
      cases hr : rch (setS b (bS b + 2 ^ k)) m with
      | false =>
        rw [if_pos (show nI false.toNat = 0 from rfl), bnd_e, nI_1, bnd_e]
        have o := or_bit hlt (show k < 31 by omega) true
        rw [Bool.toNat_true, Nat.one_mul] at o
        rw [o]
        have := fin g2 true (by unfold vtP; rw [hst, hr]; rfl) hC
        rw [Bool.toNat_true, Nat.one_mul] at this
        exact this
      | true =>
        rw [if_neg (show ¬ nI true.toNat = 0 by decide), nI_1, bnd_e]
        have := fin g2 false (by unfold vtP; rw [hst, hr]; rfl) hC
        rw [Bool.toNat_false, Nat.zero_mul, Nat.add_zero] at this
        exact this
theorem cVetoes_eq (hw : wfB b) (hTs : g.1 30 7 = nI T) (hS : SB b P g 30) (hV : SV b T g) {m : Nat} (hm : m < bN b) : Ev (fX11_vetoes P g (nI m)) (fun z => z.1 = Sum.inr (nI (vtA b m)) ∧ CRes b T g z.2) := by
  have hn := hw.2.1
  unfold fX11_vetoes
  rw [needM_y hw hS hm, bxr, hS.2.2.2.1]
  refine Ev.c (reach_eq hw (by omega) hw.2.2.2.2.1 hTs hS hV) ?_
  rintro r g2 ⟨q1, q2, q3⟩
  dsimp only at q1
  rw [setS_id] at q1
  have hC : CRes b T g g2 := ⟨q2, q3.mono (by decide) (by decide) (by decide)⟩
  have er : decide (0 < fb_ct (pC b m) (nR b)) = rch b m := rfl
  rw [q1, er]
  unfold vtA
  cases hr : rch b m with
  | false =>
    rw [if_pos (show nI false.toNat = 0 from rfl), if_neg (by decide)]
    exact ev_some.mpr ⟨rfl, hC⟩
  | true =>
    rw [if_neg (show ¬ nI true.toNat = 0 by decide), if_pos rfl]
    refine (cVet_lp hw (by omega) (bN b) 0 fuel g2 (by omega) (by unfold fuel; omega) (by rw [hC.2.i 30 7 (by decide)]; exact hTs) (hS.keep hC.2 svno30) hC.1).mono ?_
    rintro z ⟨z1, z2, z3⟩
    exact ⟨z1, z2, hC.2.trans z3⟩
theorem cVetoes_no (hw : wfB b) (hS : SB b P g 30) {x : Int32} (h : ¬ mem (bN b) x) : fX11_vetoes P g x = some (Sum.inl 2, g) := by
  unfold fX11_vetoes
  rw [needM_n hw hS h, bxl]
end
