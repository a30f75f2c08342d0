/-! ===== the reference by minutes ===== -/
abbrev miL : List Nat := [19, 20, 21, 22, 23]
section
variable {b : AB} {g : MS} {t r : Nat}
theorem round27 (hw : wfB b) (hR : Rho (cX b) t r) (hB : t + r ≤ 46656) : ∀ d n f (g : MS), n + d = t + r → d < f → KB b (g.2.1 0) → AR (bN b) (mI b n) g → (∀ i, i < n → g.2.1 39 (cX b i) = nI i) → (∀ x, x < 46656 → (∀ i, i < n → cX b i ≠ x) → g.2.1 39 x = -1) → Ev (fX12_laysRound_27 f g (nI n)) (fun g' => g'.1 40 = nI t ∧ g'.1 41 = nI r ∧ fM [40, 41] (39 :: miL) g g') := by
  have hr := hR.1
  intro d
  induction d with
  | zero =>
    intro n f g hn hf hK hA h1 h2
    obtain ⟨f, rfl⟩ : ∃ f', f = f' + 1 := ⟨f - 1, by omega⟩
    have hn : n = t + r := hn
    subst hn
    have hl : lcA (mI b (t + r)) (bN b) = cX b t := hR.2.1
    have hlt := cX_lt hw t
    rw [fX12_laysRound_27, lookCode_eq hw hK (mI_lk hw _) hA, bndc_s, hl]
    refine Ev.k (ib_n hlt (by omega)) ?_
    rw [ix_n (by omega), h1 t (by omega), if_neg (nI_nm1 (by omega)), lookCode_eq hw hK (mI_lk hw _) hA, bndc_s, hl]
    refine Ev.k (ib_n hlt (by omega)) ?_
    rw [bnd_e, ix_n (by omega), h1 t (by omega), bnd_e]
    have e40 : (sI g 40 (nI t)).1 40 = nI t := rfl
    rw [e40, pk_sub (by omega), show t + r - t = r by omega]
    exact ev_some.mpr ⟨rfl, rfl, ((fM.refl g).sI (by decide)).sI (by decide)⟩
  | succ d ih =>
    intro n f g hn hf hK hA h1 h2
    obtain ⟨f, rfl⟩ : ∃ f', f = f' + 1 := ⟨f - 1, by omega⟩
    have hlt := cX_lt hw n
    have hl : lcA (mI b n) (bN b) = cX b n := rfl
    have hno : ∀ i, i < n → cX b i ≠ cX b n := fun i hi e => by
      have := hR.2.2 i n (by omega) (by omega) e
      omega
    rw [fX12_laysRound_27, lookCode_eq hw hK (mI_lk hw _) hA, bndc_s, hl]
    refine Ev.k (ib_n hlt (by omega)) ?_
    rw [ix_n (by omega), h2 _ hlt hno, if_pos rfl, lookCode_eq hw hK (mI_lk hw _) hA, bndc_s, hl]
    refine Ev.k (ib_n hlt (by omega)) ?_
    rw [bnd_e, ix_n (by omega)]
    have f1 : fM [40, 41] (39 :: miL) g (sA g 39 (cX b n) (nI n)) := (fM.refl g).sA (by decide)
    refine Ev.v (minute_eq hw (g := sA g 39 (cX b n) (nI n)) hK (mI_lk hw n) hA) ?_
    rintro g1 ⟨a1, a2⟩
    rw [nI_1, bnd_e]
    have e39 : g1.2.1 39 = upd (g.2.1 39) (cX b n) (nI n) := a2.row 39 (by decide)
    refine (ih (n + 1) f g1 (by omega) (by omega) (by rw [a2.row 0 (by decide)]; exact hK) a1 (fun i hi => ?_) (fun x hx hz => ?_)).mono ?_
    · rw [e39, upd_j]
      by_cases e : i = n
      · rw [e, if_pos rfl]
      · rw [if_neg (hno i (by omega))]; exact h1 i (by omega)
    · rw [e39, upd_j, if_neg (fun e => hz n (by omega) e.symm)]
      exact h2 x hx (fun i hi => hz i (by omega))
    · rintro z ⟨z1, z2, z3⟩
      exact ⟨z1, z2, (f1.trans (a2.mono (by decide) (by decide))).trans z3⟩
theorem round2 (hw : wfB b) (hR : Rho (cX b) t r) (hB : t + r ≤ 46656) : ∀ d k f (g : MS), k + d = 46656 → d < f → KB b (g.2.1 0) → (∀ c, c < k → g.2.1 39 c = -1) → Ev (fX12_laysRound_2 f g (nI k)) (fun g' => g'.1 40 = nI t ∧ g'.1 41 = nI r ∧ fM [40, 41] (39 :: miL) g g') := by
  intro d
  induction d with
  | zero =>
    intro k f g hk hf hK h
    obtain ⟨f, rfl⟩ : ∃ f', f = f' + 1 := ⟨f - 1, by omega⟩
    have hk : k = 46656 := hk
    subst hk
    rw [fX12_laysRound_2, if_pos (by decide)]
    refine Ev.v (aimsNow_eq hw hK) ?_
    rintro g1 ⟨a1, a2⟩
    refine (round27 hw hR hB (t + r) 0 fuel g1 (by omega) (by unfold fuel; omega) (by rw [a2.row 0 (by decide)]; exact hK) a1 (fun i hi => absurd hi (Nat.not_lt_zero i)) (fun x hx _ => by rw [a2.row 39 (by decide)]; exact h x hx)).mono ?_
    rintro z ⟨z1, z2, z3⟩
    exact ⟨z1, z2, (a2.mono (by decide) (by decide)).trans z3⟩
  | succ d ih =>
    intro k f g hk hf hK h
    obtain ⟨f, rfl⟩ : ∃ f', f = f' + 1 := ⟨f - 1, by omega⟩
    rw [fX12_laysRound_2, if_neg (show ¬ (46656 : Int32) ≤ nI k from nI_ge (b := 46656) (by omega) (by omega))]
    refine Ev.k (ib_n (by omega) (by omega)) ?_
    rw [bnd_e, nI_1, bnd_e, ix_n (by omega)]
    refine (ih (k + 1) f (sA g 39 k (-1)) (by omega) (by omega) hK (fun c hc => ?_)).mono ?_
    · show upd (g.2.1 39) k (-1) c = -1
      rw [upd_j]
      by_cases e : c = k
      · rw [if_pos e]
      · rw [if_neg e]; exact h c (by omega)
    · rintro z ⟨z1, z2, z3⟩
      exact ⟨z1, z2, ((fM.refl g).sA (by decide)).trans z3⟩
theorem round_eq (hw : wfB b) (hR : Rho (cX b) t r) (hB : t + r ≤ 46656) (hK : KB b (g.2.1 0)) : Ev (fX12_laysRound g) (fun g' => g'.1 40 = nI t ∧ g'.1 41 = nI r ∧ fM [40, 41] (39 :: miL) g g') := round2 hw hR hB 46656 0 fuel g (by omega) (by unfold fuel; omega) hK (fun c hc => absurd hc (Nat.not_lt_zero c))
theorem in39 (hw : wfB b) {n : Nat} (hn : n < 200000) : ∀ d k f (g : MS), k + d = n → d < f → KB b (g.2.1 0) → AR (bN b) (mI b k) g → Ev (fX12_aimsIn_39 f g (nI n) (nI k)) (fun g' => AR (bN b) (mI b n) g' ∧ fM [] miL g g') := by
  intro d
  induction d with
  | zero =>
    intro k f g hk hf hK hA
    obtain ⟨f, rfl⟩ : ∃ f', f = f' + 1 := ⟨f - 1, by omega⟩
    have hk : k = n := hk
    subst hk
    rw [fX12_aimsIn_39, if_pos (nI_le (by omega) (by omega))]
    exact ev_some.mpr ⟨hA, fM.refl g⟩
  | succ d ih =>
    intro k f g hk hf hK hA
    obtain ⟨f, rfl⟩ : ∃ f', f = f' + 1 := ⟨f - 1, by omega⟩
    rw [fX12_aimsIn_39, if_neg (nI_ge (by omega) (by omega))]
    refine Ev.v (minute_eq hw hK (mI_lk hw k) hA) ?_
    rintro g1 ⟨a1, a2⟩
    rw [nI_1, bnd_e]
    refine (ih (k + 1) f g1 (by omega) (by omega) (by rw [a2.row 0 (by decide)]; exact hK) a1).mono ?_
    rintro z ⟨z1, z2⟩
    exact ⟨z1, a2.trans z2⟩
theorem aimsIn_eq (hw : wfB b) (hR : Rho (cX b) t r) (hB : t + r ≤ 46656) (hK : KB b (g.2.1 0)) {n : Nat} (hn : n ≤ 99999) : Ev (fX12_aimsIn g (nI n)) (fun g' => AR (bN b) (mI b (rep t r n)) g' ∧ fM [40, 41] (39 :: miL) g g') := by
  have hr := hR.1
  have hlt := rep_lt hR n
  unfold fX12_aimsIn fX12_aimsIn_32
  refine Ev.v (round_eq hw hR hB hK) ?_
  rintro g1 ⟨a1, a2, a3⟩
  have hK1 : KB b (g1.2.1 0) := by rw [a3.row 0 (by decide)]; exact hK
  have fin : Ev (bndv (fX12_aimsNow g1) (fun g3 => fX12_aimsIn_39 fuel g3 (nI (rep t r n)) (0 : Int32))) (fun g' => AR (bN b) (mI b (rep t r n)) g' ∧ fM [40, 41] (39 :: miL) g g') := by
    refine Ev.v (aimsNow_eq hw hK1) ?_
    rintro g2 ⟨c1, c2⟩
    refine (in39 hw (n := rep t r n) (by omega) (rep t r n) 0 fuel g2 (by omega) (by unfold fuel; omega) (by rw [c2.row 0 (by decide)]; exact hK1) c1).mono ?_
    rintro z ⟨z1, z2⟩
    exact ⟨z1, (a3.trans (c2.mono (by decide) (by decide))).trans (z2.mono (by decide) (by decide))⟩
  rw [a1, iLE (by omega) (by omega)]
  by_cases c : t ≤ n
  · rw [if_pos c, a2]
    refine Ev.k (nz_n (by omega) (by omega)) ?_
    have e : rep t r n = t + (n - t) % r := if_neg (by omega)
    rw [pk_sub c, jr_n (by omega) (by omega) (by omega), nI_add, ← e]
    exact fin
  · have e : rep t r n = n := if_pos (by omega)
    rw [if_neg c]
    rw [e] at fin ⊢
    exact fin
end
section
variable {q : AQ} {g : MS} {t r : Nat}
theorem MRes.cal {g1 g2 : MS} {th : Nat} (h : MRes q th g g1) (f : fM [40, 41] (39 :: miL) g1 g2) : MRes q th g g2 := ⟨h.1.keepR f (by decide), by rw [f.1 4 (by decide)]; exact h.2.1, h.2.2.trans (kpM.of f (by decide) (by decide))⟩
theorem mSettles_eq (hq : wfQ q) (hK : KQ q (g.2.1 0)) (hR : Rho (cX (qB q)) t r) (hB : t + r ≤ 46656) {w : Int32} (hwh : w = 0 ∨ w = 1) : Ev (fX12_settles g w) (fun z => z.1 = (if w = 0 then nI t else nI r) ∧ MRes q 0 g z.2) := by
  have hwi : 0 ≤ w.toInt ∧ w.toInt ≤ 1 := by rcases hwh with rfl | rfl <;> decide
  have e0 : (0 : Int64).toInt = 0 := rfl
  have e1 : (1 : Int64).toInt = 1 := rfl
  unfold fX12_settles
  rw [bnd_e, within_y (by rw [i64, e0]; exact hwi.1) (by rw [i64, e1]; exact hwi.2), bndv_s, if_neg (by decide)]
  refine Ev.v (round_eq hq.1 hR hB (g := sI g 4 0) hK.1) ?_
  rintro g1 ⟨a1, a2, a3⟩
  have R := (MRes.same hK).cal a3
  by_cases c : w = 0
  · rw [if_pos c]
    exact ev_some.mpr ⟨by rw [if_pos c]; exact a1, R⟩
  · rw [if_neg c]
    exact ev_some.mpr ⟨by rw [if_neg c]; exact a2, R⟩
theorem mSettles_no (hK : KQ q (g.2.1 0)) {w : Int32} (hwh : ¬ (w = 0 ∨ w = 1)) : Ev (fX12_settles g w) (fun z => MRes q 1 g z.2) := by
  unfold fX12_settles fX12_fails
  rw [bnd_e, within_n (by rw [i64]; exact w01 hwh), bndv_s, if_pos rfl, bnd_e, bndc_s]
  exact ev_some.mpr ⟨hK, rfl, (kpM.th g 0).trans (kpM.th _ _)⟩
theorem isFar_y {n : Nat} (hn : n ≤ 99999) : fX12_isFar (nI n) = some 1 := by
  have e0 : (0 : Int64).toInt = 0 := rfl
  have e1 : (99999 : Int64).toInt = 99999 := rfl
  unfold fX12_isFar
  rw [within_y (by rw [i64, n_toInt (by omega), e0]; omega) (by rw [i64, n_toInt (by omega), e1]; omega), bndv_s]
  rfl
/-- an int from 0 to M -/
def upTo (M : Nat) (x : Int32) : Prop := ∃ n, n ≤ M ∧ x = nI n
theorem upTo_of {M : Nat} {x : Int32} (h0 : 0 ≤ x.toInt) (h : x.toInt ≤ M) : upTo M x := by
  obtain ⟨m, hm, rfl⟩ := nI_of (x := x) (by rw [fa_lt]; have e : (0 : Int32).toInt = 0 := rfl; omega)
  rw [n_toInt hm] at h
  exact ⟨m, by omega, rfl⟩
theorem isFar_n {x : Int32} (h : ¬ upTo 99999 x) : fX12_isFar x = some 0 := by
  have e0 : (0 : Int64).toInt = 0 := rfl
  have e1 : (99999 : Int64).toInt = 99999 := rfl
  unfold fX12_isFar
  rw [within_n (by rw [i64, e0, e1]; exact fun z => h (upTo_of z.1 z.2)), bndv_s]
  rfl
theorem mChairIn_eq (hq : wfQ q) (hK : KQ q (g.2.1 0)) (hR : Rho (cX (qB q)) t r) (hB : t + r ≤ 46656) {n : Nat} (hn : n ≤ 99999) : Ev (fX12_chairIn g (nI n)) (fun z => z.1 = pm (chA (qB q) (mI (qB q) (rep t r n))) ∧ MRes q 0 g z.2) := by
  unfold fX12_chairIn
  rw [bnd_e, isFar_y hn, bndv_s, if_neg (by decide)]
  refine Ev.v (aimsIn_eq hq.1 hR hB (g := sI g 4 0) hK.1 hn) ?_
  rintro g1 ⟨a1, a3⟩
  have R := (MRes.same hK).cal a3
  refine Ev.c (chairBy_eq hq.1 R.1.1 (mI_lk hq.1 _) a1) ?_
  rintro x g2 ⟨q1, -, q3⟩
  exact ev_some.mpr ⟨q1, R.cal (q3.mono (by decide) (by decide))⟩
theorem mChairIn_no (hK : KQ q (g.2.1 0)) {x : Int32} (h : ¬ upTo 99999 x) : Ev (fX12_chairIn g x) (fun z => MRes q 1 g z.2) := by
  unfold fX12_chairIn fX12_fails
  rw [bnd_e, isFar_n h, bndv_s, if_pos rfl, bnd_e, bndc_s]
  exact ev_some.mpr ⟨hK, rfl, (kpM.th g 0).trans (kpM.th _ _)⟩
theorem mAimIn_eq (hq : wfQ q) (hK : KQ q (g.2.1 0)) (hR : Rho (cX (qB q)) t r) (hB : t + r ≤ 46656) {m n : Nat} (hm : m < bN (qB q)) (hn : n ≤ 99999) : Ev (fX12_aimIn g (nI m) (nI n)) (fun z => z.1 = nI (mI (qB q) (rep t r n) m) ∧ MRes q 0 g z.2) := by
  have h6 := hq.1.2.1
  unfold fX12_aimIn fX12_aimIn_26
  rw [isM_yes hq.1 hK.1 hm, bndc_s, if_neg (by decide), isFar_y hn, bndv_s, if_neg (by decide), bnd_e, if_pos (show (sI g 4 (0 : Int32)).1 4 ≤ 0 from (by decide : (0 : Int32) ≤ 0))]
  refine Ev.v (aimsIn_eq hq.1 hR hB (g := sI g 4 0) hK.1 hn) ?_
  rintro g1 ⟨a1, a3⟩
  refine Ev.k (ib_n (by omega) (by omega)) (ev_some.mpr ⟨?_, (MRes.same hK).cal a3⟩)
  rw [ix_n (by omega)]
  exact a1 m hm
theorem mAimIn_n1 (hq : wfQ q) (hK : KQ q (g.2.1 0)) {x : Int32} (h : ¬ mem (bN (qB q)) x) (y : Int32) : Ev (fX12_aimIn g x y) (fun z => MRes q 1 g z.2) := by
  unfold fX12_aimIn fX12_aimIn_26
  rw [isM_no hq.1 hK.1 h, bndc_s, if_pos rfl, bnd_e, if_neg (show ¬ (sI g 4 (1 : Int32)).1 4 ≤ 0 from (by decide : ¬ (1 : Int32) ≤ 0))]
  exact ev_some.mpr (MRes.fail hK 1)
theorem mAimIn_n2 (hq : wfQ q) (hK : KQ q (g.2.1 0)) {m : Nat} (hm : m < bN (qB q)) {y : Int32} (h : ¬ upTo 99999 y) : Ev (fX12_aimIn g (nI m) y) (fun z => MRes q 2 g z.2) := by
  unfold fX12_aimIn fX12_aimIn_26
  rw [isM_yes hq.1 hK.1 hm, bndc_s, if_neg (by decide), isFar_n h, bndv_s, if_pos rfl, bnd_e, if_neg (show ¬ (sI g 4 (2 : Int32)).1 4 ≤ 0 from (by decide : ¬ (2 : Int32) ≤ 0))]
  exact ev_some.mpr (MRes.fail hK 2)
theorem reign52 {b : AB} (hw : wfB b) {m n : Nat} (hm : m < 6) (hn : n ≤ 9999) : ∀ d k f (g : MS), k + d = n + 1 → d < f → KB b (g.2.1 0) → AR (bN b) (mI b k) g → Ev (fX12_reign_52 f g (nI m) (nI n) (nI (fb_ct (chK b m) k)) (nI k)) (fun z => z.1 = nI (fb_ct (chK b m) (n + 1)) ∧ fM [] miL g z.2) := by
  intro d
  induction d with
  | zero =>
    intro k f g hk hf hK hA
    obtain ⟨f, rfl⟩ : ∃ f', f = f' + 1 := ⟨f - 1, by omega⟩
    have hk : k = n + 1 := hk
    subst hk
    rw [fX12_reign_52, if_pos (nI_lt (by omega) (by omega))]
    exact ev_some.mpr ⟨rfl, fM.refl g⟩
  | succ d ih =>
    intro k f g hk hf hK hA
    obtain ⟨f, rfl⟩ : ∃ f', f = f' + 1 := ⟨f - 1, by omega⟩
    rw [fX12_reign_52, if_neg (nI_nlt (by omega) (by omega))]
    refine Ev.c (chairBy_eq hw hK (mI_lk hw k) hA) ?_
    rintro x g1 ⟨q1, -, q3⟩
    dsimp only at q1
    have hc := chA_le hw (mI b k)
    have hK1 : KB b (g1.2.1 0) := by rw [q3.row 0 (by decide)]; exact hK
    have hA1 : AR (bN b) (mI b k) g1 := fun j hj => by rw [q3.row 21 (by decide)]; exact hA j hj
    have fin : ∀ c : Nat, c = fb_ct (chK b m) (k + 1) → Ev (bndv (fX12_minute g1) (fun g2 => bnd (nI k + (1 : Int32)) (fun x3 => fX12_reign_52 f g2 (nI m) (nI n) (nI c) x3))) (fun z => z.1 = nI (fb_ct (chK b m) (n + 1)) ∧ fM [] miL g z.2) := by
      intro c hc
      refine Ev.v (minute_eq hw hK1 (mI_lk hw k) hA1) ?_
      rintro g2 ⟨a1, a2⟩
      rw [nI_1, bnd_e, hc]
      refine (ih (k + 1) f g2 (by omega) (by omega) (by rw [a2.row 0 (by decide)]; exact hK1) a1).mono ?_
      rintro z ⟨z1, z2⟩
      exact ⟨z1, ((q3.mono (by decide) (by decide)).trans (a2.mono (by decide) (by decide))).trans z2⟩
    rw [q1]
    unfold fX12_reign_72
    by_cases c : chA b (mI b k) = m + 1
    · rw [if_pos (by rw [pm_eq (by omega) (by omega)]; exact c), nI_1, bnd_e]
      exact fin _ (ct_y (p := chK b m) (decide_eq_true c)).symm
    · rw [if_neg (by rw [pm_eq (by omega) (by omega)]; exact c), Int32.add_zero, bnd_e]
      exact fin _ (ct_n (p := chK b m) (decide_eq_false c)).symm
theorem mReign_eq (hq : wfQ q) (hK : KQ q (g.2.1 0)) {m n : Nat} (hm : m < bN (qB q)) (hn : n ≤ 9999) : Ev (fX12_reign g (nI m) (nI n)) (fun z => z.1 = nI (fb_ct (chK (qB q) m) (n + 1)) ∧ MRes q 0 g z.2) := by
  have h6 := hq.1.2.1
  have e0 : (0 : Int64).toInt = 0 := rfl
  have e1 : (9999 : Int64).toInt = 9999 := rfl
  unfold fX12_reign fX12_reign_31
  rw [isM_yes hq.1 hK.1 hm, bndc_s, if_neg (by decide), within_y (by rw [i64, n_toInt (by omega), e0]; omega) (by rw [i64, n_toInt (by omega), e1]; omega), bndv_s, if_neg (by decide), bnd_e, if_pos (show (sI g 4 (0 : Int32)).1 4 ≤ 0 from (by decide : (0 : Int32) ≤ 0))]
  refine Ev.v (aimsNow_eq hq.1 (g := sI g 4 0) hK.1) ?_
  rintro g1 ⟨a1, a2⟩
  refine (reign52 hq.1 (m := m) (n := n) (by omega) hn (n + 1) 0 fuel g1 (by omega) (by unfold fuel; omega) (by rw [a2.row 0 (by decide)]; exact hK.1) a1).mono ?_
  rintro z ⟨z1, z2⟩
  exact ⟨z1, (MRes.same hK).cal ((a2.mono (by decide) (by decide)).trans (z2.mono (by decide) (by decide)))⟩
theorem mReign_n1 (hq : wfQ q) (hK : KQ q (g.2.1 0)) {x : Int32} (h : ¬ mem (bN (qB q)) x) (y : Int32) : Ev (fX12_reign g x y) (fun z => MRes q 1 g z.2) := by
  unfold fX12_reign fX12_reign_31
  rw [isM_no hq.1 hK.1 h, bndc_s, if_pos rfl, bnd_e, if_neg (show ¬ (sI g 4 (1 : Int32)).1 4 ≤ 0 from (by decide : ¬ (1 : Int32) ≤ 0))]
  exact ev_some.mpr (MRes.fail hK 1)
theorem mReign_n2 (hq : wfQ q) (hK : KQ q (g.2.1 0)) {m : Nat} (hm : m < bN (qB q)) {y : Int32} (h : ¬ upTo 9999 y) : Ev (fX12_reign g (nI m) y) (fun z => MRes q 2 g z.2) := by
  have e0 : (0 : Int64).toInt = 0 := rfl
  have e1 : (9999 : Int64).toInt = 9999 := rfl
  unfold fX12_reign fX12_reign_31
  rw [isM_yes hq.1 hK.1 hm, bndc_s, if_neg (by decide), within_n (by rw [i64, e0, e1]; exact fun z => h (upTo_of z.1 z.2)), bndv_s, if_pos rfl, bnd_e, if_neg (show ¬ (sI g 4 (2 : Int32)).1 4 ≤ 0 from (by decide : ¬ (2 : Int32) ≤ 0))]
  exact ev_some.mpr (MRes.fail hK 2)
theorem first30 {b : AB} (hw : wfB b) (hB : t + r ≤ 46656) {m : Nat} (hm : m < 6) : ∀ d k f (g : MS), k + d = t + r → d < f → g.1 40 = nI t → g.1 41 = nI r → KB b (g.2.1 0) → AR (bN b) (mI b k) g → (∀ u, u < k → chK b m u = false) → Ev (fX12_first_30 f g (nI m) (nI k)) (fun z => z.1 = pm (fiF (chK b m) (t + r)) ∧ fM [] miL g z.2) := by
  intro d
  induction d with
  | zero =>
    intro k f g hk hf h40 h41 hK hA h
    obtain ⟨f, rfl⟩ : ∃ f', f = f' + 1 := ⟨f - 1, by omega⟩
    have hk : k = t + r := hk
    subst hk
    rw [fX12_first_30, h40, h41, nI_add, if_pos (nI_le (by omega) (by omega))]
    exact ev_some.mpr ⟨by rw [fiF_0 _ h]; rfl, fM.refl g⟩
  | succ d ih =>
    intro k f g hk hf h40 h41 hK hA h
    obtain ⟨f, rfl⟩ : ∃ f', f = f' + 1 := ⟨f - 1, by omega⟩
    rw [fX12_first_30, h40, h41, nI_add, if_neg (nI_ge (by omega) (by omega))]
    refine Ev.c (chairBy_eq hw hK (mI_lk hw k) hA) ?_
    rintro x g1 ⟨q1, -, q3⟩
    dsimp only at q1
    have hc := chA_le hw (mI b k)
    have hK1 : KB b (g1.2.1 0) := by rw [q3.row 0 (by decide)]; exact hK
    have hA1 : AR (bN b) (mI b k) g1 := fun j hj => by rw [q3.row 21 (by decide)]; exact hA j hj
    rw [q1]
    by_cases c : chA b (mI b k) = m + 1
    · rw [if_pos (by rw [pm_eq (by omega) (by omega)]; exact c)]
      refine ev_some.mpr ⟨?_, q3.mono (by decide) (by decide)⟩
      rw [fiF_at (v := k) (decide_eq_true c) h _ (by omega)]
      rfl
    · rw [if_neg (by rw [pm_eq (by omega) (by omega)]; exact c)]
      refine Ev.v (minute_eq hw hK1 (mI_lk hw k) hA1) ?_
      rintro g2 ⟨a1, a2⟩
      have F : fM [] miL g g2 := (q3.mono (by decide) (by decide)).trans (a2.mono (by decide) (by decide))
      rw [nI_1, bnd_e]
      refine (ih (k + 1) f g2 (by omega) (by omega) (by rw [F.1 40 (by decide)]; exact h40) (by rw [F.1 41 (by decide)]; exact h41) (by rw [F.row 0 (by decide)]; exact hK) a1 (fun u hu => ?_)).mono ?_
      · by_cases e : u = k
        · rw [e]; exact decide_eq_false c
        · exact h u (by omega)
      · rintro z ⟨z1, z2⟩
        exact ⟨z1, F.trans z2⟩
theorem mFirst_eq (hq : wfQ q) (hK : KQ q (g.2.1 0)) (hR : Rho (cX (qB q)) t r) (hB : t + r ≤ 46656) {m : Nat} (hm : m < bN (qB q)) : Ev (fX12_first g (nI m)) (fun z => z.1 = pm (fiF (chK (qB q) m) (t + r)) ∧ MRes q 0 g z.2) := by
  have h6 := hq.1.2.1
  unfold fX12_first
  rw [bnd_e, isM_yes (g := sI g 4 0) hq.1 hK.1 hm, bndc_s, if_neg (by decide)]
  refine Ev.v (round_eq hq.1 hR hB (g := sI g 4 0) hK.1) ?_
  rintro g1 ⟨a1, a2, a3⟩
  have R := (MRes.same hK).cal a3
  refine Ev.v (aimsNow_eq hq.1 R.1.1) ?_
  rintro g2 ⟨c1, c2⟩
  refine (first30 hq.1 hB (m := m) (by omega) (t + r) 0 fuel g2 (by omega) (by unfold fuel; omega) (by rw [c2.1 40 (by decide)]; exact a1) (by rw [c2.1 41 (by decide)]; exact a2) (by rw [c2.row 0 (by decide)]; exact R.1.1) c1 (fun u hu => absurd hu (Nat.not_lt_zero u))).mono ?_
  rintro z ⟨z1, z2⟩
  exact ⟨z1, R.cal ((c2.mono (by decide) (by decide)).trans (z2.mono (by decide) (by decide)))⟩
theorem mFirst_no (hq : wfQ q) (hK : KQ q (g.2.1 0)) {x : Int32} (h : ¬ mem (bN (qB q)) x) : Ev (fX12_first g x) (fun z => MRes q 1 g z.2) := by
  unfold fX12_first fX12_fails
  rw [bnd_e, isM_no (g := sI g 4 0) hq.1 hK.1 h, bndc_s, if_pos rfl, bnd_e, bndc_s]
  exact ev_some.mpr ⟨hK, rfl, (kpM.th g 0).trans (kpM.th _ _)⟩
end
