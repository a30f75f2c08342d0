/-! ===== minutes and undone deeds ===== -/
def mnL : Nat → AB → Nat × AB
  | 0, b => (0, b)
  | d + 1, b => ((if chA (miB b) (bA (miB b)) = chA b (bA b) then 0 else 1) + (mnL d (miB b)).1, (mnL d (miB b)).2)
theorem mnL_wf : ∀ d {b : AB}, wfB b → wfB (mnL d b).2 ∧ bN (mnL d b).2 = bN b ∧ (mnL d b).1 ≤ d
  | 0, b, h => ⟨h, rfl, Nat.le_refl 0⟩
  | d + 1, b, h => by
    have ih := mnL_wf d (wf_miB h)
    refine ⟨ih.1, ih.2.1, ?_⟩
    show (if chA (miB b) (bA (miB b)) = chA b (bA b) then 0 else 1) + (mnL d (miB b)).1 ≤ d + 1
    have := ih.2.2
    split <;> omega
theorem chA_le {b : AB} (hw : wfB b) (a : Nat → Nat) : chA b a ≤ 6 := Nat.le_trans (chF_ok _ _).1 hw.2.1
theorem pm_chA {b b' : AB} (hw : wfB b) (hw' : wfB b') (a a' : Nat → Nat) : pm (chA b a) = pm (chA b' a') ↔ chA b a = chA b' a' := by
  have h1 := chA_le hw a
  have h2 := chA_le hw' a'
  exact pm_inj (by omega) (by omega)
theorem DM.trans {b1 b2 : AB} {g g1 g2 : MS} (h : DM b1 g g1) (h2 : DM b2 g1 g2) : DM b2 g g2 := ⟨h2.1, fun i hi => (h2.2.1 i hi).trans (h.2.1 i hi), h.2.2.trans h2.2.2⟩
theorem DM.refl {b : AB} {g : MS} (h : KB b (g.2.1 0)) : DM b g g := ⟨h, fun _ _ => rfl, fM.refl g⟩
theorem DM.calm {b : AB} {g g1 : MS} (h : KB b (g.2.1 0)) (f : fM [] [19, 20, 21, 22, 23] g g1) : DM b g g1 := ⟨by rw [f.row 0 (by decide)]; exact h, fun i _ => by rw [f.row 0 (by decide)], f.mono (by decide) (by decide)⟩
section
variable {q : AQ} {g : MS}
theorem mMin_lp (n : Nat) (hn : n ≤ 99) : ∀ d k f c (b : AB) (g : MS), k + d = n → d < f → c + d ≤ 1000 → wfB b → KB b (g.2.1 0) → Ev (fX12_minutes_37 f g (nI n) (nI c) (pm (chA b (bA b))) (nI k)) (fun z => z.1 = nI (c + (mnL d b).1) ∧ DM (mnL d b).2 g z.2) := by
  intro d
  induction d with
  | zero =>
    intro k f c b g hk hf hc hw hK
    obtain ⟨f, rfl⟩ : ∃ f', f = f' + 1 := ⟨f - 1, by omega⟩
    rw [fX12_minutes_37, if_pos (nI_le (by omega) (by omega))]
    exact ev_some.mpr ⟨rfl, DM.refl hK⟩
  | succ d ih =>
    intro k f c b g hk hf hc hw hK
    obtain ⟨f, rfl⟩ : ∃ f', f = f' + 1 := ⟨f - 1, by omega⟩
    rw [fX12_minutes_37, if_neg (nI_ge (by omega) (by omega))]
    refine Ev.v (minuteNow_eq hw hK) ?_
    intro g1 d1
    refine Ev.c (chairNow_eq (wf_miB hw) d1.1) ?_
    rintro r g2 ⟨r1, -, -, r2⟩
    dsimp only at r1
    subst r1
    have d2 : DM (miB b) g1 g2 := DM.calm d1.1 (r2.mono (by decide) (by decide))
    unfold fX12_minutes_65
    by_cases e : chA (miB b) (bA (miB b)) = chA b (bA b)
    · rw [if_pos (by rw [e]), bnd_e, l_0, nI_add, nI_1, bnd_e]
      refine (ih (k + 1) f (c + 0) (miB b) g2 (by omega) (by omega) (by omega) (wf_miB hw) d2.1).mono ?_
      rintro z ⟨z1, z2⟩
      refine ⟨?_, (d1.trans d2).trans z2⟩
      rw [z1]
      show _ = nI (c + ((if chA (miB b) (bA (miB b)) = chA b (bA b) then 0 else 1) + (mnL d (miB b)).1))
      rw [if_pos e, Nat.add_zero, Nat.zero_add]
    · rw [if_neg (fun z => e ((pm_chA (wf_miB hw) hw _ _).mp z)), bnd_e, l_1, nI_add, nI_add, bnd_e]
      refine (ih (k + 1) f (c + 1) (miB b) g2 (by omega) (by omega) (by omega) (wf_miB hw) d2.1).mono ?_
      rintro z ⟨z1, z2⟩
      refine ⟨?_, (d1.trans d2).trans z2⟩
      rw [z1]
      show _ = nI (c + ((if chA (miB b) (bA (miB b)) = chA b (bA b) then 0 else 1) + (mnL d (miB b)).1))
      rw [if_neg e, Nat.add_assoc]
theorem mMinutes_eq (hq : wfQ q) (hK : KQ q (g.2.1 0)) {n : Nat} (h1 : 1 ≤ n) (h99 : n ≤ 99) : Ev (fX12_minutes g (nI n)) (fun z => z.1 = nI (mnL n (qB q)).1 ∧ MRes (doA q (mnL n (qB q)).2) 0 g z.2) := by
  have hw := hq.1
  have e1 : (1 : Int64).toInt = 1 := rfl
  have e9 : (99 : Int64).toInt = 99 := rfl
  unfold fX12_minutes
  rw [bnd_e, within_y (by rw [i64, n_toInt (by omega), e1]; omega) (by rw [i64, n_toInt (by omega), e9]; omega), bndv_s, if_neg (by decide)]
  refine Ev.v (keeps_eq hq hK) ?_
  rintro g1 ⟨k1, f1⟩
  refine Ev.c (chairNow_eq hw (kB k1)) ?_
  rintro r g2 ⟨r1, -, -, r2⟩
  dsimp only at r1
  subst r1
  have d2 : DM (qB q) g1 g2 := DM.calm (kB k1) (r2.mono (by decide) (by decide))
  refine (mMin_lp n h99 n 0 fuel 0 (qB q) g2 (by omega) (by unfold fuel; omega) (by omega) hw d2.1).mono ?_
  rintro z ⟨z1, z2⟩
  exact ⟨by rw [z1, Nat.zero_add], MRes.deed k1 f1 (mnL_wf n hw).2.1 (d2.trans z2)⟩
theorem mMinutes_no (hK : KQ q (g.2.1 0)) {x : Int32} (h : ¬ (1 ≤ x.toInt ∧ x.toInt ≤ 99)) : Ev (fX12_minutes g x) (fun z => MRes q 1 g z.2) := by
  unfold fX12_minutes fX12_fails
  rw [bnd_e, within_n (by rw [i64]; exact h), bndv_s, if_pos rfl, bnd_e, bndc_s]
  exact ev_some.mpr ⟨hK, rfl, (kpM.th g 0).trans (kpM.th _ _)⟩
theorem undo45_lp (k0 : Nat → Int32) (D : Nat) (hD : D < 10) (h5 : k0 5 = nI D) : ∀ d y f (g : MS), y + d = 13 → d < f → (∀ i, g.2.1 0 i = if 6 ≤ i ∧ i < 6 + y then k0 (19 + 13 * D + (i - 6)) else k0 i) → Ev (fX12_undo_45 f g (nI y)) (fun z => z.1 = nI D ∧ (∀ i, z.2.2.1 0 i = if 6 ≤ i ∧ i < 19 then k0 (19 + 13 * D + (i - 6)) else k0 i) ∧ fM [] [0] g z.2) := by
  intro d
  induction d with
  | zero =>
    intro y f g hy hf h
    obtain ⟨f, rfl⟩ : ∃ f', f = f' + 1 := ⟨f - 1, by omega⟩
    have hy : y = 13 := hy
    subst hy
    rw [fX12_undo_45, if_pos (by decide)]
    refine Ev.k (by decide) (ev_some.mpr ⟨?_, h, fM.refl g⟩)
    show g.2.1 0 5 = _
    rw [h 5, if_neg (by omega), h5]
  | succ d ih =>
    intro y f g hy hf h
    obtain ⟨f, rfl⟩ : ∃ f', f = f' + 1 := ⟨f - 1, by omega⟩
    have e5 : g.2.1 0 (ix (5 : Int32)) = nI D := by
      show g.2.1 0 5 = _
      rw [h 5, if_neg (by omega), h5]
    rw [fX12_undo_45, if_neg (show ¬ (13 : Int32) ≤ nI y from nI_ge (b := 13) (by omega) (by omega)), e5, l_6, l_19, l_13, pk_mul, nI_add, nI_add, nI_add]
    refine Ev.k (by decide) (Ev.k (ib_n (by omega) (by omega)) (Ev.k (ib_n (by omega) (by omega)) ?_))
    rw [bnd_e, nI_1, bnd_e, ix_n (by omega), ix_n (by omega)]
    refine (ih (y + 1) f (sA g 0 (6 + y) (g.2.1 0 (19 + 13 * D + y))) (by omega) (by omega) (fun i => ?_)).mono ?_
    · show upd (g.2.1 0) (6 + y) (g.2.1 0 (19 + 13 * D + y)) i = _
      rw [upd_j]
      by_cases e : i = 6 + y
      · rw [if_pos e, if_pos (by omega), h (19 + 13 * D + y), if_neg (by omega), e, Nat.add_sub_cancel_left]
      · rw [if_neg e, h i]
        by_cases e2 : 6 ≤ i ∧ i < 6 + y
        · rw [if_pos e2, if_pos (by omega)]
        · rw [if_neg e2, if_neg (by omega)]
    · rintro z ⟨z1, z2, z3⟩
      exact ⟨z1, z2, ((fM.refl g).sA (by decide)).trans z3⟩
theorem mUndo_eq (hq : wfQ q) (hK : KQ q (g.2.1 0)) {n : Nat} (h1 : 1 ≤ n) (hD : n ≤ qD q) : Ev (fX12_undo g (nI n)) (fun z => z.1 = nI (qD q - n) ∧ MRes (unA q n) 0 g z.2) := by
  have hw := hq.1
  have hn := hw.2.1
  have hD10 := hq.2.2.1
  have e1 : (1 : Int64).toInt = 1 := rfl
  have e9 : (10 : Int64).toInt = 10 := rfl
  obtain ⟨k1, k2, k3, k4⟩ := hK
  have k5 : (sI g 4 0).2.1 0 (ix (5 : Int32)) = nI (qD q) := k3
  unfold fX12_undo
  rw [bnd_e, within_y (by rw [i64, n_toInt (by omega), e1]; omega) (by rw [i64, n_toInt (by omega), e9]; omega), bndv_s, if_neg (by decide)]
  refine Ev.k (by decide) ?_
  rw [k5, iLE (by omega) (by omega), if_pos hD]
  refine Ev.k (by decide) (Ev.k (by decide) ?_)
  rw [bnd_e, pk_sub hD]
  refine (undo45_lp (upd (g.2.1 0) 5 (nI (qD q - n))) (qD q - n) (by omega) (by rw [upd_j, if_pos rfl]) 13 0 fuel _ (by omega) (by unfold fuel; omega) (fun i => by rw [if_neg (by omega)]; rfl)).mono ?_
  rintro z ⟨z1, z2, z3⟩
  refine ⟨z1, ?_, ?_, ?_⟩
  · have eu : unA q n = (setP (qB q) (qP q (qD q - n)), qL q, qD q - n, qP q) := by unfold unA; rw [if_neg (by omega)]
    rw [eu]
    have kp := k4 (qD q - n) (by omega)
    have cell : ∀ i, ¬ (6 ≤ i ∧ i < 19) → i ≠ 5 → z.2.2.1 0 i = g.2.1 0 i := fun i h h5 => by rw [z2 i, if_neg h, upd_j, if_neg h5]
    have inn : ∀ i, i < 13 → z.2.2.1 0 (6 + i) = g.2.1 0 (19 + 13 * (qD q - n) + i) := fun i hi => by rw [z2, if_pos (by omega), upd_j, if_neg (by omega), Nat.add_sub_cancel_left]
    refine ⟨⟨by rw [cell 1 (by omega) (by omega)]; exact k1.1, ?_, fun m hm => ?_, fun m hm => ?_, by rw [cell 2 (by omega) (by omega)]; exact k1.2.2.2.2.1, by rw [cell 3 (by omega) (by omega)]; exact k1.2.2.2.2.2.1, by rw [cell 4 (by omega) (by omega)]; exact k1.2.2.2.2.2.2.1, fun i hi => by rw [cell _ (by omega) (by omega)]; exact k1.2.2.2.2.2.2.2.1 i hi, fun i hi => by rw [cell _ (by omega) (by omega)]; exact k1.2.2.2.2.2.2.2.2.1 i hi, fun i hi => by rw [cell _ (by omega) (by omega)]; exact k1.2.2.2.2.2.2.2.2.2 i hi⟩, by rw [cell 0 (by omega) (by omega)]; exact k2, by rw [z2 5, if_neg (by omega), upd_j, if_pos rfl], fun j hj => ?_⟩
    · exact (inn 12 (by omega)).trans kp.2.2
    · have hm : m < bN (qB q) := hm
      rw [inn m (by omega)]; exact kp.1 m hm
    · have hm : m < bN (qB q) := hm
      rw [show 12 + m = 6 + (6 + m) by omega, inn (6 + m) (by omega)]; exact kp.2.1 m hm
    · have hj : j < qD q - n := hj
      have kj := k4 j (by omega)
      exact ⟨fun m hm => (cell _ (by omega) (by omega)).trans (kj.1 m hm), fun m hm => (cell _ (by omega) (by omega)).trans (kj.2.1 m hm), (cell _ (by omega) (by omega)).trans kj.2.2⟩
  · rw [z3.1 4 (by decide)]; rfl
  · exact (kpM.th g 0).trans ((kpM.of (li := []) (la := [0]) ((fM.refl _).sA (by decide)) (by decide) (by decide)).trans (kpM.of z3 (by decide) (by decide)))
theorem mUndo_no (hq : wfQ q) (hK : KQ q (g.2.1 0)) {x : Int32} (h : ¬ (1 ≤ x.toInt ∧ x.toInt ≤ qD q)) : Ev (fX12_undo g x) (fun z => MRes q 1 g z.2) := by
  have hD10 := hq.2.2.1
  have e1 : (1 : Int64).toInt = 1 := rfl
  have e9 : (10 : Int64).toInt = 10 := rfl
  have fin : Ev (fX12_undo_27 (sI g 4 0)) (fun z => MRes q 1 g z.2) := by
    unfold fX12_undo_27 fX12_fails
    rw [bnd_e, bndc_s]
    exact ev_some.mpr ⟨hK, rfl, (kpM.th g 0).trans (kpM.th _ _)⟩
  have k5 : (sI g 4 0).2.1 0 (ix (5 : Int32)) = nI (qD q) := hK.2.2.1
  unfold fX12_undo
  rw [bnd_e]
  by_cases hr : 1 ≤ x.toInt ∧ x.toInt ≤ 10
  · rw [within_y (by rw [i64, e1]; exact hr.1) (by rw [i64, e9]; exact hr.2), bndv_s, if_neg (by decide)]
    refine Ev.k (by decide) ?_
    rw [k5, if_neg (by rw [fa_le, n_toInt (by omega)]; omega)]
    exact fin
  · rw [within_n (by rw [i64]; exact hr), bndv_s, if_pos rfl]
    exact fin
end
section
variable {q : AQ} {P : PL} {g : CS}
theorem cMin_lp (n : Nat) (hn : n ≤ 99) : ∀ d k f c (b : AB) (g : CS), k + d = n → d < f → c + d ≤ 1000 → wfB b → SB b P g 30 → Ev (fX11_minutes_48 P f g (nI n) (nI c) (pm (chA b (bA b))) (nI k)) (fun z => z.1 = Sum.inr (nI (c + (mnL d b).1)) ∧ SB (mnL d b).2 P z.2 30 ∧ fC [(10, 1), (30, 3)] [11] [] g z.2) := by
  intro d
  induction d with
  | zero =>
    intro k f c b g hk hf hc hw hS
    obtain ⟨f, rfl⟩ : ∃ f', f = f' + 1 := ⟨f - 1, by omega⟩
    rw [fX11_minutes_48, if_pos (nI_le (by omega) (by omega))]
    exact ev_some.mpr ⟨rfl, hS, fC.refl g⟩
  | succ d ih =>
    intro k f c b g hk hf hc hw hS
    obtain ⟨f, rfl⟩ : ∃ f', f = f' + 1 := ⟨f - 1, by omega⟩
    rw [fX11_minutes_48, if_neg (nI_ge (by omega) (by omega))]
    refine Ev.v (passMinute_eq okS30 hw hS) ?_
    rintro g1 ⟨s1, f1⟩
    have s1 : SB (miB b) P g1 30 := s1
    rw [s1.2.1, chairOf_eq (wf_miB hw) (wf_miB hw).2.2.1 s1, bndc_s]
    unfold fX11_minutes_86
    by_cases e : chA (miB b) (bA (miB b)) = chA b (bA b)
    · rw [if_pos (by rw [e]), bnd_e, nI_1]
      refine (ih (k + 1) f c (miB b) g1 (by omega) (by omega) (by omega) (wf_miB hw) s1).mono ?_
      rintro z ⟨z1, z2, z3⟩
      refine ⟨?_, z2, f1.trans z3⟩
      rw [z1]
      show _ = Sum.inr (nI (c + ((if chA (miB b) (bA (miB b)) = chA b (bA b) then 0 else 1) + (mnL d (miB b)).1)))
      rw [if_pos e, Nat.zero_add]
    · rw [if_neg (fun z => e ((pm_chA (wf_miB hw) hw _ _).mp z)), bnd_e, nI_1, bnd_e, nI_1]
      refine (ih (k + 1) f (c + 1) (miB b) g1 (by omega) (by omega) (by omega) (wf_miB hw) s1).mono ?_
      rintro z ⟨z1, z2, z3⟩
      refine ⟨?_, z2, f1.trans z3⟩
      rw [z1]
      show _ = Sum.inr (nI (c + ((if chA (miB b) (bA (miB b)) = chA b (bA b) then 0 else 1) + (mnL d (miB b)).1)))
      rw [if_neg e, Nat.add_assoc]
theorem cMinutes_eq (hq : wfQ q) (hS : SQ q P g 30) {n : Nat} (h1 : 1 ≤ n) (h99 : n ≤ 99) : Ev (fX11_minutes P g (nI n)) (fun z => z.1 = Sum.inr (nI (mnL n (qB q)).1) ∧ LV (doA q (mnL n (qB q)).2) 1 P g z.2) := by
  have hw := hq.1
  unfold fX11_minutes
  rw [if_neg (show ¬ nI n < (1 : Int32) from nI_nlt (b := 1) h1 (by omega)), if_pos (show nI n ≤ (99 : Int32) from nI_le (b := 99) h99 (by omega))]
  refine Ev.v (remember_eq hq hS) ?_
  rintro g1 ⟨s1, s2, s3⟩
  have hB1 := remB s1
  rw [hB1.2.1, chairOf_eq hw hw.2.2.1 hB1, bndc_s]
  refine (cMin_lp n h99 n 0 fuel 0 (qB q) g1 (by omega) (by unfold fuel; omega) (by omega) hw hB1).mono ?_
  rintro z ⟨z1, z2, z3⟩
  exact ⟨by rw [z1, Nat.zero_add], LV.deed (DS.of okS30 s1 s2 s3 (z3.mono (by decide) (by decide) (by decide)) z2)⟩
theorem cMinutes_no (hS : SQ q P g 30) {x : Int32} (h : ¬ (1 ≤ x.toInt ∧ x.toInt ≤ 99)) : fX11_minutes P g x = some (Sum.inl 1, g) := by
  have e1 : (1 : Int32).toInt = 1 := rfl
  have e9 : (99 : Int32).toInt = 99 := rfl
  unfold fX11_minutes
  by_cases h1 : x < (1 : Int32)
  · rw [if_pos h1]
  · rw [if_neg h1, if_neg (by rw [fa_le, e9]; rw [fa_lt, e1] at h1; omega)]
theorem cUndo_lp (hq : wfQ q) (n : Nat) (hn : n ≤ qD q) : ∀ d k f (g : CS), k + d = n → d < f → SQ (unA q k) P g 30 → Ev (fX11_undo_34 P f g (nI n) (nI k)) (fun z => z.1 = Sum.inr (nI (qD q - n)) ∧ LV (unA q n) d P g z.2) := by
  have hD10 := hq.2.2.1
  intro d
  induction d with
  | zero =>
    intro k f g hk hf hS
    obtain ⟨f, rfl⟩ : ∃ f', f = f' + 1 := ⟨f - 1, by omega⟩
    have hk : k = n := hk
    subst hk
    rw [fX11_undo_34, if_pos (nI_le (by omega) (by omega)), hS.2.2.1]
    refine ev_some.mpr ⟨?_, LV.refl hS⟩
    show Sum.inr (nI (qD (unA q k))) = _
    unfold unA
    by_cases e : k = 0
    · rw [if_pos e, e, Nat.sub_zero]
    · rw [if_neg e]
  | succ d ih =>
    intro k f g hk hf hS
    obtain ⟨f, rfl⟩ : ∃ f', f = f' + 1 := ⟨f - 1, by omega⟩
    have hDk : qD (unA q k) = qD q - k := by
      unfold unA
      by_cases e : k = 0
      · rw [if_pos e, e, Nat.sub_zero]
      · rw [if_neg e]
    rw [fX11_undo_34, if_neg (nI_ge (by omega) (by omega))]
    refine Ev.v (cBack_eq okS30 (wfQ_un hq (by omega)) hS (by omega)) ?_
    rintro g1 ⟨s1, s2, s3⟩
    rw [unA_un (by omega)] at s1
    rw [nI_1, bnd_e]
    refine (ih (k + 1) f g1 (by omega) (by omega) s1).mono ?_
    rintro z ⟨z1, z2⟩
    refine ⟨z1, ?_⟩
    have L1 : LV (unA q (k + 1)) 1 P g g1 := ⟨s1, s2, fun e => absurd e (by decide), s3⟩
    have := L1.trans z2
    rw [Nat.add_comm] at this
    exact this
theorem cUndo_eq (hq : wfQ q) (hS : SQ q P g 30) {n : Nat} (h1 : 1 ≤ n) (hD : n ≤ qD q) : Ev (fX11_undo P g (nI n)) (fun z => z.1 = Sum.inr (nI (qD q - n)) ∧ LV (unA q n) n P g z.2) := by
  have hD10 := hq.2.2.1
  unfold fX11_undo
  rw [if_neg (show ¬ nI n < (1 : Int32) from nI_nlt (b := 1) h1 (by omega)), if_neg (show ¬ (10 : Int32) < nI n from nI_nlt (a := 10) (by omega) (by omega)), hS.2.2.1, iLE (by omega) (by omega), if_pos hD]
  exact cUndo_lp hq n hD n 0 fuel g (by omega) (by unfold fuel; omega) (by unfold unA; rw [if_pos rfl]; exact hS)
theorem cUndo_no (hq : wfQ q) (hS : SQ q P g 30) {x : Int32} (h : ¬ (1 ≤ x.toInt ∧ x.toInt ≤ qD q)) : fX11_undo P g x = some (Sum.inl 1, g) := by
  have hD10 := hq.2.2.1
  have e1 : (1 : Int32).toInt = 1 := rfl
  have e9 : (10 : Int32).toInt = 10 := rfl
  unfold fX11_undo
  by_cases h1 : x < (1 : Int32)
  · rw [if_pos h1]
  · rw [if_neg h1]
    by_cases h2 : (10 : Int32) < x
    · rw [if_pos h2]
    · rw [if_neg h2, hS.2.2.1, if_neg (by rw [fa_le, n_toInt (by omega)]; rw [fa_lt, e1] at h1; omega)]
end
