/-! ===== each call: deeds, trays, sights, courses, chances ===== -/
theorem upToB {M : Nat} {x : Int32} {a b : Int} (ha : 0 ≤ a) (hb : b ≤ M) (h : a ≤ x.toInt ∧ x.toInt ≤ b) : ∃ n : Nat, x = nI n ∧ a ≤ n ∧ (n : Int) ≤ b ∧ n ≤ M := by
  obtain ⟨n, h1, h2⟩ := upTo_of (M := M) (x := x) (by omega) (by omega)
  have hM : n < 2 ^ 31 ∨ 2 ^ 31 ≤ n := by omega
  rcases hM with hM | hM
  · rw [h2, nI_toInt hM] at h
    exact ⟨n, h2, by omega, by omega, h1⟩
  · have := Int32.toInt_lt x
    have := Int32.le_toInt x
    refine ⟨x.toInt.toNat, ?_, by omega, by omega, by omega⟩
    apply Int32.toInt_inj.mp
    rw [nI_toInt (by omega)]
    omega
theorem trF_z {tr : Nat → AT} {x : Int32} (h : trF tr x = 0) : ∃ i, i < 4 ∧ x = nI i ∧ (tr i).1 = true := by
  unfold trF at h
  by_cases c : 0 ≤ x.toInt ∧ x.toInt ≤ 3
  · rw [if_pos c] at h
    obtain ⟨n, e, h1, h2, h3⟩ := upToB (M := 3) (by omega) (by omega) c
    refine ⟨n, by omega, e, ?_⟩
    rw [e, nI_clamp (by omega)] at h
    by_cases t : (tr n).1 = true
    · exact t
    · rw [if_neg t] at h; exact absurd h (by decide)
  · rw [if_neg c] at h; exact absurd h (by decide)
theorem lkF_0 {tr : Nat → AT} {n : Nat} {x : Int32} (h : lkF tr n x = 0) : trF tr x = 0 := by
  unfold lkF at h
  by_cases c : trF tr x = 0
  · exact c
  · rw [if_neg c] at h; exact h
theorem trF_c {tr : Nat → AT} {x : Int32} (h : trF tr x ≠ 0) : (trX (trF tr x), trF tr x) ∈ [(2, 1), (3, 2)] := by
  unfold trF at h ⊢
  by_cases c : 0 ≤ x.toInt ∧ x.toInt ≤ 3
  · rw [if_pos c] at h ⊢
    by_cases t : (tr x.toNatClampNeg).1 = true
    · rw [if_pos t] at h; exact absurd rfl h
    · rw [if_neg t]; decide
  · rw [if_neg c]; decide
theorem lkF_c {tr : Nat → AT} {n : Nat} {x : Int32} (h : lkF tr n x ≠ 0) : ((if trF tr x = 0 then 1 else trX (trF tr x)), lkF tr n x) ∈ [(2, 1), (3, 2), (1, 3)] := by
  unfold lkF at h ⊢
  by_cases c : trF tr x = 0
  · rw [if_pos c] at h ⊢
    rw [if_pos c]
    by_cases t : tlB n (tr x.toNatClampNeg) = true
    · rw [if_pos t] at h; exact absurd rfl h
    · rw [if_neg t]; decide
  · rw [if_neg c, if_neg c]
    have := trF_c c
    simp only [List.mem_cons, List.not_mem_nil, or_false] at this ⊢
    rcases this with q | q
    · exact Or.inl q
    · exact Or.inr (Or.inl q)
section
variable {s : AS} {P : PL} {T : Nat} {g : MS} {h : CS}
theorem st_turn (hs : wfS s) (hM : MI s g) (hC : CI s P T h) (hT : T + 31 < 2 ^ 31) (x y : Int32) : StP s P T (fX12_turn g x y) (fX11_turn P h x y) := by
  obtain ⟨z, e1, e2, k, k1, k2, k3⟩ := cTurn_call hs.1 hC.1 x y
  exact StP.ok (T' := T + k) hs (wfQ_dd hs.1 (trI_wf hs.1.1 x y)) hM (by omega) (by omega) (mTurn_eq hs.1 hM.1 x y) ⟨z, e1, e2, hC.resL k3 k2 (by omega)⟩
theorem st_weigh (hs : wfS s) (hM : MI s g) (hC : CI s P T h) (hT : T + 31 < 2 ^ 31) (x y : Int32) : StP s P T (fX12_weigh g x y) (fX11_weigh P h x y) := by
  obtain ⟨z, e1, e2, k, k1, k2, k3⟩ := cWeigh_call hs.1 hC.1 x y
  exact StP.ok (T' := T + k) hs (wfQ_dd hs.1 (weI_wf hs.1.1 x y)) hM (by omega) (by omega) (mWeigh_eq hs.1 hM.1 x y) ⟨z, e1, e2, hC.resL k3 k2 (by omega)⟩
theorem st_stick (hs : wfS s) (hM : MI s g) (hC : CI s P T h) (hT : T + 31 < 2 ^ 31) (x : Int32) : StP s P T (fX12_stick g x) (fX11_stick P h x) := by
  obtain ⟨z, e1, e2, k, k1, k2, k3⟩ := cStick_call hs.1 hC.1 x
  exact StP.ok (T' := T + k) hs (wfQ_dd hs.1 (stI_wf hs.1.1 x)) hM (by omega) (by omega) (mStick_eq hs.1 hM.1 x) ⟨z, e1, e2, hC.resL k3 k2 (by omega)⟩
theorem st_minutes (hs : wfS s) (hM : MI s g) (hC : CI s P T h) (hT : T + 31 < 2 ^ 31) (x : Int32) : StE s P T [(1, 1)] (fX12_minutes g x) (fX11_minutes P h x) := by
  by_cases hx : 1 ≤ x.toInt ∧ x.toInt ≤ 99
  · obtain ⟨n, rfl, h1, h2, h3⟩ := upToB (M := 99) (by omega) (by omega) hx
    have w := mnL_wf n hs.1.1
    exact StE.ok (T' := T + 1) hs (wfQ_do hs.1 w.1 w.2.1) hM (by omega) (by omega) (mMinutes_eq hs.1 hM.1 (by omega) (by omega)) ((cMinutes_eq hs.1 hC.1 (by omega) (by omega)).mono (fun z hz => ⟨hz.1, hC.resL hz.2 (fun e => absurd e (by omega)) (by omega)⟩))
  · exact StE.no hs hM hC (by decide) (mMinutes_no hM.1 hx) (cMinutes_no hC.1 hx)
theorem st_undo (hs : wfS s) (hM : MI s g) (hC : CI s P T h) (hT : T + 31 < 2 ^ 31) (x : Int32) : StE s P T [(1, 1)] (fX12_undo g x) (fX11_undo P h x) := by
  have hD := hs.1.2.2.1
  by_cases hx : 1 ≤ x.toInt ∧ x.toInt ≤ qD (zQ s)
  · obtain ⟨n, rfl, h1, h2, h3⟩ := upToB (M := 10) (by omega) (by omega) hx
    exact StE.ok (T' := T + n) hs (wfQ_un hs.1 (by omega)) hM (by omega) (by omega) (mUndo_eq hs.1 hM.1 (by omega) (by omega)) ((cUndo_eq hs.1 hC.1 (by omega) (by omega)).mono (fun z hz => ⟨hz.1, hC.resL hz.2 (fun e => absurd e (by omega)) (by omega)⟩))
  · exact StE.no hs hM hC (by decide) (mUndo_no hs.1 hM.1 hx) (cUndo_no hs.1 hC.1 hx)
theorem st_perform (hs : wfS s) (hM : MI s g) (hC : CI s P T h) (hT : T + 31 < 2 ^ 31) (x : Int32) : StE s P T [(2, 1), (3, 2)] (fX12_perform g x) (fX11_perform P h x) := by
  by_cases hx : trF (zT s) x = 0
  · obtain ⟨i, hi, rfl, ht⟩ := trF_z hx
    obtain ⟨z, e1, e2, k, k1, k2, k3⟩ := cPerform_eq hs.1 hC.1 hC.2.2.2.2.2.1 hi ht
    exact StE.ok (T' := T + k) hs (pfA_wf _ _ _ _ hs.1).1 hM (by omega) (by omega) (mPerform_eq hs.1 hM.1 hM.2.2.1 hi ht) ⟨z, e1, e2, hC.resL k3 k2 (by omega)⟩
  · exact StE.no hs hM hC (trF_c hx) (mPerform_no hM.1 hM.2.2.1 hx) (cPerform_no hC.2.2.2.2.2.1 hx)
theorem st_session (hs : wfS s) (hM : MI s g) (hC : CI s P T h) (hT : T + 31 < 2 ^ 31) (x y : Int32) : StE s P T [(1, 1)] (fX12_session g x y) (fX11_session P h x y) := by
  by_cases hx : 1 ≤ y.toInt ∧ y.toInt ≤ 30
  · obtain ⟨n, rfl, h1, h2, h3⟩ := upToB (M := 30) (by omega) (by omega) hx
    obtain ⟨z, e1, e2, k, k1, k2, k3⟩ := cSession_eq hs.1 hC.1 (n := n) (by omega) (by omega) x
    exact StE.ok (T' := T + k) hs (seL_wf _ _ _ hs.1).1 hM (by omega) (by omega) (mSession_eq hs.1 hM.1 (by omega) (by omega) x) ⟨z, e1, e2, hC.resL k3 k2 (by omega)⟩
  · exact StE.no hs hM hC (by decide) (mSession_no hM.1 hx x) (cSession_no hx x)
theorem st_ways (hs : wfS s) (hM : MI s g) (hC : CI s P T h) (x : Int32) : StE s P T [(2, 1), (3, 2), (1, 3)] (fX12_ways g x) (fX11_ways P h x) := by
  by_cases hx : lkF (zT s) (bN (qB (zQ s))) x = 0
  · obtain ⟨i, hi, rfl, ht⟩ := trF_z (lkF_0 hx)
    exact StE.ok0 hs hM (mWays_eq hs.1 hM.1 hM.2.2.1 hi ht hx) ((cWays_eq hs.1.1 hC.2.1 hC.1.1 hC.2.2.1 hC.2.2.2.2.2.1 hi ht hx).mono (fun z hz => ⟨hz.1, hC.res1 hz.2⟩))
  · exact StE.no hs hM hC (lkF_c hx) (mWays_no hs.1 hM.1 hM.2.2.1 hx) (cWays_no hs.1.1 hC.1.1 hC.2.2.2.2.2.1 hx)
theorem st_seen (hs : wfS s) (hM : MI s g) (hC : CI s P T h) (x : Int32) : StE s P T [(2, 1), (3, 2), (1, 3)] (fX12_seen g x) (fX11_seen P h x) := by
  by_cases hx : lkF (zT s) (bN (qB (zQ s))) x = 0
  · obtain ⟨i, hi, rfl, ht⟩ := trF_z (lkF_0 hx)
    exact StE.ok0 hs hM (mSeen_eq hs.1 hM.1 hM.2.2.1 hi ht hx) ((cSeen_eq hs.1.1 hC.2.1 hC.1.1 hC.2.2.1 hC.2.2.2.2.2.1 hi ht hx).mono (fun z hz => ⟨hz.1, hC.res2 hz.2⟩))
  · exact StE.no hs hM hC (lkF_c hx) (mSeen_no hs.1 hM.1 hM.2.2.1 hx) (cSeen_no hs.1.1 hC.1.1 hC.2.2.2.2.2.1 hx)
theorem st_ask (hs : wfS s) (hM : MI s g) (hC : CI s P T h) (x : Int32) : StE s P T [(2, 1), (3, 2), (1, 3)] (fX12_ask g x) (fX11_ask P h x) := by
  by_cases hx : lkF (zT s) (bN (qB (zQ s))) x = 0
  · obtain ⟨i, hi, rfl, ht⟩ := trF_z (lkF_0 hx)
    exact StE.ok0 hs hM (mAsk_eq hs.1 hM.1 hM.2.2.1 hi ht hx) ((cAsk_eq hs.1.1 hC.2.1 hC.1.1 hC.2.2.1 hC.2.2.2.2.2.1 hi ht hx).mono (fun z hz => ⟨hz.1, hC.res2 hz.2⟩))
  · exact StE.no hs hM hC (lkF_c hx) (mAsk_no hs.1 hM.1 hM.2.2.1 hx) (cAsk_no hs.1.1 hC.1.1 hC.2.2.2.2.2.1 hx)
theorem st_motion (hs : wfS s) (hM : MI s g) (hC : CI s P T h) (x : Int32) : StE s P T [(2, 1)] (fX12_motion g x) (fX11_motion P h x) := by
  by_cases hx : mem (bN (qB (zQ s))) x
  · obtain ⟨m, hm, rfl⟩ := hx
    exact StE.ok0 hs hM (mMotion_eq hs.1 hM.1 hm) ((cMotion_eq hs.1.1 hC.2.1 hC.1.1 hC.2.2.1 hm).mono (fun z hz => ⟨hz.1, hC.res2 hz.2⟩))
  · exact StE.no hs hM hC (by decide) (mMotion_no hs.1 hM.1 hx) (cMotion_no hs.1.1 hC.1.1 hx)
theorem st_reign (hs : wfS s) (hM : MI s g) (hC : CI s P T h) (x y : Int32) : StE s P T [(2, 1), (1, 2)] (fX12_reign g x y) (fX11_reign P h x y) := by
  by_cases hx : mem (bN (qB (zQ s))) x
  · obtain ⟨m, hm, rfl⟩ := hx
    by_cases hy : upTo 9999 y
    · obtain ⟨n, hn, rfl⟩ := hy
      exact StE.ok0 hs hM (mReign_eq hs.1 hM.1 hm hn) ((cReign_eq hs.1.1 hC.2.1 hC.1.1 hC.2.2.2.1 hm hn).mono (fun z hz => ⟨hz.1, hC.res3 hz.2⟩))
    · exact StE.no hs hM hC (by decide) (mReign_n2 hs.1 hM.1 hm hy) (cReign_n2 hs.1.1 hC.1.1 hm hy)
  · exact StE.no hs hM hC (by decide) (mReign_n1 hs.1 hM.1 hx y) (cReign_n1 hs.1.1 hC.1.1 hx y)
theorem st_chance (hs : wfS s) (hM : MI s g) (hC : CI s P T h) (x y w : Int32) : StE s P T [(2, 1), (1, 2)] (fX12_chance g x y w) (fX11_chance P h x y w) := by
  by_cases hx : mem (bN (qB (zQ s))) x
  · obtain ⟨m, hm, rfl⟩ := hx
    by_cases hy : upTo 6 y ∧ (w = 0 ∨ w = 1)
    · obtain ⟨⟨n, hn, rfl⟩, hw⟩ := hy
      exact StE.ok0 hs hM (mChance_eq hs.1 hM.1 hm hn hw) ((cChance_eq hs.1.1 hC.2.1 hC.1.1 hC.2.2.1 hm hn hw).mono (fun z hz => ⟨hz.1, hC.res2 hz.2⟩))
    · have hy' : ¬ upTo 6 y ∨ ¬ (w = 0 ∨ w = 1) := (Classical.em (upTo 6 y)).elim (fun u => Or.inr (fun v => hy ⟨u, v⟩)) Or.inl
      exact StE.no hs hM hC (by decide) (mChance_n2 hs.1 hM.1 hm hy') (cChance_n2 hs.1.1 hC.1.1 hm hy')
  · exact StE.no hs hM hC (by decide) (mChance_n1 hs.1 hM.1 hx y w) (cChance_n1 hs.1.1 hC.1.1 hx y w)
theorem st_like (hs : wfS s) (hM : MI s g) (hC : CI s P T h) (y : Int32) : StE s P T [(1, 1)] (fX12_likeliest g y) (fX11_likeliest P h y) := by
  by_cases hy : upTo 6 y
  · obtain ⟨n, hn, rfl⟩ := hy
    exact StE.ok0 hs hM (mLike_eq hs.1 hM.1 hn) ((cLike_eq hs.1.1 hC.2.1 hC.1.1 hC.2.2.1 hn).mono (fun z hz => ⟨hz.1, hC.res2 hz.2⟩))
  · exact StE.no hs hM hC (by decide) (mLike_no hM.1 hy) (cLike_no hy)
end
theorem jd_c {tr : Nat → AT} {x : Int32} : ((if trF tr x = 0 then 1 else trX (trF tr x)), (if trF tr x = 0 then 3 else trF tr x)) ∈ [(2, 1), (3, 2), (1, 3)] := by
  by_cases c : trF tr x = 0
  · rw [if_pos c, if_pos c]; decide
  · rw [if_neg c, if_neg c]
    have := trF_c c
    simp only [List.mem_cons, List.not_mem_nil, or_false] at this ⊢
    rcases this with q | q
    · exact Or.inl q
    · exact Or.inr (Or.inl q)
theorem lk_c2 {tr : Nat → AT} {n : Nat} {x : Int32} : ((if trF tr x = 0 then 1 else trX (trF tr x)), (if lkF tr n x = 0 then 3 else lkF tr n x)) ∈ [(2, 1), (3, 2), (1, 3)] := by
  by_cases c : lkF tr n x = 0
  · rw [if_pos c, if_pos (lkF_0 c)]; decide
  · rw [if_neg c]; exact lkF_c c
section
variable {s : AS} {P : PL} {T : Nat} {g : MS} {h : CS}
theorem em_or {a b : Prop} (h : ¬ (a ∧ b)) : ¬ a ∨ ¬ b := (Classical.em a).elim (fun u => Or.inr (fun v => h ⟨u, v⟩)) Or.inl
theorem st_judge (hs : wfS s) (hM : MI s g) (hC : CI s P T h) (x w : Int32) : StE s P T [(2, 1), (3, 2), (1, 3)] (fX12_judge g x w) (fX11_judge P h x w) := by
  by_cases hx : trF (zT s) x = 0 ∧ (0 ≤ w.toInt ∧ w.toInt ≤ 3)
  · obtain ⟨i, hi, rfl, ht⟩ := trF_z hx.1
    exact StE.ok0 hs hM (mJudge_eq hs.1 hM.1 hM.2.2.1 hi ht hx.2) ((cJudge_eq hs.1 hC.1 hC.2.2.2.2.2.1 hi ht hx.2).mono (fun z hz => ⟨hz.1, hC.resJ hz.2.1 hz.2.2⟩))
  · exact StE.no hs hM hC jd_c (mJudge_no hM.1 hM.2.2.1 (em_or hx)) (cJudge_no hC.2.2.2.2.2.1 (em_or hx))
theorem st_cheapest (hs : wfS s) (hM : MI s g) (hC : CI s P T h) (x w : Int32) : StE s P T [(2, 1), (3, 2), (1, 3)] (fX12_cheapest g x w) (fX11_cheapest P h x w) := by
  by_cases hx : lkF (zT s) (bN (qB (zQ s))) x = 0 ∧ whOK w
  · obtain ⟨hx, hw⟩ := hx
    obtain ⟨i, hi, rfl, ht⟩ := trF_z (lkF_0 hx)
    exact StE.ok0 hs hM (mCheapest_eq hs.1 hM.1 hM.2.2.1 hi ht hx hw) ((cCheapest_eq hs.1.1 hC.2.1 hC.1.1 hC.2.2.1 hC.2.2.2.2.2.1 hi ht hx hw).mono (fun z hz => ⟨hz.1, hC.res1 hz.2⟩))
  · exact StE.no hs hM hC lk_c2 (mCheapest_no hs.1 hM.1 hM.2.2.1 (em_or hx)) (cCheapest_no hs.1.1 hC.1.1 hC.2.2.2.2.2.1 (em_or hx))
theorem st_seenAt (hs : wfS s) (hM : MI s g) (hC : CI s P T h) (x w : Int32) : StE s P T [(2, 1), (3, 2), (1, 3)] (fX12_seenAt g x w) (fX11_seenAt P h x w) := by
  by_cases hx : lkF (zT s) (bN (qB (zQ s))) x = 0 ∧ 0 ≤ w
  · obtain ⟨hx, hw⟩ := hx
    obtain ⟨i, hi, rfl, ht⟩ := trF_z (lkF_0 hx)
    exact StE.ok0 hs hM (mSeenAt_eq hs.1 hM.1 hM.2.2.1 hi ht hx hw) ((cSeenAt_eq hs.1.1 hC.2.1 hC.1.1 hC.2.2.1 hC.2.2.2.2.2.1 hi ht hx hw).mono (fun z hz => ⟨hz.1, hC.res2 hz.2⟩))
  · exact StE.no hs hM hC lk_c2 (mSeenAt_no hs.1 hM.1 hM.2.2.1 (em_or hx)) (cSeenAt_no hs.1.1 hC.1.1 hC.2.2.2.2.2.1 (em_or hx))
theorem st_settles (hs : wfS s) (hM : MI s g) (hC : CI s P T h) (w : Int32) : StE s P T [(1, 1)] (fX12_settles g w) (fX11_settles P h w) := by
  obtain ⟨t, r, hR, hB⟩ := rho_b hs.1.1
  by_cases hw : w = 0 ∨ w = 1
  · exact StE.ok0 hs hM (mSettles_eq hs.1 hM.1 hR hB hw) ((cSettles_eq hs.1.1 hC.2.1 hC.1.1 hC.2.2.2.1 hR hB hw).mono (fun z hz => ⟨hz.1, hC.res3 hz.2⟩))
  · exact StE.no hs hM hC (by decide) (mSettles_no hM.1 hw) (cSettles_no hw)
theorem st_chairIn (hs : wfS s) (hM : MI s g) (hC : CI s P T h) (x : Int32) : StE s P T [(1, 1)] (fX12_chairIn g x) (fX11_chairIn P h x) := by
  obtain ⟨t, r, hR, hB⟩ := rho_b hs.1.1
  by_cases hx : upTo 99999 x
  · obtain ⟨n, hn, rfl⟩ := hx
    exact StE.ok0 hs hM (mChairIn_eq hs.1 hM.1 hR hB hn) ((cChairIn_eq hs.1.1 hC.2.1 hC.1.1 hC.2.2.2.1 hR hB hn).mono (fun z hz => ⟨hz.1, hC.res3 hz.2⟩))
  · exact StE.no hs hM hC (by decide) (mChairIn_no hM.1 hx) (cChairIn_no hx)
theorem st_aimIn (hs : wfS s) (hM : MI s g) (hC : CI s P T h) (x y : Int32) : StE s P T [(2, 1), (1, 2)] (fX12_aimIn g x y) (fX11_aimIn P h x y) := by
  obtain ⟨t, r, hR, hB⟩ := rho_b hs.1.1
  by_cases hx : mem (bN (qB (zQ s))) x
  · obtain ⟨m, hm, rfl⟩ := hx
    by_cases hy : upTo 99999 y
    · obtain ⟨n, hn, rfl⟩ := hy
      exact StE.ok0 hs hM (mAimIn_eq hs.1 hM.1 hR hB hm hn) ((cAimIn_eq hs.1.1 hC.2.1 hC.1.1 hC.2.2.2.1 hR hB hm hn).mono (fun z hz => ⟨hz.1, hC.res3 hz.2⟩))
    · exact StE.no hs hM hC (by decide) (mAimIn_n2 hs.1 hM.1 hm hy) (cAimIn_n2 hs.1.1 hC.1.1 hm hy)
  · exact StE.no hs hM hC (by decide) (mAimIn_n1 hs.1 hM.1 hx y) (cAimIn_n1 hs.1.1 hC.1.1 hx y)
theorem st_first (hs : wfS s) (hM : MI s g) (hC : CI s P T h) (x : Int32) : StE s P T [(2, 1)] (fX12_first g x) (fX11_first P h x) := by
  obtain ⟨t, r, hR, hB⟩ := rho_b hs.1.1
  by_cases hx : mem (bN (qB (zQ s))) x
  · obtain ⟨m, hm, rfl⟩ := hx
    exact StE.ok0 hs hM (mFirst_eq hs.1 hM.1 hR hB hm) ((cFirst_eq hs.1.1 hC.2.1 hC.1.1 hC.2.2.2.1 hR hB hm).mono (fun z hz => ⟨hz.1, hC.res3 hz.2⟩))
  · exact StE.no hs hM hC (by decide) (mFirst_no hs.1 hM.1 hx) (cFirst_no hs.1.1 hC.1.1 hx)
end
