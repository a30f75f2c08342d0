/-! ===== calls that are deeds: what both answer ===== -/
def kpM (g g' : MS) : Prop := (g'.1 6 = g.1 6 ∧ g'.1 14 = g.1 14 ∧ g'.1 15 = g.1 15) ∧ (g'.2.1 2 = g.2.1 2 ∧ g'.2.1 3 = g.2.1 3 ∧ g'.2.1 5 = g.2.1 5 ∧ g'.2.1 45 = g.2.1 45 ∧ g'.2.1 46 = g.2.1 46) ∧ g'.2.2 = g.2.2
theorem kpM.of {li la : List Nat} {g g' : MS} (h : fM li la g g') (hi : 6 ∉ li ∧ 14 ∉ li ∧ 15 ∉ li) (ha : 2 ∉ la ∧ 3 ∉ la ∧ 5 ∉ la ∧ 45 ∉ la ∧ 46 ∉ la) : kpM g g' := ⟨⟨h.1 6 hi.1, h.1 14 hi.2.1, h.1 15 hi.2.2⟩, ⟨h.2.1 2 ha.1, h.2.1 3 ha.2.1, h.2.1 5 ha.2.2.1, h.2.1 45 ha.2.2.2.1, h.2.1 46 ha.2.2.2.2⟩, h.2.2⟩
theorem kpM.refl (g : MS) : kpM g g := ⟨⟨rfl, rfl, rfl⟩, ⟨rfl, rfl, rfl, rfl, rfl⟩, rfl⟩
theorem kpM.trans {g g' g'' : MS} (h : kpM g g') (k : kpM g' g'') : kpM g g'' := ⟨⟨k.1.1.trans h.1.1, k.1.2.1.trans h.1.2.1, k.1.2.2.trans h.1.2.2⟩, ⟨k.2.1.1.trans h.2.1.1, k.2.1.2.1.trans h.2.1.2.1, k.2.1.2.2.1.trans h.2.1.2.2.1, k.2.1.2.2.2.1.trans h.2.1.2.2.2.1, k.2.1.2.2.2.2.trans h.2.1.2.2.2.2⟩, k.2.2.trans h.2.2⟩
theorem kpM.th (g : MS) (v : Int32) : kpM g (sI g 4 v) := kpM.of (li := [4]) (la := []) ((fM.refl g).sI (by decide)) (by decide) (by decide)
/-- the reference behind a call -/
def MRes (q' : AQ) (th : Nat) (g g' : MS) : Prop := KQ q' (g'.2.1 0) ∧ g'.1 4 = nI th ∧ kpM g g'
/-- the class's live board behind a call of k deeds -/
def LV (q' : AQ) (k : Nat) (P : PL) (g g' : CS) : Prop := SQ q' P g' 30 ∧ g'.1 30 7 = g.1 30 7 + nI k ∧ (k = 0 → fC [(10, 1)] [11] [] g g') ∧ fC (dC 30) [11] [40] g g'
theorem LV.refl {q : AQ} {P : PL} {g : CS} (h : SQ q P g 30) : LV q 0 P g g := ⟨h, (Int32.add_zero _).symm, fun _ => fC.refl g, fC.refl g⟩
theorem LV.calm {q : AQ} {P : PL} {g g' : CS} (h : SQ q P g 30) (hf : fC [(10, 1)] [11] [] g g') : LV q 0 P g g' := by
  refine ⟨⟨h.1.keep hf (no10 (Or.inl rfl)), ?_, ?_, fun j hj => ?_⟩, ?_, fun _ => hf, hf.mono (by decide) (by decide) (by decide)⟩
  · rw [hf.i 30 2 (by decide)]; exact h.2.1
  · rw [hf.i 30 6 (by decide)]; exact h.2.2.1
  · rw [hf.2.2.1 _ (by decide)]; exact h.2.2.2 j hj
  · rw [hf.i 30 7 (by decide)]; exact (Int32.add_zero _).symm
theorem LV.trans {q1 q2 : AQ} {k1 k2 : Nat} {P : PL} {g g' g'' : CS} (h : LV q1 k1 P g g') (h2 : LV q2 k2 P g' g'') : LV q2 (k1 + k2) P g g'' := ⟨h2.1, by rw [h2.2.1, h.2.1, Int32.add_assoc, nI_add], fun e => (h.2.2.1 (by omega)).trans (h2.2.2.1 (by omega)), h.2.2.2.trans h2.2.2.2⟩
theorem LV.deed {q : AQ} {b' : AB} {P : PL} {g g' : CS} (h : DS q b' P g g' 30) : LV (doA q b') 1 P g g' := ⟨h.1, h.2.1, fun e => absurd e (by decide), h.2.2⟩
theorem lvDR {q : AQ} {r : Nat × AB} {P : PL} {g : CS} {z : Int32 × CS} (hS : SQ q P g 30) (h : DR q r P g 30 z) : z.1 = nI r.1 ∧ LV (ddA q r) (if r.1 = 0 then 1 else 0) P g z.2 := by
  refine ⟨h.1, ?_⟩
  unfold ddA
  by_cases e : r.1 = 0
  · rw [if_pos e, if_pos e]; exact LV.deed (h.2.2 e)
  · rw [if_neg e, if_neg e, h.2.1 e]; exact LV.refl hS
def trI (b : AB) (x y : Int32) : Nat × AB := if x < 0 ∨ y < 0 then (1, b) else trN b x.toNatClampNeg y.toNatClampNeg
def weI (b : AB) (x y : Int32) : Nat × AB := if x < 0 ∨ y < 0 then (1, b) else weN b x.toNatClampNeg y.toNatClampNeg
def stI (b : AB) (x : Int32) : Nat × AB := if x < 0 then (1, b) else stN b x.toNatClampNeg
theorem trI_wf {b : AB} (hw : wfB b) (x y : Int32) : wfB (trI b x y).2 ∧ bN (trI b x y).2 = bN b := by
  unfold trI
  split
  · exact ⟨hw, rfl⟩
  · exact trN_wf hw _ _
theorem weI_wf {b : AB} (hw : wfB b) (x y : Int32) : wfB (weI b x y).2 ∧ bN (weI b x y).2 = bN b := by
  unfold weI
  split
  · exact ⟨hw, rfl⟩
  · exact weN_wf hw _ _
theorem stI_wf {b : AB} (hw : wfB b) (x : Int32) : wfB (stI b x).2 ∧ bN (stI b x).2 = bN b := by
  unfold stI
  split
  · exact ⟨hw, rfl⟩
  · exact stN_wf hw _
def trAns (b : AB) (x y : Int32) : Int32 := if (trI b x y).1 = 0 then y * nI (prA (trI b x y).2 x.toNatClampNeg) else -(nI (trI b x y).1)
def weAns (b : AB) (x y : Int32) : Int32 := if (weI b x y).1 = 0 then nI (bW b x.toNatClampNeg) else -(nI (weI b x y).1)
def stAns (b : AB) (x : Int32) : Int32 := if (stI b x).1 = 0 then nI (stk (stI b x).2 x.toNatClampNeg).toNat else -(nI (stI b x).1)
theorem trN_0 {b : AB} {m k : Nat} (h : (trN b m k).1 = 0) : m < bN b ∧ 1 ≤ k ∧ k < bN b ∧ stk b m = false ∧ (trN b m k).2 = tuB b m k := by
  unfold trN at h ⊢
  split at h
  · rename_i h1
    rw [if_pos h1]
    cases hs : stk b m with
    | true => rw [hs] at h; exact absurd h (by simp)
    | false => exact ⟨h1.1, h1.2.1, h1.2.2, rfl, rfl⟩
  · exact absurd h (by simp)
theorem weN_0 {b : AB} {m k : Nat} (h : (weN b m k).1 = 0) : m < bN b ∧ 1 ≤ k ∧ k ≤ 9 ∧ (weN b m k).2 = weB b m k := by
  unfold weN at h ⊢
  split at h
  · rename_i h1
    rw [if_pos h1]
    exact ⟨h1.1, h1.2.1, h1.2.2, rfl⟩
  · exact absurd h (by simp)
theorem stN_0 {b : AB} {m : Nat} (h : (stN b m).1 = 0) : m < bN b ∧ (stN b m).2 = stB b m := by
  unfold stN at h ⊢
  split at h
  · rename_i h1
    rw [if_pos h1]
    exact ⟨h1, rfl⟩
  · exact absurd h (by simp)
theorem n00 : nI 0 = (0 : Int32) := rfl
theorem trI_n1 {b : AB} {x y : Int32} (h : x < 0 ∨ y < 0) : trI b x y = (1, b) := if_pos h
theorem trI_nn {b : AB} {m k : Nat} (hm : m < 2 ^ 31) (hk : k < 2 ^ 31) : trI b (nI m) (nI k) = trN b m k := by
  unfold trI
  rw [if_neg (fun z => z.elim (nI_pos hm) (nI_pos hk)), nI_clamp hm, nI_clamp hk]
theorem weI_n1 {b : AB} {x y : Int32} (h : x < 0 ∨ y < 0) : weI b x y = (1, b) := if_pos h
theorem weI_nn {b : AB} {m k : Nat} (hm : m < 2 ^ 31) (hk : k < 2 ^ 31) : weI b (nI m) (nI k) = weN b m k := by
  unfold weI
  rw [if_neg (fun z => z.elim (nI_pos hm) (nI_pos hk)), nI_clamp hm, nI_clamp hk]
theorem stI_n1 {b : AB} {x : Int32} (h : x < 0) : stI b x = (1, b) := if_pos h
theorem stI_nn {b : AB} {m : Nat} (hm : m < 2 ^ 31) : stI b (nI m) = stN b m := by
  unfold stI
  rw [if_neg (nI_pos hm), nI_clamp hm]
theorem ddA_0 (q : AQ) (b' : AB) : ddA q (0, b') = doA q b' := rfl
theorem ddA_1 (q : AQ) (n : Nat) (b' : AB) : ddA q (n + 1, b') = q := rfl
theorem nn_ne {n : Nat} (h : n ≤ 2) (h0 : n ≠ 0) : ¬ nI n = 0 := nI_ne0 (by omega) (by omega)
section
variable {q : AQ} {g : MS}
theorem MRes.same (hK : KQ q (g.2.1 0)) : MRes q 0 g (sI g 4 0) := ⟨hK, rfl, kpM.th g 0⟩
theorem MRes.fail (hK : KQ q (g.2.1 0)) (th : Nat) : MRes q th g (sI g 4 (nI th)) := ⟨hK, rfl, kpM.th g _⟩
theorem MRes.deed {b' : AB} {g1 g2 : MS} (h1 : KQ (keepA q) (g1.2.1 0)) (f1 : fM [] [0] (sI g 4 0) g1) (hn : bN b' = bN (qB q)) (h : DM b' g1 g2) : MRes (doA q b') 0 g g2 := by
  refine ⟨h1.deed hn h, ?_, ?_⟩
  · rw [h.2.2.1 4 (by decide), f1.1 4 (by decide)]; rfl
  · exact ((kpM.th g 0).trans (kpM.of f1 (by decide) (by decide))).trans (kpM.of h.2.2 (by decide) (by decide))
theorem kB {g1 : MS} (h1 : KQ (keepA q) (g1.2.1 0)) : KB (qB q) (g1.2.1 0) := by have := h1.1; rw [keepA_B] at this; exact this
theorem mTurn_eq (hq : wfQ q) (hK : KQ q (g.2.1 0)) (x y : Int32) : Ev (fX12_turn g x y) (fun z => z.1 = trAns (qB q) x y ∧ MRes (ddA q (trI (qB q) x y)) 0 g z.2) := by
  have hw := hq.1
  have hK1 : KB (qB q) ((sI g 4 0).2.1 0) := hK.1
  unfold fX12_turn trAns
  rw [bnd_e]
  by_cases hx : x < 0
  · rw [whyTurn_n1 hw hK1 (by rw [i64]; exact neg_of hx), bndc_s, if_neg (by decide), trI_n1 (Or.inl hx)]
    exact ev_some.mpr ⟨rfl, MRes.same hK⟩
  · by_cases hy : y < 0
    · rw [whyTurn_n2 hw hK1 (by rw [i64]; exact neg_of hy), bndc_s, if_neg (by decide), trI_n1 (Or.inr hy)]
      exact ev_some.mpr ⟨rfl, MRes.same hK⟩
    · obtain ⟨m, hm, rfl⟩ := nI_of hx
      obtain ⟨k, hk, rfl⟩ := nI_of hy
      rw [nI_l hm, nI_l hk, whyTurn_eq hw hK1 hm hk, bndc_s, trI_nn hm hk, nI_clamp hm]
      by_cases h0 : (trN (qB q) m k).1 = 0
      · obtain ⟨t1, t2, t3, t4, t5⟩ := trN_0 h0
        have e : trN (qB q) m k = (0, tuB (qB q) m k) := Prod.ext h0 t5
        rw [e, if_pos n00, if_pos rfl, ddA_0]
        refine Ev.v (keeps_eq hq hK) ?_
        rintro g1 ⟨k1, f1⟩
        refine Ev.v (turnsBy_eq hw (kB k1) t1 t3) ?_
        intro g2 d2
        refine Ev.c (notchCosts_eq (wf_tuB hw m k) d2.1 t1) ?_
        rintro r g3 ⟨r1, r2⟩
        dsimp only at r1
        have := MRes.deed (q := q) (g := g) (b' := tuB (qB q) m k) k1 f1 rfl d2
        refine ev_some.mpr ⟨by rw [r1], ?_, ?_, ?_⟩
        · rw [r2.row 0 (by decide)]; exact this.1
        · rw [r2.1 4 (by decide)]; exact this.2.1
        · exact this.2.2.trans (kpM.of r2 (by decide) (by decide))
      · rw [if_neg (nn_ne (trN_le _ _ _) h0), if_neg h0]
        have e : ddA q (trN (qB q) m k) = q := if_neg h0
        rw [e]
        exact ev_some.mpr ⟨rfl, MRes.same hK⟩
theorem mWeigh_eq (hq : wfQ q) (hK : KQ q (g.2.1 0)) (x y : Int32) : Ev (fX12_weigh g x y) (fun z => z.1 = weAns (qB q) x y ∧ MRes (ddA q (weI (qB q) x y)) 0 g z.2) := by
  have hw := hq.1
  have hn := hw.2.1
  have hK1 : KB (qB q) ((sI g 4 0).2.1 0) := hK.1
  have e1 : (1 : Int64).toInt = 1 := rfl
  have e9 : (9 : Int64).toInt = 9 := rfl
  unfold fX12_weigh weAns
  rw [bnd_e]
  by_cases hx : x < 0
  · rw [isM_neg hw hK1 (by rw [i64]; exact neg_of hx), bndc_s, if_pos rfl, weI_n1 (Or.inl hx)]
    exact ev_some.mpr ⟨rfl, MRes.same hK⟩
  · by_cases hy : y < 0
    · rw [isM_eq hw hK1, bndc_s, weI_n1 (Or.inr hy)]
      by_cases hm : 0 ≤ x.toInt64.toInt ∧ x.toInt64.toInt < bN (qB q)
      · rw [if_pos hm, if_neg (by decide), within_n (by rw [i64]; have := neg_of hy; omega), bndv_s, if_pos rfl]
        exact ev_some.mpr ⟨rfl, MRes.same hK⟩
      · rw [if_neg hm, if_pos rfl]
        exact ev_some.mpr ⟨rfl, MRes.same hK⟩
    · obtain ⟨m, hm, rfl⟩ := nI_of hx
      obtain ⟨k, hk, rfl⟩ := nI_of hy
      rw [nI_l hm, nI_l hk, nI_clamp hm, weI_nn hm hk]
      by_cases h1 : m < bN (qB q)
      · rw [isM_y hw hK1 h1, bndc_s, if_neg (by decide)]
        by_cases h2 : 1 ≤ k ∧ k ≤ 9
        · rw [within_y (by rw [e1, lN_I hk]; omega) (by rw [e9, lN_I hk]; omega), bndv_s, if_neg (by decide)]
          have hW : weN (qB q) m k = (0, weB (qB q) m k) := if_pos ⟨h1, h2⟩
          rw [hW, if_pos rfl, ddA_0]
          refine Ev.v (keeps_eq hq hK) ?_
          rintro g1 ⟨k1, f1⟩
          rw [l_12, nI_add]
          refine Ev.k (ib_n (by omega) (by omega)) ?_
          rw [bnd_e, bnd_e, ix_n (by omega)]
          refine Ev.k (ib_n (by omega) (by omega)) (ev_some.mpr ⟨(kB k1).2.2.2.1 m h1, ?_⟩)
          exact MRes.deed (b' := weB (qB q) m k) k1 f1 rfl (weighs_eq hw (kB k1) h1)
        · rw [within_n (by rw [e1, e9, lN_I hk]; omega), bndv_s, if_pos rfl]
          have hW : weN (qB q) m k = (1, qB q) := if_neg (fun z => h2 z.2)
          rw [hW]
          exact ev_some.mpr ⟨rfl, MRes.same hK⟩
      · rw [isM_n hw hK1 h1 hm, bndc_s, if_pos rfl]
        have hW : weN (qB q) m k = (1, qB q) := if_neg (fun z => h1 z.1)
        rw [hW]
        exact ev_some.mpr ⟨rfl, MRes.same hK⟩
theorem mStick_eq (hq : wfQ q) (hK : KQ q (g.2.1 0)) (x : Int32) : Ev (fX12_stick g x) (fun z => z.1 = stAns (qB q) x ∧ MRes (ddA q (stI (qB q) x)) 0 g z.2) := by
  have hw := hq.1
  have hn := hw.2.1
  have hK1 : KB (qB q) ((sI g 4 0).2.1 0) := hK.1
  unfold fX12_stick stAns
  rw [bnd_e]
  by_cases hx : x < 0
  · rw [isM_neg hw hK1 (by rw [i64]; exact neg_of hx), bndc_s, if_pos rfl, stI_n1 hx]
    exact ev_some.mpr ⟨rfl, MRes.same hK⟩
  · obtain ⟨m, hm, rfl⟩ := nI_of hx
    rw [nI_l hm, nI_clamp hm, stI_nn hm]
    by_cases h1 : m < bN (qB q)
    · rw [isM_y hw hK1 h1, bndc_s, if_neg (by decide)]
      have hW : stN (qB q) m = (0, stB (qB q) m) := if_pos h1
      rw [hW, if_pos rfl, ddA_0]
      refine Ev.v (keeps_eq hq hK) ?_
      rintro g1 ⟨k1, f1⟩
      refine Ev.k (by decide) (Ev.k (by decide) ?_)
      rw [bnd_e]
      have d := sticks_eq hw (kB k1) h1
      have e : ix (18 : Int32) = 18 := rfl
      rw [e, isStuck_eq (wf_stB hw h1) d.1 (by omega), bndc_s]
      have R := MRes.deed (b' := stB (qB q) m) k1 f1 rfl d
      cases hs : stk (stB (qB q) m) m with
      | false => rw [if_pos (show nI false.toNat = 0 from rfl)]; exact ev_some.mpr ⟨rfl, R⟩
      | true => rw [if_neg (show ¬ nI true.toNat = 0 by decide)]; exact ev_some.mpr ⟨rfl, R⟩
    · rw [isM_n hw hK1 h1 hm, bndc_s, if_pos rfl]
      have hW : stN (qB q) m = (1, qB q) := if_neg h1
      rw [hW]
      exact ev_some.mpr ⟨rfl, MRes.same hK⟩
end
section
variable {q : AQ} {P : PL} {g : CS}
theorem okS30 : okS 30 := Or.inl rfl
theorem okS31 : okS 31 := Or.inr (Or.inl rfl)
theorem cTurnI (hq : wfQ q) (hS : SQ q P g 30) (x y : Int32) : Ev (fX6_turnBy P g 30 x y) (DR q (trI (qB q) x y) P g 30) := by
  unfold trI
  by_cases hx : x < 0
  · rw [cTurn_n1 hx, if_pos (Or.inl hx)]
    exact ev_some.mpr (DR.no rfl (by simp))
  · by_cases hy : y < 0
    · rw [cTurn_n2 hy, if_pos (Or.inr hy)]
      exact ev_some.mpr (DR.no rfl (by simp))
    · rw [if_neg (fun z => z.elim hx hy)]
      obtain ⟨m, hm, rfl⟩ := nI_of hx
      obtain ⟨k, hk, rfl⟩ := nI_of hy
      rw [nI_clamp hm, nI_clamp hk]
      exact cTurn_eq okS30 hq hS hm hk
theorem cWeighI (hq : wfQ q) (hS : SQ q P g 30) (x y : Int32) : Ev (fX6_giveWeight P g 30 x y) (DR q (weI (qB q) x y) P g 30) := by
  unfold weI
  by_cases hx : x < 0
  · rw [cWeigh_n1 hx, if_pos (Or.inl hx)]
    exact ev_some.mpr (DR.no rfl (by simp))
  · by_cases hy : y < 0
    · rw [cWeigh_n2 hy, if_pos (Or.inr hy)]
      exact ev_some.mpr (DR.no rfl (by simp))
    · rw [if_neg (fun z => z.elim hx hy)]
      obtain ⟨m, hm, rfl⟩ := nI_of hx
      obtain ⟨k, hk, rfl⟩ := nI_of hy
      rw [nI_clamp hm, nI_clamp hk]
      exact cWeigh_eq okS30 hq hS hm hk
theorem cStickI (hq : wfQ q) (hS : SQ q P g 30) (x : Int32) : Ev (fX6_toggleStuck P g 30 x) (DR q (stI (qB q) x) P g 30) := by
  unfold stI
  by_cases hx : x < 0
  · rw [cStick_n1 hx, if_pos hx]
    exact ev_some.mpr (DR.no rfl (by simp))
  · rw [if_neg hx]
    obtain ⟨m, hm, rfl⟩ := nI_of hx
    rw [nI_clamp hm]
    exact cStick_eq okS30 hq hS hm
theorem trI_0 {b : AB} {x y : Int32} (h : (trI b x y).1 = 0) : ∃ m k, m < bN b ∧ x = nI m ∧ y = nI k ∧ x.toNatClampNeg = m ∧ (trI b x y).2 = tuB b m k := by
  unfold trI at h ⊢
  split at h
  · exact absurd h (by simp)
  · rename_i h1
    rw [if_neg h1]
    obtain ⟨m, hm, rfl⟩ := nI_of (fun z => h1 (Or.inl z))
    obtain ⟨k, hk, rfl⟩ := nI_of (fun z => h1 (Or.inr z))
    rw [nI_clamp hm, nI_clamp hk] at h ⊢
    obtain ⟨t1, t2, t3, t4, t5⟩ := trN_0 h
    exact ⟨m, k, t1, rfl, rfl, rfl, t5⟩
theorem trI_le (b : AB) (x y : Int32) : (trI b x y).1 ≤ 2 := by
  unfold trI
  split
  · exact (by decide : 1 ≤ 2)
  · exact trN_le _ _ _
theorem weI_le (b : AB) (x y : Int32) : (weI b x y).1 ≤ 2 := by
  unfold weI
  split
  · exact (by decide : 1 ≤ 2)
  · exact weN_le _ _ _
theorem stI_le (b : AB) (x : Int32) : (stI b x).1 ≤ 2 := by
  unfold stI
  split
  · exact (by decide : 1 ≤ 2)
  · exact stN_le _ _
theorem cTurn_call (hq : wfQ q) (hS : SQ q P g 30) (x y : Int32) : Ev (fX11_turn P g x y) (fun z => z.1 = trAns (qB q) x y ∧ ∃ k, k ≤ 1 ∧ (k = 0 → ddA q (trI (qB q) x y) = q) ∧ LV (ddA q (trI (qB q) x y)) k P g z.2) := by
  unfold fX11_turn trAns
  refine Ev.c (cTurnI hq hS x y) ?_
  rintro r g2 hR
  obtain ⟨r1, hL⟩ := lvDR hS hR
  dsimp only at r1 hL
  subst r1
  by_cases h0 : (trI (qB q) x y).1 = 0
  · obtain ⟨m, k, t1, rfl, rfl, t4, t5⟩ := trI_0 h0
    have hwf := trI_wf hq.1 (nI m) (nI k)
    rw [h0, if_pos n00, if_pos rfl, t4]
    rw [if_pos h0] at hL
    have hS2 : SB (trI (qB q) (nI m) (nI k)).2 P g2 30 := by
      have := hL.1.1
      unfold ddA at this
      rw [if_pos h0] at this
      exact this
    refine Ev.c (price_eq okS30 hwf.1 hS2 (m := m) (by rw [hwf.2]; exact t1)) ?_
    rintro r g3 ⟨p1, p2⟩
    dsimp only at p1
    exact ev_some.mpr ⟨by rw [p1], 1, Nat.le_refl 1, (fun e => absurd e (by decide)), hL.trans (LV.calm hL.1 p2)⟩
  · rw [if_neg (nn_ne (trI_le _ _ _) h0), if_neg h0]
    rw [if_neg h0] at hL
    exact ev_some.mpr ⟨rfl, 0, by omega, (fun _ => if_neg h0), hL⟩
theorem cWeigh_call (hq : wfQ q) (hS : SQ q P g 30) (x y : Int32) : Ev (fX11_weigh P g x y) (fun z => z.1 = weAns (qB q) x y ∧ ∃ k, k ≤ 1 ∧ (k = 0 → ddA q (weI (qB q) x y) = q) ∧ LV (ddA q (weI (qB q) x y)) k P g z.2) := by
  have hw := hq.1
  have hn := hw.2.1
  have key : ∀ t0 : Int32, ((weI (qB q) x y).1 = 0 → t0 = nI (bW (qB q) x.toNatClampNeg)) → Ev (fX11_weigh_26 P g x y t0) (fun z => z.1 = weAns (qB q) x y ∧ ∃ k, k ≤ 1 ∧ (k = 0 → ddA q (weI (qB q) x y) = q) ∧ LV (ddA q (weI (qB q) x y)) k P g z.2) := by
    intro t0 ht
    unfold fX11_weigh_26 weAns
    refine Ev.c (cWeighI hq hS x y) ?_
    rintro r g2 hR
    obtain ⟨r1, hL⟩ := lvDR hS hR
    dsimp only at r1 hL
    subst r1
    by_cases h0 : (weI (qB q) x y).1 = 0
    · rw [h0, if_pos n00, if_pos rfl]
      rw [if_pos h0] at hL
      exact ev_some.mpr ⟨ht h0, 1, Nat.le_refl 1, (fun e => absurd e (by decide)), hL⟩
    · rw [if_neg (nn_ne (weI_le _ _ _) h0), if_neg h0]
      rw [if_neg h0] at hL
      exact ev_some.mpr ⟨rfl, 0, by omega, (fun _ => if_neg h0), hL⟩
  unfold fX11_weigh
  by_cases hx : ∃ m, m < bN (qB q) ∧ x = nI m
  · obtain ⟨m, hm, rfl⟩ := hx
    rw [cHas_eq hw hS.1 hm, bndc_s, if_neg (by decide), hS.1.2.2.1, at_l6 (w16 hw) (by omega), bndv_s]
    exact key _ (fun _ => by rw [nI_clamp (by omega)])
  · rw [cHas_no hw hS.1 hx, bndc_s, if_pos rfl]
    refine key _ (fun h => absurd h ?_)
    intro h
    unfold weI at h
    split at h
    · exact absurd h (by simp)
    · rename_i h1
      obtain ⟨m, hm, rfl⟩ := nI_of (fun z => h1 (Or.inl z))
      rw [nI_clamp hm] at h
      exact hx ⟨m, (weN_0 h).1, rfl⟩
theorem cStick_call (hq : wfQ q) (hS : SQ q P g 30) (x : Int32) : Ev (fX11_stick P g x) (fun z => z.1 = stAns (qB q) x ∧ ∃ k, k ≤ 1 ∧ (k = 0 → ddA q (stI (qB q) x) = q) ∧ LV (ddA q (stI (qB q) x)) k P g z.2) := by
  have hw := hq.1
  have hn := hw.2.1
  unfold fX11_stick stAns
  refine Ev.c (cStickI hq hS x) ?_
  rintro r g2 hR
  obtain ⟨r1, hL⟩ := lvDR hS hR
  dsimp only at r1 hL
  subst r1
  by_cases h0 : (stI (qB q) x).1 = 0
  · rw [h0, if_pos n00, if_pos rfl]
    rw [if_pos h0] at hL
    have hS2 : SB (stI (qB q) x).2 P g2 30 := by
      have := hL.1.1
      unfold ddA at this
      rw [if_pos h0] at this
      exact this
    obtain ⟨m, hm, rfl⟩ : ∃ m, m < bN (qB q) ∧ x = nI m := by
      unfold stI at h0
      split at h0
      · exact absurd h0 (by simp)
      · rename_i h1
        obtain ⟨m, hm, rfl⟩ := nI_of h1
        rw [nI_clamp hm] at h0
        exact ⟨m, (stN_0 h0).1, rfl⟩
    rw [cStuck_eq (stI_wf hw _).1 hS2 (by omega), bndc_s, nI_clamp (by omega)]
    cases stk (stI (qB q) (nI m)).2 m with
    | false => rw [if_pos (by decide)]; exact ev_some.mpr ⟨rfl, 1, Nat.le_refl 1, (fun e => absurd e (by decide)), hL⟩
    | true => rw [if_neg (by decide)]; exact ev_some.mpr ⟨rfl, 1, Nat.le_refl 1, (fun e => absurd e (by decide)), hL⟩
  · rw [if_neg (nn_ne (stI_le _ _) h0), if_neg h0]
    rw [if_neg h0] at hL
    exact ev_some.mpr ⟨rfl, 0, by omega, (fun _ => if_neg h0), hL⟩
end
