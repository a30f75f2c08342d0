/-! ===== the class's list of turns ===== -/
def scV (b : AB) (y1 y2 : Int32) (v : Nat) : Bool := okV b v && decide ((nI (l6 (laV b v)) &&& y1) = y2)
theorem scV_ok {b : AB} {y1 y2 : Int32} (v : Nat) (h : scV b y1 y2 v = true) : okV b v = true := (Bool.and_eq_true_iff.mp h).1
def CLs (b : AB) (S : Nat → Bool) (v : Nat) (g : CS) : Prop := g.1 22 2 = nI (fb_ct S v) ∧ ∀ u, u < v → S u = true → g.2.1 23 (fb_ct S u) = nI u ∧ g.2.1 24 (fb_ct S u) = nI (l6 (laV b u))
abbrev snI : List (Nat × Nat) := [(10, 1), (12, 1), (12, 6), (12, 7), (12, 8), (12, 9), (12, 10), (12, 11), (12, 12), (22, 2), (22, 7)]
abbrev snA : List Nat := [11, 13, 14, 15, 16, 23, 24, 25, 26]
theorem snno30 : ∀ k, k ≤ 5 → ((30 : Nat), k) ∉ snI := by
  intro k _ h
  simp at h
/-- the class behind a call to its sights -/
def CRs (b : AB) (T : Nat) (g g' : CS) : Prop := SV b T g' ∧ fC snI snA [] g g'
abbrev svK : List (Nat × Nat) := [(12, 1), (17, 2), (17, 3), (17, 4), (17, 5), (17, 6), (17, 7), (17, 8), (17, 9), (17, 10), (17, 11), (17, 12)]
abbrev svR : List Nat := [13, 14, 18, 19, 20, 21]
theorem SV.keep {b : AB} {T : Nat} {g g' : CS} {oi : List (Nat × Nat)} {la ll : List Nat} (h : SV b T g) (f : fC oi la ll g g') (h1 : ∀ p ∈ svK, p ∉ oi) (h2 : ∀ p ∈ svR, p ∉ la) : SV b T g' := by
  obtain ⟨m1, m2, m3, m4⟩ := h
  refine ⟨?_, ?_, ?_, ?_⟩
  · rw [f.i 12 1 (h1 _ (by decide))]; exact m1.imp (fun h => h.keep f ⟨h2 _ (by decide), h2 _ (by decide)⟩)
  · rw [f.i 17 4 (h1 _ (by decide))]; exact m2.imp (fun h => h.keep f ⟨h1 _ (by decide), h1 _ (by decide), h1 _ (by decide), h1 _ (by decide), h1 _ (by decide)⟩)
  · rw [f.i 17 2 (h1 _ (by decide))]; exact m3.imp (fun h => h.keep f ⟨h2 _ (by decide), h2 _ (by decide), h2 _ (by decide), h2 _ (by decide)⟩)
  · rw [f.i 17 3 (h1 _ (by decide))]; exact m4.imp (fun h => h.keep f ⟨h1 _ (by decide), h1 _ (by decide), h1 _ (by decide)⟩)
section
variable {b : AB} {P : PL} {g : CS} {T : Nat}
theorem beg_eq (hw : wfB b) (hT : g.1 30 7 = nI T) (hS : SB b P g 30) (hV : SV b T g) : Ev (fX10_begin P g (nI (bS b))) (fun g' => TB b g' ∧ SV b T g' ∧ fC tbI tbA [] g g') := by
  obtain ⟨m1, m2, m3, m4⟩ := hV
  refine (begin_eq hw hw.2.2.2.2.1 hT hS m1).mono ?_
  rintro g5 ⟨t1, t2, t3, t4, G⟩
  rw [setS_id] at t1
  refine ⟨t1, ⟨?_, ?_, ?_, ?_⟩, G⟩
  · rw [t4]; exact memo.new t3
  · rw [G.i 17 4 (by decide)]; exact m2.imp (fun h => h.keep G (by decide))
  · rw [G.i 17 2 (by decide)]; exact m3.imp (fun h => h.keep G (by decide))
  · rw [G.i 17 3 (by decide)]; exact m4.imp (fun h => h.keep G (by decide))
theorem CLs.skip {S : Nat → Bool} {a c : Nat} (h : CLs b S a g) (hac : a ≤ c) (hz : ∀ v, a ≤ v → v < c → S v = false) : CLs b S c g := ⟨by rw [ct_skip hac hz]; exact h.1, fun u hu hS => h.2 u (by
  by_cases e : a ≤ u
  · rw [hz u e hu] at hS; exact absurd hS (by decide)
  · omega) hS⟩
theorem CLs.keep {S : Nat → Bool} {v : Nat} {g' : CS} {oi : List (Nat × Nat)} {la ll : List Nat} (h : CLs b S v g) (f : fC oi la ll g g') (h1 : (22, 2) ∉ oi) (h2 : 23 ∉ la ∧ 24 ∉ la) : CLs b S v g' := ⟨by rw [f.i 22 2 h1]; exact h.1, fun u hu hS => by rw [f.2.1 23 h2.1, f.2.1 24 h2.2]; exact h.2 u hu hS⟩
theorem pullAt_eq (hw : wfB b) (hB : TB b g) {m : Nat} (hm : m < bN b) (hs : stk b m = false) : fX10_pullAt P g (nI (fD b (bN b) - 1 - fD b (bN b - 1 - m))) = some (nI (l6 (fun j => if alA b m j = true ∧ j < bN b then 1 else 0)), g) := by
  have hn := hw.2.1
  have hf := fD_free hm hs
  have hF := fD_le b (bN b)
  unfold fX10_pullAt
  rw [if_neg (show ¬ nI _ < 0 from nI_nlt (b := 0) (by omega) (by omega)), hB.2.1, if_neg (nI_ge (by omega) (by omega)), chk_tt (ib_n (by omega) (by omega)), ix_n (by omega), hB.2.2.2.1 m hm hs, chk_tt (ib_n (by omega) (by omega)), ix_n (by omega), (hB.2.2.2.2 m hm hs).1]
theorem freeAt_eq (hw : wfB b) (hB : TB b g) {m : Nat} (hm : m < bN b) (hs : stk b m = false) : fX10_freeAt P g (nI (fD b (bN b) - 1 - fD b (bN b - 1 - m))) = some (nI m, g) := by
  have hn := hw.2.1
  have hf := fD_free hm hs
  have hF := fD_le b (bN b)
  unfold fX10_freeAt
  rw [if_neg (show ¬ nI _ < 0 from nI_nlt (b := 0) (by omega) (by omega)), hB.2.1, if_neg (nI_ge (by omega) (by omega)), chk_tt (ib_n (by omega) (by omega)), ix_n (by omega), hB.2.2.2.1 m hm hs]
theorem list44 (hw : wfB b) {m : Nat} (hm : m < bN b) (hs : stk b m = false) (y1 y2 : Int32) {k21 : CS → Int32 → Int32 → Int32 → Option CS} {Q : CS → Prop} (g0 : CS) (kk : ∀ g', CLs b (scV b y1 y2) (10 * m + bN b) g' → TB b g' → fC [(22, 2)] [23, 24] [] g0 g' → Ev (k21 g' y1 y2 (nI (fD b (bN b) - 1 - fD b (bN b - 1 - m)) + 1)) Q) :
    ∀ d k f (g : CS), (k + 1) + d = bN b → d < f → g.1 30 1 = nI (bN b) → TB b g → CLs b (scV b y1 y2) (10 * m + (k + 1)) g → fC [(22, 2)] [23, 24] [] g0 g → Ev (fX5_list_44 P k21 f g y1 y2 (nI (fD b (bN b) - 1 - fD b (bN b - 1 - m))) (nI (l6 (laV b (10 * m + k)))) (nI (k + 1))) Q := by
  have hn := hw.2.1
  have hn1 := hw.1
  intro d
  induction d with
  | zero =>
    intro k f g hk hf h1 hB hL hF
    obtain ⟨f, rfl⟩ : ∃ f', f = f' + 1 := ⟨f - 1, by omega⟩
    have hk : k + 1 = bN b := hk
    rw [fX5_list_44, h1, if_pos (nI_le (by omega) (by omega)), bnd_e]
    rw [hk] at hL
    exact kk g hL hB hF
  | succ d ih =>
    intro k f g hk hf h1 hB hL hF
    obtain ⟨f, rfl⟩ : ∃ f', f = f' + 1 := ⟨f - 1, by omega⟩
    rw [fX5_list_44, h1, if_neg (nI_ge (by omega) (by omega)), pullAt_eq hw hB hm hs, bndc_s, h1]
    have ha := laV_lk hw (10 * m + k)
    rw [plus_l6 hn1 hn (fun j hj => by have := (ha j hj).1; omega) (fun j hj => by split <;> omega) (fun j hj hj2 => ⟨(ha j hj).2 hj2, if_neg (by omega)⟩), bndv_s]
    have e : l6 (fun j => (laV b (10 * m + k) j + (if alA b m j = true ∧ j < bN b then 1 else 0)) % bN b) = l6 (laV b (10 * m + (k + 1))) := lnb_cong (fun j _ => (laV_up hw hm (by omega) j).symm)
    rw [e]
    have hok : okV b (10 * m + (k + 1)) = true := (okV_iff _).mpr (by
      rw [show (10 * m + (k + 1)) / 10 = m by omega, show (10 * m + (k + 1)) % 10 = k + 1 by omega]
      exact ⟨hm, by omega, by omega, hs⟩)
    by_cases c : (nI (l6 (laV b (10 * m + (k + 1)))) &&& y1) = y2
    · have hSv : scV b y1 y2 (10 * m + (k + 1)) = true := by unfold scV; rw [hok, decide_eq_true c]; rfl
      have hc := ok_lt30 hw (scV_ok (b := b) (y1 := y1) (y2 := y2)) hok
      rw [if_pos c, hL.1, if_neg (show ¬ (30 : Int32) ≤ nI _ from nI_ge (b := 30) hc (by omega)), freeAt_eq hw hB hm hs, bndc_s]
      refine Ev.k (ib_n hc (by omega)) ?_
      have e22 : ∀ v : Int32, (tA g 23 (ix (nI (fb_ct (scV b y1 y2) (10 * m + (k + 1))))) v).1 22 2 = nI (fb_ct (scV b y1 y2) (10 * m + (k + 1))) := fun v => hL.1
      have e22' : ∀ v w : Int32, (tA (tA g 23 (ix (nI (fb_ct (scV b y1 y2) (10 * m + (k + 1))))) v) 24 (ix (nI (fb_ct (scV b y1 y2) (10 * m + (k + 1))))) w).1 22 2 = nI (fb_ct (scV b y1 y2) (10 * m + (k + 1))) := fun v w => hL.1
      rw [bnd_e, e22]
      refine Ev.k (ib_n hc (by omega)) ?_
      rw [bnd_e, bnd_e, bnd_e, e22', nI_1, nI_1, ix_n (by omega), l_10, pk_mul, nI_add]
      have f1 : fC [(22, 2)] [23, 24] [] g (tI (tA (tA g 23 (fb_ct (scV b y1 y2) (10 * m + (k + 1))) (nI (10 * m + (k + 1)))) 24 (fb_ct (scV b y1 y2) (10 * m + (k + 1))) (nI (l6 (laV b (10 * m + (k + 1)))))) 22 2 (nI (fb_ct (scV b y1 y2) (10 * m + (k + 1)) + 1))) := (((fC.refl g).tA (by decide)).tA (by decide)).tI (by decide)
      refine ih (k + 1) f _ (by omega) (by omega) (by rw [f1.i 30 1 (by decide)]; exact h1) (hB.keep f1 (by decide) (by decide)) ⟨?_, fun u hu hSu => ?_⟩ (hF.trans f1)
      · rw [show 10 * m + (k + 1 + 1) = 10 * m + (k + 1) + 1 by omega, ct_y hSv]
        exact tI_s
      · show upd (g.2.1 23) _ _ _ = _ ∧ upd (g.2.1 24) _ _ _ = _
        rw [upd_j, upd_j]
        by_cases e2 : u = 10 * m + (k + 1)
        · rw [e2, if_pos rfl, if_pos rfl]
          exact ⟨rfl, rfl⟩
        · have hlt := ct_lt hSu (show u < 10 * m + (k + 1) by omega)
          rw [if_neg (by omega), if_neg (by omega)]
          exact hL.2 u (by omega) hSu
    · rw [if_neg c, nI_1, bnd_e]
      refine ih (k + 1) f g (by omega) (by omega) h1 hB (hL.skip (by omega) (fun v v1 v2 => ?_)) hF
      rw [show v = 10 * m + (k + 1) by omega]
      unfold scV
      rw [decide_eq_false c, Bool.and_false]
theorem sc_next {y1 y2 : Int32} {m c : Nat} (hc : c ≤ 10) (h : bN b ≤ c ∨ stk b m = true ∨ bN b ≤ m) (v : Nat) (h1 : 10 * m + c ≤ v) (h2 : v < 10 * (m + 1)) : scV b y1 y2 v = false := by
  unfold scV
  rw [ok_next hc h v h1 h2, Bool.false_and]
theorem list21 (hw : wfB b) (y1 y2 : Int32) : ∀ d m f (g : CS), m + d = bN b → d < f → SB b P g 30 → TB b g → CLs b (scV b y1 y2) (10 * m) g → Ev (fX5_list_21 P f g y1 y2 (nI (fD b (bN b) - fD b (bN b - m)))) (fun g' => CLs b (scV b y1 y2) (10 * bN b) g' ∧ fC [(22, 2)] [23, 24] [] g g') := by
  have hn := hw.2.1
  have hn1 := hw.1
  have hF := fD_le b (bN b)
  intro d
  induction d with
  | zero =>
    intro m f g hm hf hS hB hL
    obtain ⟨f, rfl⟩ : ∃ f', f = f' + 1 := ⟨f - 1, by omega⟩
    have hm : m = bN b := hm
    subst hm
    rw [fX5_list_21, hB.2.1, Nat.sub_self, show fD b 0 = 0 from rfl, if_pos (nI_le (by omega) (by omega))]
    exact ev_some.mpr ⟨hL, fC.refl g⟩
  | succ d ih =>
    intro m f g hm hf hS hB hL
    have hs1 := fD_s (b := b) (show m < bN b by omega)
    have hsub : bN b - (m + 1) = bN b - 1 - m := by omega
    cases hs : stk b m with
    | true =>
      rw [hs, if_pos rfl, Nat.add_zero] at hs1
      have st := ih (m + 1) f g (by omega) (by omega) hS hB (hL.skip (by omega) (fun v v1 v2 => sc_next (c := 0) (by omega) (Or.inr (Or.inl hs)) v (by omega) v2))
      rw [hsub, ← hs1] at st
      exact st
    | false =>
      rw [hs, if_neg (by decide)] at hs1
      obtain ⟨f, rfl⟩ : ∃ f', f = f' + 1 := ⟨f - 1, by omega⟩
      have hfr := fD_free (show m < bN b by omega) hs
      rw [fX5_list_21, hB.2.1, show fD b (bN b) - fD b (bN b - m) = fD b (bN b) - 1 - fD b (bN b - 1 - m) by omega, if_neg (nI_ge (by omega) (by omega)), bnd_e, hS.2.1]
      have e0 : l6 (bA b) = l6 (laV b (10 * m + 0)) := lnb_cong (fun j hj => (laV_0 hw m hj).symm)
      rw [e0]
      refine list44 hw (show m < bN b by omega) hs y1 y2 g (fun g' a1 a2 a3 => ?_) (bN b - 1) 0 fuel g (by omega) (by unfold fuel; omega) hS.1 hB (hL.skip (by omega) (fun v v1 v2 => ?_)) (fC.refl g)
      · have st := ih (m + 1) f g' (by omega) (by omega) (hS.keep a3 (by intro k _ h; simp at h)) a2 (a1.skip (by omega) (fun v v1 v2 => sc_next (c := bN b) (by omega) (Or.inl (Nat.le_refl _)) v v1 v2))
        rw [hsub, show fD b (bN b) - fD b (bN b - 1 - m) = fD b (bN b) - 1 - fD b (bN b - 1 - m) + 1 by omega] at st
        rw [nI_1]
        refine st.mono ?_
        rintro z ⟨z1, z2⟩
        exact ⟨z1, a3.trans z2⟩
      · unfold scV
        rw [okV_no (fun z => by omega), Bool.false_and]
theorem list_eq (hw : wfB b) (hT : g.1 30 7 = nI T) (hS : SB b P g 30) (hV : SV b T g) (y1 y2 : Int32) : Ev (fX5_list P g y1 y2) (fun g' => CLs b (scV b y1 y2) (10 * bN b) g' ∧ CRs b T g g') := by
  have hn := hw.2.1
  unfold fX5_list
  rw [bnd_e]
  have f0 : fC [(22, 2)] [] [] g (tI g 22 2 0) := (fC.refl g).tI (by decide)
  have hS0 := hS.keep f0 (by intro k _ h; simp at h)
  rw [hS0.2.2.2.1]
  refine Ev.v (beg_eq hw (by rw [f0.i 30 7 (by decide)]; exact hT) hS0 (hV.keep f0 (by decide) (by decide))) ?_
  rintro g1 ⟨h1, h2, h3⟩
  have F1 : fC snI snA [] g g1 := (f0.mono (by decide) (by decide) (by decide)).trans (h3.mono (by decide) (by decide) (by decide))
  have st := list21 hw y1 y2 (bN b) 0 fuel g1 (by omega) (by unfold fuel; omega) (hS.keep F1 snno30) h1 ⟨by rw [h3.i 22 2 (by decide)]; rfl, fun u hu => absurd hu (by omega)⟩
  rw [Nat.sub_zero, Nat.sub_self] at st
  refine st.mono ?_
  rintro z ⟨z1, z2⟩
  exact ⟨z1, h2.keep z2 (by decide) (by decide), F1.trans (z2.mono (by decide) (by decide) (by decide))⟩
theorem cSeen_list (hw : wfB b) (hT : g.1 30 7 = nI T) (hS : SB b P g 30) (hV : SV b T g) {t : AT} (hl : tlB (bN b) t = true) : Ev (fX5_list P g (nI (l6 (mkN (bN b) t.2.2.2))) (nI (l6 (amN (bN b) t.2.2.2)))) (fun g' => CLs b (soV b t) (10 * bN b) g' ∧ CRs b T g g') := by
  refine (list_eq hw hT hS hV _ _).mono ?_
  rintro g' ⟨h1, h2⟩
  have e : scV b (nI (l6 (mkN (bN b) t.2.2.2))) (nI (l6 (amN (bN b) t.2.2.2))) = soV b t := by
    funext v
    unfold scV soV
    congr 1
    have := lanes_so (t := t) hw.2.1 (laV_lk hw v) hl
    cases h : soB (bN b) t.2.2.2 (laV b v) with
    | true => exact decide_eq_true (this.mpr h)
    | false => exact decide_eq_false (fun z => by rw [this.mp z] at h; exact absurd h (by decide))
  rw [e] at h1
  exact ⟨h1, h2⟩
theorem CLs.at {S : Nat → Bool} (h : CLs b S (10 * bN b) g) {i : Nat} (hi : i < seN b S) : g.2.1 23 i = nI (ktF S i (10 * bN b) - 1) ∧ g.2.1 24 i = nI (l6 (laV b (ktF S i (10 * bN b) - 1))) := by
  obtain ⟨u, h1, h2, h3, h4⟩ := kt_ex hi
  have := h.2 u h1 h2
  rw [h3] at this
  rw [h4, Nat.add_sub_cancel]
  exact this
theorem cAlike_lp (hw : wfB b) {S : Nat → Bool} (h30 : seN b S ≤ 30) {m : Nat} (hm : m < bN b) : ∀ d k f (g : CS), k + d = seN b S → d < f → CLs b S (10 * bN b) g → (∀ x, x < 6 → g.2.1 25 x = nI (fb_ct (fun i => decide (wS b S m i = x)) k)) → Ev (fX5_mostAlike_12 P f g (nI m) (nI (mxF (fun k => fb_ct (fun i => decide (wS b S m i = wS b S m k)) (k + 1)) k)) (nI k)) (fun z => z.1 = nI (mostA b S m) ∧ fC [] [25] [] g z.2) := by
  have hn := hw.2.1
  intro d
  induction d with
  | zero =>
    intro k f g hk hf hL h
    obtain ⟨f, rfl⟩ : ∃ f', f = f' + 1 := ⟨f - 1, by omega⟩
    have hk : k = seN b S := hk
    subst hk
    have e : g.1 22 2 = nI (seN b S) := hL.1
    rw [fX5_mostAlike_12, e, if_pos (nI_le (by omega) (by omega))]
    refine ev_some.mpr ⟨?_, fC.refl g⟩
    rw [alike_eq]
    rfl
  | succ d ih =>
    intro k f g hk hf hL h
    obtain ⟨f, rfl⟩ : ∃ f', f = f' + 1 := ⟨f - 1, by omega⟩
    have e : g.1 22 2 = nI (seN b S) := hL.1
    have w1 := wS_lt (S := S) hw m k
    have ha := laV_lk hw (ktF S k (10 * bN b) - 1)
    rw [fX5_mostAlike_12, e, if_neg (nI_ge (by omega) (by omega))]
    refine Ev.k (ib_n (by omega) (by omega)) ?_
    have ew : laV b (ktF S k (10 * bN b) - 1) m = wS b S m k := rfl
    rw [ix_n (by omega), (hL.at (show k < seN b S by omega)).2, at_l6 (lk16 hn ha) (by omega), bndv_s, ew, if_neg (show ¬ (6 : Int32) ≤ nI (wS b S m k) from nI_ge (b := 6) (by omega) (by omega))]
    refine Ev.k (ib_n (by omega) (by omega)) (Ev.k (ib_n (by omega) (by omega)) ?_)
    have c1 := fb_ct_le (fun i => decide (wS b S m i = wS b S m k)) k
    have c2 : mxF (fun k => fb_ct (fun i => decide (wS b S m i = wS b S m k)) (k + 1)) k ≤ 30 := mxF_le _ (fun j hj => Nat.le_trans (fb_ct_le _ _) (by omega))
    rw [bnd_e, ix_n (by omega), h (wS b S m k) (by omega), nI_1]
    refine Ev.k (ib_n (by omega) (by omega)) ?_
    have e3 : (tA g 25 (wS b S m k) (nI (fb_ct (fun i => decide (wS b S m i = wS b S m k)) k + 1))).2.1 25 (wS b S m k) = nI (fb_ct (fun i => decide (wS b S m i = wS b S m k)) k + 1) := by
      show upd (g.2.1 25) (wS b S m k) _ (wS b S m k) = _
      rw [upd_j, if_pos rfl]
    rw [bnd_e, bnd_e, nI_1, e3, jmax_n (by omega) (by omega)]
    have f1 : fC [] [25] [] g (tA g 25 (wS b S m k) (nI (fb_ct (fun i => decide (wS b S m i = wS b S m k)) k + 1))) := (fC.refl g).tA (by decide)
    have e4 : (if mxF (fun k => fb_ct (fun i => decide (wS b S m i = wS b S m k)) (k + 1)) k < fb_ct (fun i => decide (wS b S m i = wS b S m k)) k + 1 then fb_ct (fun i => decide (wS b S m i = wS b S m k)) k + 1 else mxF (fun k => fb_ct (fun i => decide (wS b S m i = wS b S m k)) (k + 1)) k) = mxF (fun k => fb_ct (fun i => decide (wS b S m i = wS b S m k)) (k + 1)) (k + 1) := by
      rw [mxF_s, ct_y (p := fun i => decide (wS b S m i = wS b S m k)) (decide_eq_true rfl)]
    rw [e4]
    refine (ih (k + 1) f _ (by omega) (by omega) (hL.keep f1 (by decide) (by decide)) (fun x hx => ?_)).mono ?_
    · show upd (g.2.1 25) (wS b S m k) _ x = _
      rw [upd_j]
      by_cases e5 : x = wS b S m k
      · rw [if_pos e5, e5, ct_y (p := fun i => decide (wS b S m i = wS b S m k)) (decide_eq_true rfl)]
      · rw [if_neg e5, ct_n (p := fun i => decide (wS b S m i = x)) (decide_eq_false (fun z => e5 z.symm))]
        exact h x hx
    · rintro z ⟨z1, z2⟩
      exact ⟨z1, f1.trans z2⟩
theorem cAlike_eq (hw : wfB b) {S : Nat → Bool} (h30 : seN b S ≤ 30) (hL : CLs b S (10 * bN b) g) {m : Nat} (hm : m < bN b) : Ev (fX5_mostAlike P g (nI m)) (fun z => z.1 = nI (mostA b S m) ∧ fC [] [25] [] g z.2) := by
  unfold fX5_mostAlike
  refine Ev.v (fill6_eq (0 : Int32) g) ?_
  rintro g1 ⟨h1, h2⟩
  refine (cAlike_lp hw h30 hm (seN b S) 0 fuel g1 (by omega) (by unfold fuel; omega) (hL.keep h2 (by decide) (by decide)) h1).mono ?_
  rintro z ⟨z1, z2⟩
  exact ⟨z1, h2.trans z2⟩
theorem cAsk_lp (hw : wfB b) {S : Nat → Bool} (h30 : seN b S ≤ 30) {t : AT} : ∀ d k f (g : CS), k + d = bN b → d < f → g.1 30 1 = nI (bN b) → CLs b S (10 * bN b) g → Ev (fX11_ask_34 P f g (nI (l6 (mkN (bN b) t.2.2.2))) (pm (bstF (fun m => decide (t.2.2.2 m = -1)) (mostA b S) k)) (if bstF (fun m => decide (t.2.2.2 m = -1)) (mostA b S) k = 0 then nI (seN b S + 1) else nI (mostA b S (bstF (fun m => decide (t.2.2.2 m = -1)) (mostA b S) k - 1))) (nI k)) (fun z => z.1 = Sum.inr (pm (bstF (fun m => decide (t.2.2.2 m = -1)) (mostA b S) (bN b))) ∧ fC [] [25] [] g z.2) := by
  have hn := hw.2.1
  intro d
  induction d with
  | zero =>
    intro k f g hk hf h1 hL
    obtain ⟨f, rfl⟩ : ∃ f', f = f' + 1 := ⟨f - 1, by omega⟩
    have hk : k = bN b := hk
    subst hk
    rw [fX11_ask_34, h1, if_pos (nI_le (by omega) (by omega))]
    exact ev_some.mpr ⟨rfl, fC.refl g⟩
  | succ d ih =>
    intro k f g hk hf h1 hL
    obtain ⟨f, rfl⟩ : ∃ f', f = f' + 1 := ⟨f - 1, by omega⟩
    rw [fX11_ask_34, h1, if_neg (nI_ge (by omega) (by omega)), at_l6 (fun j _ => by unfold mkN; split <;> omega) (by omega), bndv_s]
    by_cases e : t.2.2.2 k = -1
    · have hp : (fun m => decide (t.2.2.2 m = -1)) k = true := decide_eq_true e
      have em : mkN (bN b) t.2.2.2 k = 0 := if_neg (fun z => z.2 e)
      rw [em, if_pos (show nI 0 = 0 from rfl)]
      refine Ev.c (cAlike_eq hw h30 hL (show k < bN b by omega)) ?_
      rintro r g1 ⟨q1, q2⟩
      dsimp only at q1
      have hA := mostA_le b S k
      have st := ih (k + 1) f g1 (by omega) (by omega) (by rw [q2.i 30 1 (by decide)]; exact h1) (hL.keep q2 (by decide) (by decide))
      rw [q1]
      by_cases c : bstF (fun m => decide (t.2.2.2 m = -1)) (mostA b S) k = 0
      · rw [if_pos c, if_neg (nI_ge (by omega) (by omega)), nI_1, bnd_e]
        rw [bstF_y ⟨hp, Or.inl c⟩, if_neg (by omega), Nat.add_sub_cancel] at st
        exact st.mono (fun z hz => ⟨hz.1, q2.trans hz.2⟩)
      · have hA2 := mostA_le b S (bstF (fun m => decide (t.2.2.2 m = -1)) (mostA b S) k - 1)
        rw [if_neg c, iLE (by omega) (by omega)]
        by_cases c2 : mostA b S k < mostA b S (bstF (fun m => decide (t.2.2.2 m = -1)) (mostA b S) k - 1)
        · rw [if_neg (by omega), nI_1, bnd_e]
          rw [bstF_y ⟨hp, Or.inr c2⟩, if_neg (by omega), Nat.add_sub_cancel] at st
          exact st.mono (fun z hz => ⟨hz.1, q2.trans hz.2⟩)
        · rw [if_pos (by omega), nI_1, bnd_e]
          rw [bstF_n (fun z => z.2.elim c c2), if_neg c] at st
          exact st.mono (fun z hz => ⟨hz.1, q2.trans hz.2⟩)
    · have em : mkN (bN b) t.2.2.2 k = 15 := if_pos ⟨by omega, e⟩
      rw [em, if_neg (show ¬ nI 15 = 0 by decide), nI_1, bnd_e]
      have st := ih (k + 1) f g (by omega) (by omega) h1 hL
      rw [bstF_n (fun z => e (of_decide_eq_true z.1))] at st
      exact st
variable {tr : Nat → AT}
theorem cListSeen_eq (hw : wfB b) (hTs : g.1 30 7 = nI T) (hS : SB b P g 30) (hV : SV b T g) (hT : ∀ i, i < 4 → CT (tr i) i g) {i : Nat} (hi : i < 4) (ht : (tr i).1 = true) (hl : lkF tr (bN b) (nI i) = 0) : Ev (fX11_listSeen P g (nI i)) (fun z => z.1 = Sum.inr (nI (l6 (mkN (bN b) (tr i).2.2.2))) ∧ CLs b (soV b (tr i)) (10 * bN b) z.2 ∧ CRs b T g z.2) := by
  have hlk := lk_y hi ht hl
  unfold fX11_listSeen
  rw [needLook_eq hw hS hT, if_pos hl, nI_clamp (by omega), bxr]
  refine Ev.k (okT_b i hi) ?_
  rw [hS.1, mask_eq hw.2.1 (hT i hi) ht, bndc_s, hS.1, aims_eq hw.2.1 (hT i hi) ht hlk, bndc_s]
  refine Ev.v (cSeen_list hw hTs hS hV hlk) ?_
  rintro g' ⟨h1, h2⟩
  exact ev_some.mpr ⟨rfl, h1, h2⟩
theorem ev_x {ρ τ σ : Type} {f : Option ((Nat ⊕ ρ) × σ)} {k : ρ → σ → Option ((Nat ⊕ τ) × σ)} {r : ρ} {A : σ → Prop} {Q : (Nat ⊕ τ) × σ → Prop} (h : Ev f (fun z => z.1 = Sum.inr r ∧ A z.2)) (hk : ∀ s, A s → Ev (k r s) Q) : Ev (bndx f k) Q := by
  obtain ⟨⟨x, s⟩, e, h1, h2⟩ := h
  dsimp only at h1 h2
  subst h1
  rw [e, bxr]
  exact hk s h2
theorem cSeen_eq (hw : wfB b) (hTs : g.1 30 7 = nI T) (hS : SB b P g 30) (hV : SV b T g) (hT : ∀ i, i < 4 → CT (tr i) i g) {i : Nat} (hi : i < 4) (ht : (tr i).1 = true) (hl : lkF tr (bN b) (nI i) = 0) : Ev (fX11_seen P g (nI i)) (fun z => z.1 = Sum.inr (nI (seN b (soV b (tr i)))) ∧ CRs b T g z.2) := by
  unfold fX11_seen
  refine ev_x (A := fun s => CLs b (soV b (tr i)) (10 * bN b) s ∧ CRs b T g s) (cListSeen_eq hw hTs hS hV hT hi ht hl) ?_
  rintro g' ⟨h1, h2⟩
  rw [h1.1]
  exact ev_some.mpr ⟨rfl, h2⟩
theorem cListSeen_no (hw : wfB b) (hS : SB b P g 30) (hT : ∀ i, i < 4 → CT (tr i) i g) {x : Int32} (h : lkF tr (bN b) x ≠ 0) : fX11_listSeen P g x = some (Sum.inl (if trF tr x = 0 then 1 else trX (trF tr x)), g) := by
  unfold fX11_listSeen
  rw [needLook_eq hw hS hT, if_neg h, bxl]
theorem cSeen_no (hw : wfB b) (hS : SB b P g 30) (hT : ∀ i, i < 4 → CT (tr i) i g) {x : Int32} (h : lkF tr (bN b) x ≠ 0) : fX11_seen P g x = some (Sum.inl (if trF tr x = 0 then 1 else trX (trF tr x)), g) := by
  unfold fX11_seen
  rw [cListSeen_no hw hS hT h, bxl]
theorem cSeenAt_eq (hw : wfB b) (hTs : g.1 30 7 = nI T) (hS : SB b P g 30) (hV : SV b T g) (hT : ∀ i, i < 4 → CT (tr i) i g) {i : Nat} (hi : i < 4) (ht : (tr i).1 = true) (hl : lkF tr (bN b) (nI i) = 0) {y : Int32} (hy : 0 ≤ y) : Ev (fX11_seenAt P g (nI i) y) (fun z => z.1 = Sum.inr (satA b (soV b (tr i)) y) ∧ CRs b T g z.2) := by
  have hlk := lk_y hi ht hl
  have h30 := ok_le30 hw (S := soV b (tr i)) soV_ok
  unfold fX11_seenAt
  rw [needLook_eq hw hS hT, if_pos hl, nI_clamp (by omega), bxr]
  refine Ev.k (okT_b i hi) ?_
  rw [if_pos hy, hS.1, mask_eq hw.2.1 (hT i hi) ht, bndc_s, hS.1, aims_eq hw.2.1 (hT i hi) ht hlk, bndc_s]
  refine Ev.v (cSeen_list hw hTs hS hV hlk) ?_
  rintro g' ⟨r1, r3⟩
  obtain ⟨k, hk, rfl⟩ := nI_of (x := y) (fun z => by rw [fa_lt] at z; rw [fa_le] at hy; omega)
  unfold satA
  rw [r1.1, nI_clamp hk, iLE (by omega) hk]
  by_cases c : fb_ct (soV b (tr i)) (10 * bN b) ≤ k
  · rw [if_pos c, ktF_0 _ c]
    exact ev_some.mpr ⟨rfl, r3⟩
  · rw [if_neg c]
    obtain ⟨u, u1, u2, u3, u4⟩ := kt_ex (b := b) (S := soV b (tr i)) (i := k) (by unfold seN; omega)
    refine Ev.k (ib_n (by omega) (by omega)) (ev_some.mpr ⟨?_, r3⟩)
    rw [ix_n (by omega), u4, pm_s, ← (r1.2 u u1 u2).1, u3]
theorem cSeenAt_no (hw : wfB b) (hS : SB b P g 30) (hT : ∀ i, i < 4 → CT (tr i) i g) {x y : Int32} (h : lkF tr (bN b) x ≠ 0 ∨ ¬ 0 ≤ y) : fX11_seenAt P g x y = some (Sum.inl (if trF tr x = 0 then 1 else trX (trF tr x)), g) := by
  unfold fX11_seenAt
  rw [needLook_eq hw hS hT]
  by_cases h0 : lkF tr (bN b) x = 0
  · have ht0 : trF tr x = 0 := by
      unfold lkF at h0
      by_cases e : trF tr x = 0
      · exact e
      · rw [if_neg e] at h0; exact absurd h0 e
    obtain ⟨i, hi, rfl, ht⟩ := trF_0 ht0
    rw [if_pos h0, nI_clamp (by omega), bxr, chk_tt (okT_b i hi), if_neg (h.resolve_left (fun z => z h0)), if_pos ht0]
  · rw [if_neg h0, bxl]
theorem cAsk_eq (hw : wfB b) (hTs : g.1 30 7 = nI T) (hS : SB b P g 30) (hV : SV b T g) (hT : ∀ i, i < 4 → CT (tr i) i g) {i : Nat} (hi : i < 4) (ht : (tr i).1 = true) (hl : lkF tr (bN b) (nI i) = 0) : Ev (fX11_ask P g (nI i)) (fun z => z.1 = Sum.inr (pm (askA b (soV b (tr i)) (tr i))) ∧ CRs b T g z.2) := by
  have hn := hw.2.1
  have h30 := ok_le30 hw (S := soV b (tr i)) soV_ok
  unfold fX11_ask
  refine ev_x (A := fun s => CLs b (soV b (tr i)) (10 * bN b) s ∧ CRs b T g s) (cListSeen_eq hw hTs hS hV hT hi ht hl) ?_
  rintro g' ⟨h1, h2⟩
  have e : g'.1 22 2 = nI (seN b (soV b (tr i))) := h1.1
  have h30' : seN b (soV b (tr i)) ≤ 30 := h30
  rw [e, i0 (by omega)]
  unfold askA
  by_cases c : seN b (soV b (tr i)) = 0
  · rw [if_pos c, if_pos c]
    exact ev_some.mpr ⟨rfl, h2⟩
  · rw [if_neg c, if_neg c, nI_1, bnd_e]
    have st := cAsk_lp (P := P) hw h30' (t := tr i) (bN b) 0 fuel g' (by omega) (by unfold fuel; omega) (by rw [h2.2.i 30 1 (by decide)]; exact hS.1) h1
    refine st.mono ?_
    rintro z ⟨z1, z2⟩
    exact ⟨z1, h2.1.keep z2 (by decide) (by decide), h2.2.trans (z2.mono (by decide) (by decide) (by decide))⟩
theorem cAsk_no (hw : wfB b) (hS : SB b P g 30) (hT : ∀ i, i < 4 → CT (tr i) i g) {x : Int32} (h : lkF tr (bN b) x ≠ 0) : fX11_ask P g x = some (Sum.inl (if trF tr x = 0 then 1 else trX (trF tr x)), g) := by
  unfold fX11_ask
  rw [cListSeen_no hw hS hT h, bxl]
theorem cMot_lp (hw : wfB b) (hS : SB b P g 30) {S : Nat → Bool} (hSo : S = okV b) (h30 : seN b S ≤ 30) (hL : CLs b S (10 * bN b) g) {m : Nat} (hm : m < 6) : ∀ d k f, k + d = seN b S → d < f → (∀ u, u < 10 * bN b → S u = true → fb_ct S u < k → mtV b m u = false) → fX11_motion_36 P f g (nI m) (nI k) = some (Sum.inr (pm (fiF (mtV b m) (10 * bN b))), g) := by
  have e : g.1 22 2 = nI (seN b S) := hL.1
  have off : ∀ u, S u = false → mtV b m u = false := fun u h => by
    unfold mtV
    rw [← hSo, h, Bool.false_and]
  intro d
  induction d with
  | zero =>
    intro k f hk hf h
    obtain ⟨f, rfl⟩ : ∃ f', f = f' + 1 := ⟨f - 1, by omega⟩
    have hk : k = seN b S := hk
    subst hk
    rw [fX11_motion_36, e, if_pos (nI_le (by omega) (by omega)), fiF_0 _ (fun u hu => ?_)]
    · rfl
    · cases hs : S u with
      | false => exact off u hs
      | true => exact h u hu hs (ct_lt hs hu)
  | succ d ih =>
    intro k f hk hf h
    obtain ⟨f, rfl⟩ : ∃ f', f = f' + 1 := ⟨f - 1, by omega⟩
    obtain ⟨u, u1, u2, u3, u4⟩ := kt_ex (b := b) (S := S) (i := k) (by omega)
    have hc := chA_le hw (laV b u)
    obtain ⟨a1, a2⟩ := hL.at (show k < seN b S by omega)
    rw [u4, Nat.add_sub_cancel] at a1 a2
    rw [fX11_motion_36, e, if_neg (nI_ge (by omega) (by omega)), chk_tt (ib_n (by omega) (by omega)), ix_n (by omega), a2, chairOf_eq hw (laV_lk hw u) hS, bndc_s]
    by_cases c : chA b (laV b u) = m + 1
    · rw [if_pos (by rw [pm_eq (by omega) (by omega)]; exact c), chk_tt (ib_n (by omega) (by omega)), a1]
      rw [fiF_at (v := u) (by unfold mtV; rw [← hSo, u2, decide_eq_true c]; rfl) (fun w hwu => ?_) _ u1]
      · rfl
      · cases hs : S w with
        | false => exact off w hs
        | true => exact h w (by omega) hs (by have := ct_lt hs hwu; omega)
    · rw [if_neg (by rw [pm_eq (by omega) (by omega)]; exact c), nI_1, bnd_e]
      refine ih (k + 1) f (by omega) (by omega) (fun w w1 w2 w3 => ?_)
      by_cases e2 : fb_ct S w = k
      · have : w = u := fb_ct_kth_one w2 u2 (e2.trans u3.symm)
        rw [this]
        unfold mtV
        rw [decide_eq_false c, Bool.and_false]
      · exact h w w1 w2 (by omega)
theorem cMotion_eq (hw : wfB b) (hTs : g.1 30 7 = nI T) (hS : SB b P g 30) (hV : SV b T g) {m : Nat} (hm : m < bN b) : Ev (fX11_motion P g (nI m)) (fun z => z.1 = Sum.inr (mtA b m) ∧ CRs b T g z.2) := by
  have hn := hw.2.1
  have hc := chA_le hw (bA b)
  unfold fX11_motion mtA
  rw [needM_y hw hS hm, bxr, hS.2.1, chairOf_eq hw hw.2.2.1 hS, bndc_s]
  by_cases c : chA b (bA b) = m + 1
  · rw [if_pos (by rw [pm_eq (by omega) (by omega)]; exact c), if_pos c]
    exact ev_some.mpr ⟨rfl, hV, fC.refl g⟩
  · rw [if_neg (by rw [pm_eq (by omega) (by omega)]; exact c), if_neg c]
    refine Ev.v (list_eq hw hTs hS hV 0 0) ?_
    rintro g' ⟨h1, h2⟩
    have e : scV b 0 0 = okV b := by
      funext v
      unfold scV
      rw [decide_eq_true (by exact Int32.and_zero), Bool.and_true]
    rw [e] at h1
    have h30 : seN b (okV b) ≤ 30 := ok_le30 hw (S := okV b) (fun _ h => h)
    exact Ev.of (cMot_lp hw (hS.keep h2.2 snno30) rfl h30 h1 (by omega) (seN b (okV b)) 0 fuel (by omega) (by unfold fuel; omega) (fun u _ _ h => absurd h (Nat.not_lt_zero _))) ⟨rfl, h2⟩
theorem cMotion_no (hw : wfB b) (hS : SB b P g 30) {x : Int32} (h : ¬ mem (bN b) x) : fX11_motion P g x = some (Sum.inl 2, g) := by
  unfold fX11_motion
  rw [needM_n hw hS h, bxl]
end
