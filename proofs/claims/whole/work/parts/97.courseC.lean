/-! ===== the class by minutes ===== -/
theorem Rho.uni {c : Nat → Nat} {t r t' r' : Nat} (hd : ∀ i j, c i = c j → c (i + 1) = c (j + 1)) (h : Rho c t r) (h' : Rho c t' r') : t = t' ∧ r = r' := by
  have a := h.two hd h'.1 h'.2.1.symm
  have b := h'.two hd h.1 h.2.1.symm
  omega
def PC (b : AB) (g : CS) : Prop := ∀ m x y, m < bN b → x < 6 → y < 64 → g.2.1 28 ((m * 6 + x) * 64 + y) = -1 ∨ g.2.1 28 ((m * 6 + x) * 64 + y) = nI (paA b m x y)
theorem PC.keep {b : AB} {g g' : CS} {oi : List (Nat × Nat)} {la ll : List Nat} (h : PC b g) (f : fC oi la ll g g') (h1 : 28 ∉ la) : PC b g' := fun m x y hm hx hy => by rw [f.2.1 28 h1]; exact h m x y hm hx hy
def CV (b : AB) (g : CS) : Prop := (∀ t r, Rho (cX b) t r → t + r ≤ 46656 → g.1 27 3 = nI t ∧ g.1 27 4 = nI r) ∧ PC b g
def CO (b : AB) (T : Nat) (g : CS) : Prop := memo T (g.1 27 1) (CV b g)
theorem CO.keep {b : AB} {T : Nat} {g g' : CS} {oi : List (Nat × Nat)} {la ll : List Nat} (h : CO b T g) (f : fC oi la ll g g') (h1 : (27, 1) ∉ oi ∧ (27, 3) ∉ oi ∧ (27, 4) ∉ oi) (h2 : 28 ∉ la) : CO b T g' := by
  unfold CO
  rw [f.i 27 1 h1.1]
  exact h.imp (fun z => ⟨fun t r hR hB => by rw [f.i 27 3 h1.2.1, f.i 27 4 h1.2.2]; exact z.1 t r hR hB, z.2.keep f h2⟩)
abbrev coI : List (Nat × Nat) := [(10, 1), (27, 1), (27, 3), (27, 4)]
theorem cono30 : ∀ k, k ≤ 5 → ((30 : Nat), k) ∉ coI := by
  intro k _ h
  simp at h
/-- the class behind a call to its course -/
def CRc (b : AB) (T : Nat) (g g' : CS) : Prop := CO b T g' ∧ fC coI [11, 28] [] g g'
theorem b8 : ∀ v, v < 6 → (nI v).toInt8.toInt32 = nI v ∧ is8 (nI v) = true := by decide
section
variable {b : AB} {P : PL} {g : CS} {T t r : Nat} {a : Nat → Nat}
theorem paceOf_eq (hw : wfB b) (hS : SB b P g 30) (hP : PC b g) {m x y : Nat} (hm : m < bN b) (hx : x < 6) (hy : y < 64) : Ev (fX0_paceOf P g (nI m) (nI x) (nI y)) (fun z => z.1 = nI (paA b m x y) ∧ PC b z.2 ∧ fC [(10, 1)] [11, 28] [] g z.2) := by
  have hn := hw.2.1
  have hlt := paA_lt b hw m x y
  unfold fX0_paceOf fX0_paceOf_59
  rw [l_6, pk_mul, nI_add, l_64, pk_mul, nI_add, bnd_e, if_neg (show ¬ nI ((m * 6 + x) * 64 + y) < 0 from nI_nlt (b := 0) (by omega) (by omega)), if_pos (show nI ((m * 6 + x) * 64 + y) < (2304 : Int32) from nI_lt (b := 2304) (by omega) (by omega))]
  refine Ev.k (ib_n (by omega) (by omega)) ?_
  rw [ix_n (by omega)]
  by_cases c : g.2.1 28 ((m * 6 + x) * 64 + y) = -1
  · rw [if_pos c]
    refine Ev.c (pace_eq okS30 hw hS hm (by omega) (by omega)) ?_
    rintro v g1 ⟨q1, q2⟩
    dsimp only at q1
    rw [q1, (b8 _ (by omega)).1]
    refine Ev.k (ib_n (by omega) (by omega)) (Ev.k (b8 _ (by omega)).2 ?_)
    rw [bnd_e]
    refine Ev.k (ib_n (by omega) (by omega)) (ev_some.mpr ⟨?_, fun m' x' y' hm' hx' hy' => ?_, (q2.mono (by decide) (by decide) (by decide)).tA (by decide)⟩)
    · show upd (g1.2.1 28) _ _ _ = _
      rw [upd_j, if_pos rfl]
    · show upd (g1.2.1 28) _ _ _ = _ ∨ upd (g1.2.1 28) _ _ _ = _
      rw [upd_j]
      by_cases e : (m' * 6 + x') * 64 + y' = (m * 6 + x) * 64 + y
      · have e1 : m' = m := by omega
        have e2 : x' = x := by omega
        have e3 : y' = y := by omega
        rw [if_pos e, e1, e2, e3]
        exact Or.inr rfl
      · rw [if_neg e, q2.2.1 28 (by decide)]
        exact hP m' x' y' hm' hx' hy'
  · rw [if_neg c]
    refine Ev.k (ib_n (by omega) (by omega)) (ev_some.mpr ⟨?_, hP, fC.refl g⟩)
    exact (hP m x y hm hx hy).resolve_left c
theorem behM_lp (hw : wfB b) (ha : lk (bN b) a) : ∀ d k f (g : CS), k + d = bN b → d < f → SB b P g 30 → PC b g → Ev (fX0_behindMinute_15 P f g (nI (l6 a)) (lN (lnb 256 (vt b a) (bN b))) (nI (lnb 16 (byA b a) k)) (nI k)) (fun z => z.1 = nI (l6 (mnA b a)) ∧ PC b z.2 ∧ fC [(10, 1)] [11, 28] [] g z.2) := by
  have hn := hw.2.1
  have hn2 := hw.1
  have hby := fun m => byA_lt (a := a) hw m
  intro d
  induction d with
  | zero =>
    intro k f g hk hf hS hP
    obtain ⟨f, rfl⟩ : ∃ f', f = f' + 1 := ⟨f - 1, by omega⟩
    have hk : k = bN b := hk
    subst hk
    have e6 : lnb 16 (byA b a) (bN b) = l6 (byA b a) := (lnb_ext hn (fun j hj hz => if_pos hz)).symm
    rw [fX0_behindMinute_15, hS.1, if_pos (nI_le (by omega) (by omega)), e6, plus_l6 (a := a) (b := byA b a) hn2 hn (fun m hm => by have := (ha m hm).1; omega) (fun m hm => by have := hby m; omega) (fun m hm hz => ⟨(ha m hm).2 hz, if_pos hz⟩), bndv_s]
    exact ev_some.mpr ⟨rfl, hP, fC.refl g⟩
  | succ d ih =>
    intro k f g hk hf hS hP
    obtain ⟨f, rfl⟩ : ∃ f', f = f' + 1 := ⟨f - 1, by omega⟩
    rw [fX0_behindMinute_15, hS.1, if_neg (nI_ge (by omega) (by omega)), cStuck_eq hw hS (by omega), bndc_s]
    cases h1 : stk b k with
    | true =>
      rw [if_neg (by decide), nI_1, bnd_e]
      have e : lnb 16 (byA b a) (k + 1) = lnb 16 (byA b a) k := by
        show lnb 16 (byA b a) k + byA b a k * 16 ^ k = _
        rw [show byA b a k = 0 by unfold byA; rw [if_neg (by omega), h1, if_pos rfl], Nat.zero_mul, Nat.add_zero]
      have st := ih (k + 1) f g (by omega) (by omega) hS hP
      rw [e] at st
      exact st
    | false =>
      have hak := (ha k (by omega)).1
      have hv := vt_le hw a k
      rw [if_pos (by decide), at_l6 (lk16 hn ha) (by omega), bndv_s, votesAt_eq (v := vt b a) hn (fun m _ => vt_lt hw a m (bN b) hn) (show k < bN b by omega), bndv_s]
      refine Ev.c (paceOf_eq hw hS hP (show k < bN b by omega) (by omega) (by omega)) ?_
      rintro v g2 ⟨q1, q2, q3⟩
      dsimp only at q1 q2 q3
      have e : v = nI (byA b a k) := by rw [q1]; unfold byA; rw [if_neg (by omega), h1, if_neg (by decide)]
      rw [e, sh4 (by omega), or_lane (by omega) (fun j _ => by have := hby j; omega), bnd_e, nI_1, bnd_e]
      refine (ih (k + 1) f g2 (by omega) (by omega) (hS.keep q3 (no10 okS30)) q2).mono ?_
      rintro z ⟨z1, z2, z3⟩
      exact ⟨z1, z2, q3.trans z3⟩
theorem behM_eq (hw : wfB b) (ha : lk (bN b) a) (hS : SB b P g 30) (hP : PC b g) : Ev (fX0_behindMinute P g (nI (l6 a))) (fun z => z.1 = nI (l6 (mnA b a)) ∧ PC b z.2 ∧ fC [(10, 1)] [11, 28] [] g z.2) := by
  have hn := hw.2.1
  unfold fX0_behindMinute
  rw [votesIn_eq hw ha hS, bndc_s]
  exact behM_lp hw ha (bN b) 0 fuel g (by omega) (by unfold fuel; omega) hS hP
theorem set153 (hw : wfB b) (hR : Rho (cX b) t r) (hB : t + r ≤ 46656) : ∀ d k f (g : CS), k + d = t → d < f → SB b P g 30 → PC b g → g.1 27 3 = nI k → Ev (fX0_settle_153 P f g (nI (l6 (mI b k))) (nI (l6 (mI b (k + r)))) (nI k)) (fun g' => g'.1 27 3 = nI t ∧ PC b g' ∧ fC [(10, 1), (27, 3)] [11, 28] [] g g') := by
  have hr := hR.1
  intro d
  induction d with
  | zero =>
    intro k f g hk hf hS hP h3
    obtain ⟨f, rfl⟩ : ∃ f', f = f' + 1 := ⟨f - 1, by omega⟩
    have hk : k = t := hk
    subst hk
    rw [fX0_settle_153, if_neg (show ¬ (200000 : Int32) ≤ nI k from nI_ge (b := 200000) (by omega) (by omega)), if_pos ((cX_l6 hw _ _).mpr (hR.rd (cX_det hw) (Nat.le_refl _)))]
    exact ev_some.mpr ⟨h3, hP, fC.refl g⟩
  | succ d ih =>
    intro k f g hk hf hS hP h3
    obtain ⟨f, rfl⟩ : ∃ f', f = f' + 1 := ⟨f - 1, by omega⟩
    rw [fX0_settle_153, if_neg (show ¬ (200000 : Int32) ≤ nI k from nI_ge (b := 200000) (by omega) (by omega)), if_neg (fun e => by have := hR.two (cX_det hw) hr ((cX_l6 hw _ _).mp e); omega)]
    refine Ev.c (behM_eq hw (mI_lk hw k) hS hP) ?_
    rintro v g1 ⟨q1, q2, q3⟩
    dsimp only at q1 q2 q3
    have hS1 := hS.keep q3 (no10 okS30)
    refine Ev.c (behM_eq hw (mI_lk hw (k + r)) hS1 q2) ?_
    rintro v2 g2 ⟨q4, q5, q6⟩
    dsimp only at q4 q5 q6
    have e3 : g2.1 27 3 = nI k := by rw [q6.i 27 3 (by decide), q3.i 27 3 (by decide)]; exact h3
    rw [bnd_e, bnd_e, e3, nI_1, q1, q4]
    have F : fC [(10, 1), (27, 3)] [11, 28] [] g (tI g2 27 3 (nI (k + 1))) := ((q3.mono (by decide) (by decide) (by decide)).trans (q6.mono (by decide) (by decide) (by decide))).tI (by decide)
    have st := ih (k + 1) f (tI g2 27 3 (nI (k + 1))) (by omega) (by omega) (hS.keep F (by intro k _ h; simp at h)) (q5.keep (oi := [(27, 3)]) (la := []) (ll := []) ((fC.refl g2).tI (by decide)) (by decide)) tI_s
    rw [show k + 1 + r = k + r + 1 by omega] at st
    refine st.mono ?_
    rintro z ⟨z1, z2, z3⟩
    exact ⟨z1, z2, F.trans z3⟩
theorem set124 (hw : wfB b) (hR : Rho (cX b) t r) (hB : t + r ≤ 46656) : ∀ d k f (g : CS), k + d = r → d < f → SB b P g 30 → PC b g → g.1 27 4 = nI r → Ev (fX0_settle_124 P f g (nI (l6 (mI b 0))) (nI (l6 (mI b k))) (nI k)) (fun g' => g'.1 27 3 = nI t ∧ g'.1 27 4 = nI r ∧ PC b g' ∧ fC [(10, 1), (27, 3)] [11, 28] [] g g') := by
  have hr := hR.1
  intro d
  induction d with
  | zero =>
    intro k f g hk hf hS hP h4
    obtain ⟨f, rfl⟩ : ∃ f', f = f' + 1 := ⟨f - 1, by omega⟩
    have hk : k = r := hk
    subst hk
    rw [fX0_settle_124, h4, if_pos (nI_le (by omega) (by omega)), bnd_e]
    have f1 : fC [(10, 1), (27, 3)] [11, 28] [] g (tI g 27 3 0) := (fC.refl g).tI (by decide)
    have st := set153 (P := P) hw hR hB t 0 fuel (tI g 27 3 0) (by omega) (by unfold fuel; omega) (hS.keep f1 (by intro k _ h; simp at h)) (hP.keep (oi := [(27, 3)]) (la := []) (ll := []) ((fC.refl g).tI (by decide)) (by decide)) tI_s
    rw [Nat.zero_add] at st
    refine st.mono ?_
    rintro z ⟨z1, z2, z3⟩
    exact ⟨z1, by rw [z3.i 27 4 (by decide)]; exact h4, z2, f1.trans z3⟩
  | succ d ih =>
    intro k f g hk hf hS hP h4
    obtain ⟨f, rfl⟩ : ∃ f', f = f' + 1 := ⟨f - 1, by omega⟩
    rw [fX0_settle_124, h4, if_neg (nI_ge (by omega) (by omega))]
    refine Ev.c (behM_eq hw (mI_lk hw k) hS hP) ?_
    rintro v g1 ⟨q1, q2, q3⟩
    dsimp only at q1 q2 q3
    rw [q1, nI_1, bnd_e]
    refine (ih (k + 1) f g1 (by omega) (by omega) (hS.keep q3 (no10 okS30)) q2 (by rw [q3.i 27 4 (by decide)]; exact h4)).mono ?_
    rintro z ⟨z1, z2, z3, z4⟩
    exact ⟨z1, z2, z3, (q3.mono (by decide) (by decide) (by decide)).trans z4⟩
abbrev seI4 : List (Nat × Nat) := [(10, 1), (27, 3), (27, 4)]
theorem sno30 : ∀ k, k ≤ 5 → ((30 : Nat), k) ∉ seI4 := by
  intro k _ h
  simp at h
theorem brent (hw : wfB b) (hR : Rho (cX b) t r) (hB : t + r ≤ 46656) : ∀ d i f (g : CS) (s k st : Nat), i + d = 200000 → d < f → SB b P g 30 → PC b g → g.1 27 4 = nI k → 1 ≤ k → k ≤ st → s + 1 = st → i + 1 = s + k → st ≤ 93312 → (∀ k', 1 ≤ k' → k' < k → cX b s ≠ cX b (s + k')) → Ev (fX0_settle_58 P f g (nI (l6 (mI b s))) (nI (l6 (mI b (s + k)))) (nI st) (nI i)) (fun g' => g'.1 27 3 = nI t ∧ g'.1 27 4 = nI r ∧ PC b g' ∧ fC seI4 [11, 28] [] g g') := by
  have hr := hR.1
  have hd := cX_det hw
  intro d
  induction d with
  | zero =>
    intro i f g s k st hi hf hS hP h4 k1 k2 s1 i1 st1 hmin
    omega
  | succ d ih =>
    intro i f g s k st hi hf hS hP h4 k1 k2 s1 i1 st1 hmin
    obtain ⟨f, rfl⟩ : ∃ f', f = f' + 1 := ⟨f - 1, by omega⟩
    rw [fX0_settle_58, if_neg (show ¬ (200000 : Int32) ≤ nI i from nI_ge (b := 200000) (by omega) (by omega))]
    by_cases e : cX b s = cX b (s + k)
    · rw [if_pos ((cX_l6 hw _ _).mpr e)]
      obtain ⟨a1, a2⟩ := hR.two hd k1 e
      have ek : k = r := by
        by_cases c : r < k
        · exact absurd (hR.rd hd a1) (hmin r hr c)
        · omega
      rw [ek] at h4
      unfold fX0_settle_111
      rw [bnd_e, hS.2.1]
      refine (set124 hw hR hB r 0 fuel g (by omega) (by unfold fuel; omega) hS hP h4).mono ?_
      rintro z ⟨z1, z2, z3, z4⟩
      exact ⟨z1, z2, z3, z4.mono (by decide) (by decide) (by decide)⟩
    · rw [if_neg (fun z => e ((cX_l6 hw _ _).mp z)), h4, iEQ (by omega) (by omega)]
      by_cases c : k = st
      · rw [if_pos c, bnd_e, bnd_e]
        unfold fX0_settle_89
        have hst : st ≤ 46656 := by
          by_cases c2 : st ≤ 46656
          · exact c2
          · exfalso
            have hts : t ≤ s := by omega
            by_cases c3 : r < k
            · exact hmin r hr c3 (hR.rd hd hts)
            · have : r = k := by omega
              exact e (by rw [← this]; exact hR.rd hd hts)
        have f1 : fC seI4 [11, 28] [] g (tI g 27 4 0) := (fC.refl g).tI (by decide)
        refine Ev.c (behM_eq hw (mI_lk hw (s + k)) (hS.keep f1 sno30) (hP.keep (oi := [(27, 4)]) (la := []) (ll := []) ((fC.refl g).tI (by decide)) (by decide))) ?_
        rintro v g1 ⟨q1, q2, q3⟩
        dsimp only at q1 q2 q3
        have e4 : g1.1 27 4 = nI 0 := by rw [q3.i 27 4 (by decide)]; exact tI_s
        rw [bnd_e, bnd_e, e4, nI_1, nI_1, q1, l_2, pk_mul]
        have F : fC seI4 [11, 28] [] g (tI g1 27 4 (nI (0 + 1))) := (f1.trans (q3.mono (by decide) (by decide) (by decide))).tI (by decide)
        refine (ih (i + 1) f _ (s + k) 1 (st * 2) (by omega) (by omega) (hS.keep F sno30) (q2.keep (oi := [(27, 4)]) (la := []) (ll := []) ((fC.refl g1).tI (by decide)) (by decide)) tI_s (by omega) (by omega) (by omega) (by omega) (by omega) (fun k' h1 h2 => by omega)).mono ?_
        rintro z ⟨z1, z2, z3, z4⟩
        exact ⟨z1, z2, z3, F.trans z4⟩
      · rw [if_neg c]
        unfold fX0_settle_89
        refine Ev.c (behM_eq hw (mI_lk hw (s + k)) hS hP) ?_
        rintro v g1 ⟨q1, q2, q3⟩
        dsimp only at q1 q2 q3
        have e4 : g1.1 27 4 = nI k := by rw [q3.i 27 4 (by decide)]; exact h4
        rw [bnd_e, bnd_e, e4, nI_1, nI_1, q1]
        have F : fC seI4 [11, 28] [] g (tI g1 27 4 (nI (k + 1))) := (q3.mono (by decide) (by decide) (by decide)).tI (by decide)
        have st2 := ih (i + 1) f (tI g1 27 4 (nI (k + 1))) s (k + 1) st (by omega) (by omega) (hS.keep F sno30) (q2.keep (oi := [(27, 4)]) (la := []) (ll := []) ((fC.refl g1).tI (by decide)) (by decide)) tI_s (by omega) (by omega) (by omega) (by omega) (by omega) (fun k' h1 h2 => by
          by_cases e5 : k' = k
          · rw [e5]; exact e
          · exact hmin k' h1 (by omega))
        refine st2.mono ?_
        rintro z ⟨z1, z2, z3, z4⟩
        exact ⟨z1, z2, z3, F.trans z4⟩
theorem fillP : ∀ d k f (g : CS), k + d = 2304 → d < f → (∀ j, j < k → g.2.1 28 j = -1) → Ev (fJ7_fill_031fb_5 P f g (-1 : Int32) (nI k) (2304 : Int32)) (fun g' => (∀ j, j < 2304 → g'.2.1 28 j = -1) ∧ fC [] [28] [] g g') := by
  intro d
  induction d with
  | zero =>
    intro k f g hk hf h
    obtain ⟨f, rfl⟩ : ∃ f', f = f' + 1 := ⟨f - 1, by omega⟩
    have hk : k = 2304 := hk
    subst hk
    rw [fJ7_fill_031fb_5, if_pos (by decide)]
    exact ev_some.mpr ⟨h, fC.refl g⟩
  | succ d ih =>
    intro k f g hk hf h
    obtain ⟨f, rfl⟩ : ∃ f', f = f' + 1 := ⟨f - 1, by omega⟩
    rw [fJ7_fill_031fb_5, if_neg (show ¬ (2304 : Int32) ≤ nI k from nI_ge (b := 2304) (by omega) (by omega))]
    refine Ev.k (ib_n (by omega) (by omega)) (Ev.k (by decide) ?_)
    rw [bnd_e, nI_1, bnd_e, ix_n (by omega)]
    refine (ih (k + 1) f _ (by omega) (by omega) (fun j hj => ?_)).mono ?_
    · show upd (g.2.1 28) k (-1) j = -1
      rw [upd_j]
      by_cases e : j = k
      · rw [if_pos e]
      · rw [if_neg e]; exact h j (by omega)
    · rintro z ⟨z1, z2⟩
      exact ⟨z1, ((fC.refl g).tA (by decide)).trans z2⟩
theorem settle_eq (hw : wfB b) (hT : g.1 30 7 = nI T) (hS : SB b P g 30) (hC : CO b T g) (hR : Rho (cX b) t r) (hB : t + r ≤ 46656) : Ev (fX0_settle P g) (fun g' => g'.1 27 3 = nI t ∧ g'.1 27 4 = nI r ∧ PC b g' ∧ CRc b T g g') := by
  have hr := hR.1
  unfold fX0_settle
  by_cases e1 : g.1 27 1 = g.1 30 7
  · rw [if_pos e1]
    obtain ⟨c1, c2⟩ := hC.2 (e1.trans hT)
    exact ev_some.mpr ⟨(c1 t r hR hB).1, (c1 t r hR hB).2, c2, hC, fC.refl g⟩
  · rw [if_neg e1, bnd_e, hT]
    have f0 : fC coI [11, 28] [] g (tI g 27 1 (nI T)) := (fC.refl g).tI (by decide)
    refine Ev.v (fillP 2304 0 fuel (tI g 27 1 (nI T)) (by omega) (by unfold fuel; omega) (fun j hj => absurd hj (Nat.not_lt_zero j))) ?_
    rintro g1 ⟨h1, f1⟩
    have hn := hw.2.1
    have F1 : fC coI [11, 28] [] g g1 := f0.trans (f1.mono (by decide) (by decide) (by decide))
    have hS1 := hS.keep F1 cono30
    have hP1 : PC b g1 := fun m x y hm hx hy => Or.inl (h1 _ (by omega))
    rw [bnd_e, hS1.2.1]
    refine Ev.c (behM_eq hw hw.2.2.1 hS1 hP1) ?_
    rintro v g2 ⟨q1, q2, q3⟩
    dsimp only at q1 q2 q3
    rw [bnd_e, q1]
    have f2 : fC coI [11, 28] [] g (tI g2 27 4 1) := (F1.trans (q3.mono (by decide) (by decide) (by decide))).tI (by decide)
    refine (brent hw hR hB 200000 0 fuel (tI g2 27 4 1) 0 1 1 (by omega) (by unfold fuel; omega) (hS.keep f2 cono30) (q2.keep (oi := [(27, 4)]) (la := []) (ll := []) ((fC.refl g2).tI (by decide)) (by decide)) tI_s (by omega) (by omega) (by omega) (by omega) (by omega) (fun k' h1 h2 => by omega)).mono ?_
    rintro z ⟨z1, z2, z3, z4⟩
    have F : fC coI [11, 28] [] g z := f2.trans (z4.mono (by decide) (by decide) (by decide))
    have e27 : z.1 27 1 = nI T := by
      rw [z4.i 27 1 (by decide)]
      show (tI g2 27 4 1).1 27 1 = _
      rw [tI_n (by omega), q3.i 27 1 (by decide), f1.i 27 1 (by decide)]
      exact tI_s
    refine ⟨z1, z2, z3, ?_, F⟩
    unfold CO
    rw [e27]
    refine memo.new ⟨fun t' r' hR' _ => ?_, z3⟩
    obtain ⟨u1, u2⟩ := hR.uni (cX_det hw) hR'
    rw [← u1, ← u2]
    exact ⟨z1, z2⟩
theorem in52 (hw : wfB b) {n : Nat} (hn : n < 200000) : ∀ d k f (g : CS), k + d = n → d < f → SB b P g 30 → PC b g → Ev (fX0_lookIn_52 P f g (nI n) (nI (l6 (mI b k))) (nI k)) (fun z => z.1 = nI (l6 (mI b n)) ∧ PC b z.2 ∧ fC [(10, 1)] [11, 28] [] g z.2) := by
  intro d
  induction d with
  | zero =>
    intro k f g hk hf hS hP
    obtain ⟨f, rfl⟩ : ∃ f', f = f' + 1 := ⟨f - 1, by omega⟩
    have hk : k = n := hk
    subst hk
    rw [fX0_lookIn_52, if_pos (nI_le (by omega) (by omega))]
    exact ev_some.mpr ⟨rfl, hP, fC.refl g⟩
  | succ d ih =>
    intro k f g hk hf hS hP
    obtain ⟨f, rfl⟩ : ∃ f', f = f' + 1 := ⟨f - 1, by omega⟩
    rw [fX0_lookIn_52, if_neg (nI_ge (by omega) (by omega))]
    refine Ev.c (behM_eq hw (mI_lk hw k) hS hP) ?_
    rintro v g1 ⟨q1, q2, q3⟩
    dsimp only at q1 q2 q3
    rw [q1, nI_1, bnd_e]
    refine (ih (k + 1) f g1 (by omega) (by omega) (hS.keep q3 (no10 okS30)) q2).mono ?_
    rintro z ⟨z1, z2, z3⟩
    exact ⟨z1, z2, q3.trans z3⟩
/-- looks set aside leave what is known of tail and round -/
theorem CRc.more {g1 g2 : CS} (hR : Rho (cX b) t r) (h : CRc b T g g1) (hw : wfB b) (h3 : g1.1 27 3 = nI t) (h4 : g1.1 27 4 = nI r) (hP : PC b g2) (f : fC [(10, 1)] [11, 28] [] g1 g2) : CRc b T g g2 := by
  refine ⟨?_, h.2.trans (f.mono (by decide) (by decide) (by decide))⟩
  unfold CO
  rw [f.i 27 1 (by decide)]
  refine h.1.imp (fun _ => ⟨fun t' r' hR' _ => ?_, hP⟩)
  obtain ⟨u1, u2⟩ := hR.uni (cX_det hw) hR'
  rw [f.i 27 3 (by decide), f.i 27 4 (by decide), ← u1, ← u2]
  exact ⟨h3, h4⟩
theorem lookIn_eq (hw : wfB b) (hT : g.1 30 7 = nI T) (hS : SB b P g 30) (hC : CO b T g) (hR : Rho (cX b) t r) (hB : t + r ≤ 46656) {n : Nat} (hn : n ≤ 99999) : Ev (fX0_lookIn P g (nI n)) (fun z => z.1 = nI (l6 (mI b (rep t r n))) ∧ CRc b T g z.2) := by
  have hr := hR.1
  have hlt := rep_lt hR n
  unfold fX0_lookIn
  refine Ev.v (settle_eq hw hT hS hC hR hB) ?_
  rintro g1 ⟨a1, a2, a3, a4⟩
  have hS1 := hS.keep a4.2 cono30
  have fin : Ev (fX0_lookIn_40 P g1 (nI (rep t r n))) (fun z => z.1 = nI (l6 (mI b (rep t r n))) ∧ CRc b T g z.2) := by
    unfold fX0_lookIn_40
    rw [bnd_e, hS1.2.1]
    refine (in52 hw (n := rep t r n) (by omega) (rep t r n) 0 fuel g1 (by omega) (by unfold fuel; omega) hS1 a3).mono ?_
    rintro z ⟨z1, z2, z3⟩
    exact ⟨z1, a4.more hR hw a1 a2 z2 z3⟩
  rw [a1, iLT (by omega) (by omega)]
  by_cases c : n < t
  · have e : rep t r n = n := if_pos c
    rw [if_pos c]
    rw [e] at fin ⊢
    exact fin
  · rw [if_neg c, a2, if_pos (show (1 : Int32) ≤ nI r from nI_le (a := 1) hr (by omega))]
    refine Ev.k (nz_n (by omega) (by omega)) ?_
    have e : rep t r n = t + (n - t) % r := if_neg c
    rw [pk_sub (by omega), jr_n (by omega) (by omega) (by omega), nI_add, ← e]
    exact fin
theorem needMin_y {n M : Nat} (h : n ≤ M) (hM : M < 2 ^ 31) : fX11_needMinutes P g (nI n) (nI M) = some (Sum.inr (), g) := by
  unfold fX11_needMinutes
  rw [if_neg (show ¬ nI n < 0 from nI_nlt (b := 0) (by omega) (by omega)), if_pos (nI_le h hM)]
theorem needMin_n {x : Int32} {M : Nat} (h : ¬ upTo M x) (hM : M < 2 ^ 31) : fX11_needMinutes P g x (nI M) = some (Sum.inl 1, g) := by
  unfold fX11_needMinutes
  by_cases h0 : x < 0
  · rw [if_pos h0]
  · rw [if_neg h0]
    obtain ⟨m, hm, rfl⟩ := nI_of h0
    rw [if_neg (fun z => h ⟨m, by rw [nI_leI hm hM] at z; exact z, rfl⟩)]
theorem cSettles_eq (hw : wfB b) (hT : g.1 30 7 = nI T) (hS : SB b P g 30) (hC : CO b T g) (hR : Rho (cX b) t r) (hB : t + r ≤ 46656) {w : Int32} (hwh : w = 0 ∨ w = 1) : Ev (fX11_settles P g w) (fun z => z.1 = Sum.inr (if w = 0 then nI t else nI r) ∧ CRc b T g z.2) := by
  unfold fX11_settles fX11_settles_20
  rcases hwh with rfl | rfl
  · rw [if_pos rfl]
    refine Ev.v (settle_eq hw hT hS hC hR hB) ?_
    rintro g1 ⟨a1, a2, a3, a4⟩
    rw [if_pos rfl, a1]
    exact ev_some.mpr ⟨rfl, a4⟩
  · rw [if_neg (by decide), if_pos rfl]
    refine Ev.v (settle_eq hw hT hS hC hR hB) ?_
    rintro g1 ⟨a1, a2, a3, a4⟩
    rw [if_neg (by decide), a2]
    exact ev_some.mpr ⟨rfl, a4⟩
theorem cSettles_no {w : Int32} (hwh : ¬ (w = 0 ∨ w = 1)) : fX11_settles P g w = some (Sum.inl 1, g) := by
  unfold fX11_settles
  rw [if_neg (fun z => hwh (Or.inl z)), if_neg (fun z => hwh (Or.inr z))]
theorem cChairIn_eq (hw : wfB b) (hT : g.1 30 7 = nI T) (hS : SB b P g 30) (hC : CO b T g) (hR : Rho (cX b) t r) (hB : t + r ≤ 46656) {n : Nat} (hn : n ≤ 99999) : Ev (fX11_chairIn P g (nI n)) (fun z => z.1 = Sum.inr (pm (chA b (mI b (rep t r n)))) ∧ CRc b T g z.2) := by
  unfold fX11_chairIn
  rw [l_99999, needMin_y hn (by omega), bxr]
  refine Ev.c (lookIn_eq hw hT hS hC hR hB hn) ?_
  rintro v g1 ⟨q1, q2⟩
  dsimp only at q1 q2
  rw [q1, chairOf_eq hw (mI_lk hw _) (hS.keep q2.2 cono30), bndc_s]
  exact ev_some.mpr ⟨rfl, q2⟩
theorem cChairIn_no {x : Int32} (h : ¬ upTo 99999 x) : fX11_chairIn P g x = some (Sum.inl 1, g) := by
  unfold fX11_chairIn
  rw [l_99999, needMin_n h (by omega), bxl]
theorem cAimIn_eq (hw : wfB b) (hT : g.1 30 7 = nI T) (hS : SB b P g 30) (hC : CO b T g) (hR : Rho (cX b) t r) (hB : t + r ≤ 46656) {m n : Nat} (hm : m < bN b) (hn : n ≤ 99999) : Ev (fX11_aimIn P g (nI m) (nI n)) (fun z => z.1 = Sum.inr (nI (mI b (rep t r n) m)) ∧ CRc b T g z.2) := by
  have h6 := hw.2.1
  unfold fX11_aimIn
  rw [needM_y hw hS hm, bxr, l_99999, needMin_y hn (by omega), bxr]
  refine Ev.c (lookIn_eq hw hT hS hC hR hB hn) ?_
  rintro v g1 ⟨q1, q2⟩
  dsimp only at q1 q2
  rw [q1, at_l6 (lk16 h6 (mI_lk hw _)) (by omega), bndv_s]
  exact ev_some.mpr ⟨rfl, q2⟩
theorem cAimIn_n1 (hw : wfB b) (hS : SB b P g 30) {x : Int32} (h : ¬ mem (bN b) x) (y : Int32) : fX11_aimIn P g x y = some (Sum.inl 2, g) := by
  unfold fX11_aimIn
  rw [needM_n hw hS h, bxl]
theorem cAimIn_n2 (hw : wfB b) (hS : SB b P g 30) {m : Nat} (hm : m < bN b) {y : Int32} (h : ¬ upTo 99999 y) : fX11_aimIn P g (nI m) y = some (Sum.inl 1, g) := by
  unfold fX11_aimIn
  rw [needM_y hw hS hm, bxr, l_99999, needMin_n h (by omega), bxl]
theorem reign18 (hw : wfB b) (hR : Rho (cX b) t r) (hB : t + r ≤ 46656) {m n : Nat} (hm : m < 6) (hn : n ≤ 9999) : ∀ d k f (g : CS), k + d = (if n + 1 < t + r then n + 1 else t + r) → d < f → SB b P g 30 → PC b g → g.1 27 3 = nI t → g.1 27 4 = nI r → Ev (fX0_reignOf_18 P f g (nI m) (nI n) (nI (l6 (mI b k))) (nI (fb_sm (rgW (chK b m) t r n) k)) (nI k)) (fun z => z.1 = nI (fb_ct (chK b m) (n + 1)) ∧ PC b z.2 ∧ fC [(10, 1)] [11, 28] [] g z.2) := by
  have hr := hR.1
  have tot := rg_eq (p := chK b m) (t := t) hr (chK_rep hw hR m) n
  have htot : fb_ct (chK b m) (n + 1) ≤ n + 1 := fb_ct_le _ _
  have part : ∀ k, k ≤ t + r → fb_sm (rgW (chK b m) t r n) k ≤ fb_ct (chK b m) (n + 1) := fun k hk => by
    have := fb_sm_mono (rgW (chK b m) t r n) k (t + r - k)
    rw [show k + (t + r - k) = t + r by omega, ← tot] at this
    exact this
  intro d
  induction d with
  | zero =>
    intro k f g hk hf hS hP h3 h4
    obtain ⟨f, rfl⟩ : ∃ f', f = f' + 1 := ⟨f - 1, by omega⟩
    have fin : fb_sm (rgW (chK b m) t r n) k = fb_ct (chK b m) (n + 1) := by
      by_cases c : n + 1 < t + r
      · rw [if_pos c] at hk
        have hk : k = n + 1 := hk
        subst hk
        have sp := fb_sm_split (rgW (chK b m) t r n) (n + 1) (t + r - (n + 1))
        rw [show n + 1 + (t + r - (n + 1)) = t + r by omega, ← tot, fb_sm_cong (f := fun k => rgW (chK b m) t r n (n + 1 + k)) (g := fun _ => 0) (fun j _ => if_neg (fun z => by omega)), fb_sm_const, Nat.mul_zero, Nat.add_zero] at sp
        exact sp.symm
      · rw [if_neg c] at hk
        have hk : k = t + r := hk
        rw [hk, ← tot]
    rw [fX0_reignOf_18, h3, h4, nI_add, fin]
    by_cases c : n + 1 < t + r
    · rw [if_pos c] at hk
      rw [if_pos (nI_lt (by omega) (by omega))]
      exact ev_some.mpr ⟨rfl, hP, fC.refl g⟩
    · rw [if_neg c] at hk
      rw [iLT (by omega) (by omega)]
      by_cases c2 : n < k
      · rw [if_pos c2]
        exact ev_some.mpr ⟨rfl, hP, fC.refl g⟩
      · rw [if_neg c2, if_pos (nI_le (by omega) (by omega))]
        exact ev_some.mpr ⟨rfl, hP, fC.refl g⟩
  | succ d ih =>
    intro k f g hk hf hS hP h3 h4
    obtain ⟨f, rfl⟩ : ∃ f', f = f' + 1 := ⟨f - 1, by omega⟩
    have kb : k ≤ n ∧ k < t + r := by split at hk <;> omega
    have hc := chA_le hw (mI b k)
    have p1 := part k (by omega)
    have p2 := part (k + 1) (by omega)
    rw [fb_sm_succ] at p2
    rw [fX0_reignOf_18, if_neg (nI_nlt (by omega) (by omega)), h3, h4, nI_add, if_neg (nI_ge (by omega) (by omega)), chairOf_eq hw (mI_lk hw k) hS, bndc_s, h3, h4]
    have go : ∀ c : Nat, c = fb_sm (rgW (chK b m) t r n) (k + 1) → Ev (fX0_reignOf_87 P (fX0_reignOf_18 P f) g (nI m) (nI n) (nI (l6 (mI b k))) (nI c) (nI k)) (fun z => z.1 = nI (fb_ct (chK b m) (n + 1)) ∧ PC b z.2 ∧ fC [(10, 1)] [11, 28] [] g z.2) := by
      intro c hc
      unfold fX0_reignOf_87
      refine Ev.c (behM_eq hw (mI_lk hw k) hS hP) ?_
      rintro v g1 ⟨q1, q2, q3⟩
      dsimp only at q1 q2 q3
      rw [q1, nI_1, bnd_e, hc]
      refine (ih (k + 1) f g1 (by omega) (by omega) (hS.keep q3 (no10 okS30)) q2 (by rw [q3.i 27 3 (by decide)]; exact h3) (by rw [q3.i 27 4 (by decide)]; exact h4)).mono ?_
      rintro z ⟨z1, z2, z3⟩
      exact ⟨z1, z2, q3.trans z3⟩
    by_cases c : chA b (mI b k) = m + 1
    · rw [if_pos (by rw [pm_eq (by omega) (by omega)]; exact c), iLT (by omega) (by omega)]
      have hp : chK b m k = true := decide_eq_true c
      by_cases c2 : k < t
      · rw [if_pos c2]
        unfold fX0_reignOf_69 fX0_reignOf_84
        rw [nI_1, bnd_e]
        exact go _ (by rw [fb_sm_succ]; unfold rgW; rw [if_pos ⟨hp, kb.1⟩, if_pos c2])
      · rw [if_neg c2, if_pos (show (1 : Int32) ≤ nI r from nI_le (a := 1) hr (by omega))]
        refine Ev.k (nz_n (by omega) (by omega)) ?_
        unfold fX0_reignOf_84
        rw [pk_sub kb.1, pk_div (by omega) (by omega) (by omega), l_1, nI_add, nI_add, bnd_e]
        exact go _ (by rw [fb_sm_succ]; congr 1; unfold rgW; rw [if_pos ⟨hp, kb.1⟩, if_neg c2])
    · rw [if_neg (by rw [pm_eq (by omega) (by omega)]; exact c)]
      exact go _ (by
        rw [fb_sm_succ]
        unfold rgW
        rw [if_neg (show ¬ (chK b m k = true ∧ k ≤ n) from fun z => c (of_decide_eq_true z.1)), Nat.add_zero])
theorem cReign_eq (hw : wfB b) (hT : g.1 30 7 = nI T) (hS : SB b P g 30) (hC : CO b T g) {m n : Nat} (hm : m < bN b) (hn : n ≤ 9999) : Ev (fX11_reign P g (nI m) (nI n)) (fun z => z.1 = Sum.inr (nI (fb_ct (chK b m) (n + 1))) ∧ CRc b T g z.2) := by
  have h6 := hw.2.1
  obtain ⟨t, r, hR, hB⟩ := rho_b hw
  unfold fX11_reign fX0_reignOf
  rw [needM_y hw hS hm, bxr, l_9999, needMin_y hn (by omega), bxr]
  refine ev_bndc.mpr (Ev.v (settle_eq hw hT hS hC hR hB) ?_)
  rintro g1 ⟨a1, a2, a3, a4⟩
  have hS1 := hS.keep a4.2 cono30
  rw [bnd_e, hS1.2.1]
  refine (reign18 hw hR hB (m := m) (n := n) (by omega) hn (if n + 1 < t + r then n + 1 else t + r) 0 fuel g1 (by omega) (by unfold fuel; split <;> omega) hS1 a3 a1 a2).mono ?_
  rintro ⟨v, g2⟩ ⟨z1, z2, z3⟩
  dsimp only at z1 z2 z3
  rw [z1]
  exact ev_some.mpr ⟨rfl, a4.more hR hw a1 a2 z2 z3⟩
theorem cReign_n1 (hw : wfB b) (hS : SB b P g 30) {x : Int32} (h : ¬ mem (bN b) x) (y : Int32) : fX11_reign P g x y = some (Sum.inl 2, g) := by
  unfold fX11_reign
  rw [needM_n hw hS h, bxl]
theorem cReign_n2 (hw : wfB b) (hS : SB b P g 30) {m : Nat} (hm : m < bN b) {y : Int32} (h : ¬ upTo 9999 y) : fX11_reign P g (nI m) y = some (Sum.inl 1, g) := by
  unfold fX11_reign
  rw [needM_y hw hS hm, bxr, l_9999, needMin_n h (by omega), bxl]
theorem first14 (hw : wfB b) (hB : t + r ≤ 46656) {m : Nat} (hm : m < 6) : ∀ d k f (g : CS), k + d = t + r → d < f → SB b P g 30 → PC b g → g.1 27 3 = nI t → g.1 27 4 = nI r → (∀ u, u < k → chK b m u = false) → Ev (fX0_firstOf_14 P f g (nI m) (nI (l6 (mI b k))) (nI k)) (fun z => z.1 = pm (fiF (chK b m) (t + r)) ∧ PC b z.2 ∧ fC [(10, 1)] [11, 28] [] g z.2) := by
  intro d
  induction d with
  | zero =>
    intro k f g hk hf hS hP h3 h4 h
    obtain ⟨f, rfl⟩ : ∃ f', f = f' + 1 := ⟨f - 1, by omega⟩
    have hk : k = t + r := hk
    subst hk
    rw [fX0_firstOf_14, h3, h4, nI_add, if_pos (nI_le (by omega) (by omega))]
    exact ev_some.mpr ⟨by rw [fiF_0 _ h]; rfl, hP, fC.refl g⟩
  | succ d ih =>
    intro k f g hk hf hS hP h3 h4 h
    obtain ⟨f, rfl⟩ : ∃ f', f = f' + 1 := ⟨f - 1, by omega⟩
    have hc := chA_le hw (mI b k)
    rw [fX0_firstOf_14, h3, h4, nI_add, if_neg (nI_ge (by omega) (by omega)), chairOf_eq hw (mI_lk hw k) hS, bndc_s]
    by_cases c : chA b (mI b k) = m + 1
    · rw [if_pos (by rw [pm_eq (by omega) (by omega)]; exact c)]
      refine ev_some.mpr ⟨?_, hP, fC.refl g⟩
      rw [fiF_at (v := k) (decide_eq_true c) h _ (by omega)]
      rfl
    · rw [if_neg (by rw [pm_eq (by omega) (by omega)]; exact c)]
      refine Ev.c (behM_eq hw (mI_lk hw k) hS hP) ?_
      rintro v g1 ⟨q1, q2, q3⟩
      dsimp only at q1 q2 q3
      rw [q1, nI_1, bnd_e]
      refine (ih (k + 1) f g1 (by omega) (by omega) (hS.keep q3 (no10 okS30)) q2 (by rw [q3.i 27 3 (by decide)]; exact h3) (by rw [q3.i 27 4 (by decide)]; exact h4) (fun u hu => ?_)).mono ?_
      · by_cases e : u = k
        · rw [e]; exact decide_eq_false c
        · exact h u (by omega)
      · rintro z ⟨z1, z2, z3⟩
        exact ⟨z1, z2, q3.trans z3⟩
theorem cFirst_eq (hw : wfB b) (hT : g.1 30 7 = nI T) (hS : SB b P g 30) (hC : CO b T g) (hR : Rho (cX b) t r) (hB : t + r ≤ 46656) {m : Nat} (hm : m < bN b) : Ev (fX11_first P g (nI m)) (fun z => z.1 = Sum.inr (pm (fiF (chK b m) (t + r))) ∧ CRc b T g z.2) := by
  have h6 := hw.2.1
  unfold fX11_first fX0_firstOf
  rw [needM_y hw hS hm, bxr]
  refine ev_bndc.mpr (Ev.v (settle_eq hw hT hS hC hR hB) ?_)
  rintro g1 ⟨a1, a2, a3, a4⟩
  have hS1 := hS.keep a4.2 cono30
  rw [bnd_e, hS1.2.1]
  refine (first14 hw hB (m := m) (by omega) (t + r) 0 fuel g1 (by omega) (by unfold fuel; omega) hS1 a3 a1 a2 (fun u hu => absurd hu (Nat.not_lt_zero u))).mono ?_
  rintro ⟨v, g2⟩ ⟨z1, z2, z3⟩
  dsimp only at z1 z2 z3
  rw [z1]
  exact ev_some.mpr ⟨rfl, a4.more hR hw a1 a2 z2 z3⟩
theorem cFirst_no (hw : wfB b) (hS : SB b P g 30) {x : Int32} (h : ¬ mem (bN b) x) : fX11_first P g x = some (Sum.inl 2, g) := by
  unfold fX11_first
  rw [needM_n hw hS h, bxl]
end
