/-! ===== trays, images, the tape on the class's side ===== -/
section
variable {s : AS} {P : PL} {T : Nat} {g : CS}
/-- a tray changed, all else as it was -/
theorem CI.tray {g' : CS} {i : Nat} {t : AT} (h : CI s P T g) (hi : i < 4) (ht : CT t i g') (f : fC [(50 + i, 0), (50 + i, 1)] [] [60 + i] g g') : CI (stT s i t) P T g' := by
  obtain ⟨h1, h2, h3, h4, ⟨a1, a2⟩, a3, a4, a5, a6⟩ := h
  have i1 : ∀ o k, o ≠ 50 + i → g'.1 o k = g.1 o k := fun o k ho => f.i o k (by simp; omega)
  have hv : SV (qB (zQ s)) T g' := by
    rcases (show i = 0 ∨ i = 1 ∨ i = 2 ∨ i = 3 by omega) with q | q | q | q <;> subst q <;> exact h3.keep f (by decide) (by decide)
  have hc : CO (qB (zQ s)) T g' := by
    rcases (show i = 0 ∨ i = 1 ∨ i = 2 ∨ i = 3 by omega) with q | q | q | q <;> subst q <;> exact h4.keep f (by decide) (by decide)
  refine ⟨h1.same (fun k => i1 30 k (by omega)) (f.2.2.1 40 (by simp; omega)) (by rw [f.2.2.2]), by rw [i1 30 7 (by omega)]; exact h2, hv, hc, ⟨by rw [i1 0 4 (by omega)]; exact a1, fun j hj hjt => (a2 j hj hjt).same (fun k => i1 _ k (by omega)) (f.2.2.1 _ (by simp; omega)) (by rw [f.2.2.2])⟩, fun j hj => ?_, ⟨by rw [i1 0 1 (by omega)]; exact a4.1, fun k hk => by rw [f.2.1 1 (by decide)]; exact a4.2.1 k hk, by rw [i1 0 2 (by omega)]; exact a4.2.2.1, by rw [i1 0 3 (by omega)]; exact a4.2.2.2⟩, wfL.of a5 f.2.2.2, by rw [f.2.2.2]; exact a6⟩
  show CT (if j = i then t else zT s j) j g'
  by_cases e : j = i
  · rw [if_pos e, e]; exact ht
  · rw [if_neg e]
    exact (a3 j hj).same (fun k => i1 _ k (by omega)) (f.2.2.1 _ (by simp; omega))
theorem CI.tr (h : CI s P T g) : ∀ i, i < 4 → CT (zT s i) i g := h.2.2.2.2.2.1
theorem fill30 {o : Nat} : ∀ d k f (g : CS), k + d = 30 → d < f → (∀ j, j < k → g.2.2.1 (o + 10) j = 0) → Ev (fJ7_fill_d0a16_6 P f g o (0 : Int64) (nI k) (30 : Int32)) (fun g' => (∀ j, j < 30 → g'.2.2.1 (o + 10) j = 0) ∧ fC [] [] [o + 10] g g') := by
  intro d
  induction d with
  | zero =>
    intro k f g hk hf h
    obtain ⟨f, rfl⟩ : ∃ f', f = f' + 1 := ⟨f - 1, by omega⟩
    have hk : k = 30 := hk
    subst hk
    rw [fJ7_fill_d0a16_6, if_pos (by decide)]
    exact ev_some.mpr ⟨h, fC.refl g⟩
  | succ d ih =>
    intro k f g hk hf h
    obtain ⟨f, rfl⟩ : ∃ f', f = f' + 1 := ⟨f - 1, by omega⟩
    rw [fJ7_fill_d0a16_6, if_neg (show ¬ (30 : Int32) ≤ nI k from nI_ge (b := 30) (by omega) (by omega))]
    refine Ev.k (ib_n (by omega) (by omega)) ?_
    rw [bnd_e, nI_1, bnd_e, ix_n (by omega)]
    refine (ih (k + 1) f (tL g (o + 10) k 0) (by omega) (by omega) (fun j hj => ?_)).mono (fun z hz => ⟨hz.1, ((fC.refl g).tL (by simp)).trans hz.2⟩)
    rw [tL_3, if_pos rfl]
    show (if j = k then (0 : Int64) else g.2.2.1 (o + 10) j) = 0
    by_cases e : j = k
    · rw [if_pos e]
    · rw [if_neg e]; exact h j (by omega)
theorem cTray_eq (h : CI s P T g) {i so ma : Nat} (hi : i < 4) (hs : so ≤ 3) (hm : ma ≤ 30) : Ev (fX11_tray P g (nI i) (nI so) (nI ma)) (fun z => z.1 = Sum.inr () ∧ CI (stT s i (true, so, ma, fun _ => 0)) P T z.2) := by
  unfold fX11_tray fX9_clearTo fJ7_fill_d0a16
  rw [if_neg (show ¬ nI i < 0 from nI_nlt (b := 0) (by omega) (by omega)), if_pos (show nI i < (4 : Int32) from nI_lt (b := 4) hi (by omega)), if_neg (show ¬ nI so < 0 from nI_nlt (b := 0) (by omega) (by omega)), if_neg (show ¬ (3 : Int32) < nI so from nI_nlt (a := 3) (by omega) (by omega)), if_neg (show ¬ nI ma < 0 from nI_nlt (b := 0) (by omega) (by omega)), if_pos (show nI ma ≤ (30 : Int32) from nI_le (b := 30) hm (by omega))]
  refine Ev.k (ib_n hi (by omega)) ?_
  rw [bnd_e, ix_n (by omega)]
  refine Ev.k (okT_b i hi) ?_
  refine ev_bndv.mpr ?_
  rw [bnd_e, bnd_e]
  refine Ev.v (fill30 (o := 50 + i) 30 0 fuel (tI (tI g (50 + i) 1 (nI so)) (50 + i) 0 (nI ma)) (by omega) (by unfold fuel; omega) (fun j hj => absurd hj (Nat.not_lt_zero j))) ?_
  rintro g' ⟨z1, z2⟩
  have f0 : fC [(50 + i, 0), (50 + i, 1)] [] [60 + i] g (tI (tI g (50 + i) 1 (nI so)) (50 + i) 0 (nI ma)) := ((fC.refl g).tI (by simp)).tI (by simp)
  have f1 : fC [(50 + i, 0), (50 + i, 1)] [] [60 + i] g g' := f0.trans (z2.mono (by simp) (by simp) (by simp; omega))
  refine ev_some.mpr (ev_some.mpr ⟨rfl, h.tray hi (Or.inr ⟨rfl, hs, hm, ?_, ?_, fun k hk => ?_⟩) f1⟩)
  · rw [z2.i _ _ (by simp)]; exact tI_s
  · rw [z2.i _ _ (by simp), tI_n (by omega)]; exact tI_s
  · have := z1 k hk
    rw [show 50 + i + 10 = 60 + i by omega] at this
    exact this
theorem cTray_n1 {x : Int32} (hx : ¬ upTo 3 x) (y z : Int32) : fX11_tray P g x y z = some (Sum.inl 2, g) := by
  unfold fX11_tray
  by_cases h0 : x < 0
  · rw [if_pos h0]
  · rw [if_neg h0]
    obtain ⟨m, hm, rfl⟩ := nI_of h0
    rw [if_neg (show ¬ nI m < (4 : Int32) from fun w => hx ⟨m, by rw [l_4, nI_ltI hm (by omega)] at w; omega, rfl⟩)]
theorem cTray_n2 {i : Nat} (hi : i < 4) {y z : Int32} (hx : ¬ (upTo 3 y ∧ upTo 30 z)) : fX11_tray P g (nI i) y z = some (Sum.inl 1, g) := by
  unfold fX11_tray
  rw [if_neg (show ¬ nI i < 0 from nI_nlt (b := 0) (by omega) (by omega)), if_pos (show nI i < (4 : Int32) from nI_lt (b := 4) hi (by omega))]
  by_cases h0 : y < 0
  · rw [if_pos h0]
  rw [if_neg h0]
  obtain ⟨m, hm, rfl⟩ := nI_of h0
  by_cases h1 : (3 : Int32) < nI m
  · rw [if_pos h1]
  rw [if_neg h1]
  have hm3 : upTo 3 (nI m) := ⟨m, by rw [l_3, nI_ltI (by omega) hm] at h1; omega, rfl⟩
  by_cases h2 : z < 0
  · rw [if_pos h2]
  rw [if_neg h2]
  obtain ⟨k, hk, rfl⟩ := nI_of h2
  rw [if_neg (show ¬ nI k ≤ (30 : Int32) from fun w => hx ⟨hm3, ⟨k, by rw [l_30, nI_leI hk (by omega)] at w; exact w, rfl⟩⟩)]
theorem putC {t : AT} {i p : Nat} (hp : p < 30) (ht : t.1 = true) (hT : CT t i g) (v : Int64) : fX9_put P g (50 + i) (nI p) v = some (ctA t.2.1 v, tL g (60 + i) p (ctA t.2.1 v)) := by
  obtain ⟨t1, t2, t3, t4, t5⟩ := hT.on ht
  have hc : fX9_cut P g (50 + i) v = some (ctA t.2.1 v, g) := by
    unfold fX9_cut ctA
    rw [bnd_e, t4]
    rcases (show t.2.1 = 0 ∨ t.2.1 = 1 ∨ t.2.1 = 2 ∨ t.2.1 = 3 by omega) with q | q | q | q <;> rw [q] <;> rfl
  unfold fX9_put
  rw [hc, bndc_s, if_neg (show ¬ nI p < 0 from nI_nlt (b := 0) (by omega) (by omega)), if_neg (show ¬ (30 : Int32) ≤ nI p from nI_ge (b := 30) hp (by omega)), chk_tt (ib_n hp (by omega)), bnd_e, ix_n (by omega), show 50 + i + 10 = 60 + i by omega]
theorem wrC {i p : Nat} (h : CI s P T g) (hi : i < 4) (hp : p < 30) (ht : (zT s i).1 = true) (v : Int64) : CI (stT s i (wrT (zT s i) p v)) P T (tL g (60 + i) p v) := by
  obtain ⟨t1, t2, t3, t4, t5⟩ := (h.tr i hi).on ht
  refine h.tray hi (Or.inr ⟨ht, t1, t2, t3, t4, fun k hk => ?_⟩) ((fC.refl g).tL (by simp))
  rw [tL_3, if_pos rfl]
  show (if k = p then v else g.2.2.1 (60 + i) k) = (if k = p then v else (zT s i).2.2.2 k)
  by_cases e : k = p
  · rw [if_pos e, if_pos e]
  · rw [if_neg e, if_neg e]; exact t5 k hk
theorem cWrite_eq (h : CI s P T g) {i p : Nat} (hi : i < 4) (ht : (zT s i).1 = true) (hp : p < (zT s i).2.2.1) (v : Int64) : Ev (fX11_write P g (nI i) (nI p) v) (fun z => z.1 = Sum.inr (ctA (zT s i).2.1 v) ∧ CI (stT s i (wrT (zT s i) p (ctA (zT s i).2.1 v))) P T z.2) := by
  obtain ⟨t1, t2, t3, t4, t5⟩ := (h.tr i hi).on ht
  unfold fX11_write
  rw [needTray_y h.tr hi ht, bxr]
  refine Ev.k (okT_b i hi) ?_
  rw [if_neg (show ¬ nI p < 0 from nI_nlt (b := 0) (by omega) (by omega)), t3, if_pos (nI_lt hp (by omega)), putC (by omega) ht (h.tr i hi), bndc_s]
  exact ev_some.mpr ⟨rfl, wrC h hi (by omega) ht _⟩
theorem cWrite_n1 (h : CI s P T g) {x : Int32} (hx : trF (zT s) x ≠ 0) (y : Int32) (v : Int64) : fX11_write P g x y v = some (Sum.inl (trX (trF (zT s) x)), g) := by
  unfold fX11_write
  rw [needTray_n h.tr hx, bxl]
theorem cWrite_n3 (h : CI s P T g) {i : Nat} (hi : i < 4) (ht : (zT s i).1 = true) {y : Int32} (hy : ¬ ∃ p, p < (zT s i).2.2.1 ∧ y = nI p) (v : Int64) : fX11_write P g (nI i) y v = some (Sum.inl 4, g) := by
  obtain ⟨t1, t2, t3, t4, t5⟩ := (h.tr i hi).on ht
  unfold fX11_write
  rw [needTray_y h.tr hi ht, bxr, chk_tt (okT_b i hi)]
  by_cases h0 : y < 0
  · rw [if_pos h0]
  · rw [if_neg h0]
    obtain ⟨m, hm, rfl⟩ := nI_of h0
    rw [t3, if_neg (fun w => hy ⟨m, by rw [nI_ltI hm (by omega)] at w; exact w, rfl⟩)]
theorem copy43 {i M : Nat} {n : Nat} {a : Nat → Nat} (hi : i < 4) (ht : (zT s i).1 = true) (hM : M ≤ 6) (ha : ∀ j, j < 6 → a j < 16) : ∀ d k f (g : CS), k + d = M → d < f → CI (stT s i (cpT (zT s i) a k)) P T g → Ev (fX11_copy_43 P f g (50 + i) (nI (l6 a)) (nI M) (nI k)) (fun z => z.1 = Sum.inr (nI M) ∧ CI (stT s i (cpT (zT s i) a M)) P T z.2) := by
  intro d
  induction d with
  | zero =>
    intro k f g hk hf h
    obtain ⟨f, rfl⟩ : ∃ f', f = f' + 1 := ⟨f - 1, by omega⟩
    have hk : k = M := hk
    subst hk
    rw [fX11_copy_43, if_pos (nI_le (by omega) (by omega))]
    exact ev_some.mpr ⟨rfl, h⟩
  | succ d ih =>
    intro k f g hk hf h
    obtain ⟨f, rfl⟩ : ∃ f', f = f' + 1 := ⟨f - 1, by omega⟩
    obtain ⟨c1, c2, c3⟩ := cpT_s (zT s i) a k
    have hak := ha k (by omega)
    have hzt : zT (stT s i (cpT (zT s i) a k)) i = cpT (zT s i) a k := if_pos rfl
    have hTi : CT (cpT (zT s i) a k) i g := by have := h.tr i hi; rw [hzt] at this; exact this
    rw [fX11_copy_43, if_neg (nI_ge (by omega) (by omega)), at_l6 ha (by omega), bndv_s, nI_l (by omega), putC (by omega) (by rw [c1]; exact ht) hTi, bndc_s, nI_1, bnd_e, c2]
    have w := wrC (p := k) h hi (by omega) (by rw [hzt, c1]; exact ht) (ctA (zT s i).2.1 (lN (a k)))
    rw [hzt, stT_stT] at w
    exact ih (k + 1) f _ (by omega) (by omega) w
theorem cCopy_eq (hs : wfS s) (h : CI s P T g) {t r : Nat} (hR : Rho (cX (qB (zQ s))) t r) (hB : t + r ≤ 46656) {i n : Nat} (hi : i < 4) (ht : (zT s i).1 = true) (hn : n ≤ 99999) : Ev (fX11_copy P g (nI i) (nI n)) (fun z => z.1 = Sum.inr (nI (cpM s i)) ∧ CI (stT s i (cpT (zT s i) (mI (qB (zQ s)) (rep t r n)) (cpM s i))) P T z.2) := by
  have hw := hs.1.1
  have h6 := hw.2.1
  unfold fX11_copy
  rw [needTray_y h.tr hi ht, bxr]
  refine Ev.k (okT_b i hi) ?_
  rw [l_99999, needMin_y hn (by omega), bxr]
  refine Ev.c (lookIn_eq hw h.2.1 h.1.1 h.2.2.2.1 hR hB hn) ?_
  rintro v g1 ⟨q1, q2⟩
  dsimp only at q1 q2
  have h1 := h.res3 q2
  obtain ⟨t1, t2, t3, t4, t5⟩ := (h1.tr i hi).on ht
  rw [t3, h1.1.1.1, jmin_n (by omega) (by omega), bnd_e, q1]
  have hM6 : cpM s i ≤ 6 := by unfold cpM; split <;> omega
  exact copy43 (n := n) hi ht hM6 (lk16 h6 (mI_lk hw _)) (cpM s i) 0 fuel g1 (by omega) (by unfold fuel; omega) (by show CI (stT s i (zT s i)) P T g1; rw [stT_self]; exact h1)
theorem cCopy_no (h : CI s P T g) {x y : Int32} (hx : trF (zT s) x ≠ 0 ∨ ¬ upTo 99999 y) : fX11_copy P g x y = some (Sum.inl (if trF (zT s) x = 0 then 1 else trX (trF (zT s) x)), g) := by
  unfold fX11_copy
  by_cases h0 : trF (zT s) x = 0
  · obtain ⟨i, hi, rfl, ht⟩ := trF_0 h0
    rw [needTray_y h.tr hi ht, bxr, chk_tt (okT_b i hi), l_99999, needMin_n (hx.resolve_left (fun z => z h0)) (by omega), bxl, if_pos h0]
  · rw [needTray_n h.tr h0, bxl, if_neg h0]
theorem needImg_y {i : Nat} (hi : i < 3) : fX11_needImage P g (nI i) = some (Sum.inr (), g) := by
  unfold fX11_needImage
  rw [if_neg (show ¬ nI i < 0 from nI_nlt (b := 0) (by omega) (by omega)), if_pos (show nI i < (3 : Int32) from nI_lt (b := 3) hi (by omega))]
theorem needImg_n {x : Int32} (hx : ¬ upTo 2 x) : fX11_needImage P g x = some (Sum.inl 2, g) := by
  unfold fX11_needImage
  by_cases h0 : x < 0
  · rw [if_pos h0]
  · rw [if_neg h0]
    obtain ⟨m, hm, rfl⟩ := nI_of h0
    rw [if_neg (show ¬ nI m < (3 : Int32) from fun w => hx ⟨m, by rw [l_3, nI_ltI hm (by omega)] at w; omega, rfl⟩)]
theorem okS_b : ∀ i, i < 3 → okSb (32 + i) = true := by decide
theorem bs3 (p : Nat → Bool) (i : Nat) (hi : i < 3) : bs (fun j => if j = i then true else p j) 3 = bs p 3 ||| 2 ^ i := by
  have e : ∀ p : Nat → Bool, bs p 3 = (p 0).toNat + (p 1).toNat * 2 + (p 2).toNat * 4 := fun p => by
    show 0 + (p 0).toNat * 2 ^ 0 + (p 1).toNat * 2 ^ 1 + (p 2).toNat * 2 ^ 2 = _
    omega
  rw [e, e]
  rcases (show i = 0 ∨ i = 1 ∨ i = 2 by omega) with q | q | q <;> subst q <;> cases p 0 <;> cases p 1 <;> cases p 2 <;> rfl
theorem wfL.img {i : Nat} {g' : CS} (hi : i < 3) (h : wfL P g = true) (h1 : ∀ p, p ≠ 32 + i → g'.2.2.2 p = g.2.2.2 p) (h2 : g'.2.2.2 (32 + i) 8 < P.1 ∧ g'.2.2.2 (32 + i) 9 < P.1 ∧ g'.2.2.2 (32 + i) 10 < P.1) : wfL P g' = true := by
  obtain ⟨a, b, c, d, e, f⟩ := of_decide_eq_true h
  refine decide_eq_true ?_
  rw [h1 4 (by omega), h1 30 (by omega), h1 31 (by omega)]
  rcases (show i = 0 ∨ i = 1 ∨ i = 2 by omega) with q | q | q <;> subst q
  · rw [h1 33 (by omega), h1 34 (by omega)]; exact ⟨a, b, c, h2, e, f⟩
  · rw [h1 32 (by omega), h1 34 (by omega)]; exact ⟨a, b, c, d, h2, f⟩
  · rw [h1 32 (by omega), h1 33 (by omega)]; exact ⟨a, b, c, d, e, h2⟩
theorem cImage_eq (hs : wfS s) (h : CI s P T g) {i : Nat} (hi : i < 3) : Ev (fX11_image P g (nI i)) (fun z => z.1 = Sum.inr () ∧ CI (stM s i) P T z.2) := by
  unfold fX11_image
  rw [needImg_y hi, bxr]
  refine Ev.k (ib_n hi (by omega)) ?_
  rw [bnd_e, ix_n (by omega)]
  refine Ev.k (okS_b i hi) ?_
  refine Ev.v (become_eq (o := 32 + i) (p := 30) (by omega) hs.1.2.2.1 h.1) ?_
  rintro g1 ⟨z1, z2, f1, f2, f3, f4, f5⟩
  obtain ⟨h1, h2, h3, h4, ⟨a1, a2⟩, a3, a4, a5, a6⟩ := h
  have i1 : ∀ o k, o ≠ 32 + i → g1.1 o k = g.1 o k := fun o k ho => f1 o k (Or.inl ho)
  rw [bnd_e, i1 0 4 (by omega), a1, shl1 (by omega), fa_or, ← bs3 _ i hi]
  have i2 : ∀ o k, o ≠ 32 + i → o ≠ 0 → (tI g1 0 4 (nI (bs (fun j => if j = i then true else (zI s j).1) 3))).1 o k = g.1 o k := fun o k ho ho2 => by rw [tI_o ho2]; exact i1 o k ho
  have hl : wfL P g1 = true := wfL.img hi a5 (fun p hp => f4 p hp) ⟨z1.1.2.2.2.2.1.1, z1.1.2.2.2.2.2.1.1, z1.1.2.2.2.2.2.2.1⟩
  refine ev_some.mpr ⟨rfl, h1.same (fun k => i2 30 k (by omega) (by omega)) (f3 40 (by omega)) (f4 30 (by omega)), by rw [i2 30 7 (by omega) (by omega)]; exact h2, ?_, ?_, ⟨?_, fun j hj hjt => ?_⟩, fun j hj => (a3 j hj).same (fun k => i2 _ k (by omega) (by omega)) (f3 _ (by omega)), ⟨?_, fun k hk => ?_, ?_, ?_⟩, wfL.of hl rfl, ?_⟩
  · obtain ⟨m1, m2, m3, m4⟩ := h3
    refine ⟨?_, ?_, ?_, ?_⟩
    · rw [i2 12 1 (by omega) (by omega)]; exact m1.imp (fun h m hm => by rw [tI_2, f2]; exact h m hm)
    · rw [i2 17 4 (by omega) (by omega)]
      refine m2.imp (fun h => ?_)
      unfold TLm TLa
      rw [i2 17 5 (by omega) (by omega), i2 17 6 (by omega) (by omega), i2 17 7 (by omega) (by omega), i2 17 8 (by omega) (by omega), i2 17 9 (by omega) (by omega)]
      exact h
    · rw [i2 17 2 (by omega) (by omega)]
      refine m3.imp (fun h m hm => ?_)
      rw [tI_2, f2]
      exact h m hm
    · rw [i2 17 3 (by omega) (by omega)]
      refine m4.imp (fun h => ?_)
      unfold PAa
      rw [i2 17 10 (by omega) (by omega), i2 17 11 (by omega) (by omega), i2 17 12 (by omega) (by omega)]
      exact h
  · unfold CO
    rw [i2 27 1 (by omega) (by omega)]
    refine memo.imp h4 (fun h => ⟨fun t r hR hB => ?_, fun m x y hm hx hy => ?_⟩)
    · rw [i2 27 3 (by omega) (by omega), i2 27 4 (by omega) (by omega)]; exact h.1 t r hR hB
    · rw [tI_2, f2]; exact h.2 m x y hm hx hy
  · rw [tI_s]
    congr 1
    refine lnb_cong (fun j _ => ?_)
    show (if j = i then true else (zI s j).1).toNat = (if j = i then (true, zQ s) else zI s j).1.toNat
    split <;> rfl
  · have hjt : (if j = i then (true, zQ s) else zI s j).1 = true := hjt
    show SQ (if j = i then (true, zQ s) else zI s j).2 P _ (32 + j)
    by_cases e : j = i
    · rw [if_pos e, e]
      exact z1.same (fun k => by rw [tI_o (by omega)]) rfl rfl
    · rw [if_neg e] at hjt ⊢
      exact (a2 j hj hjt).same (fun k => i2 _ k (by omega) (by omega)) (f3 _ (by omega)) (f4 _ (by omega))
  · rw [tI_n (by omega), i1 0 1 (by omega)]; exact a4.1
  · rw [tI_2, f2]; exact a4.2.1 k hk
  · rw [tI_n (by omega), i1 0 2 (by omega)]; exact a4.2.2.1
  · rw [tI_n (by omega), i1 0 3 (by omega)]; exact a4.2.2.2
  · rw [tI_2, f4 4 (by omega)]; exact a6
theorem cImage_no {x : Int32} (hx : ¬ upTo 2 x) : fX11_image P g x = some (Sum.inl 2, g) := by
  unfold fX11_image
  rw [needImg_n hx, bxl]
theorem imgBit (p : Nat → Bool) {i : Nat} (hi : i < 3) : (jshr (nI (bs p 3)) (nI i) &&& (1 : Int32)) = nI (p i).toNat := by
  have hlt := bs_lt p 3
  rw [shas _ (by omega) i (by omega), bs_tb, decide_eq_true hi, Bool.true_and]
theorem cRestore_eq (hs : wfS s) (h : CI s P T g) {i : Nat} (hi : i < 3) (hm : (zI s i).1 = true) (hT : T + 1 < 2 ^ 31) : Ev (fX11_restore P g (nI i)) (fun z => z.1 = Sum.inr () ∧ CI (stQ s (zI s i).2) P (T + 1) z.2) := by
  obtain ⟨h1, h2, h3, h4, ⟨a1, a2⟩, a3, a4, a5, a6⟩ := h
  unfold fX11_restore
  rw [needImg_y hi, bxr, a1, imgBit _ hi, hm, if_neg (by decide)]
  refine Ev.k (ib_n hi (by omega)) ?_
  rw [bnd_e, ix_n (by omega)]
  refine Ev.k (okS_b i hi) ?_
  refine Ev.v (become_eq (o := 30) (p := 32 + i) (by omega) (hs.2.1 i hi hm).2.2.1 (a2 i hi hm)) ?_
  rintro g1 ⟨z1, z2, f1, f2, f3, f4, f5⟩
  have i1 : ∀ o k, o ≠ 30 → g1.1 o k = g.1 o k := fun o k ho => f1 o k (Or.inl ho)
  have kp : kpC g g1 := ⟨fun o ho k => i1 o k (by omega), by rw [f2], fun a ha => f3 a (by omega), fun o ho _ => f4 o ho⟩
  have hl : wfL P g1 = true := by
    obtain ⟨a, b, c, d, e, f⟩ := of_decide_eq_true a5
    refine decide_eq_true ?_
    rw [f4 4 (by omega), f4 31 (by omega), f4 32 (by omega), f4 33 (by omega), f4 34 (by omega)]
    exact ⟨a, ⟨z1.1.2.2.2.2.1.1, z1.1.2.2.2.2.2.1.1, z1.1.2.2.2.2.2.2.1⟩, c, d, e, f⟩
  exact ev_some.mpr ⟨rfl, z1, by rw [z2, h2, nI_1], h3.old (i1 _ _ (by omega)) (i1 _ _ (by omega)) (i1 _ _ (by omega)) (i1 _ _ (by omega)) (by omega) hT, h4.old (i1 _ _ (by omega)) (by omega) hT, CX.stQ (CX.kp ⟨⟨a1, a2⟩, a3, a4, a5, a6⟩ kp hl)⟩
theorem cRestore_n1 {x : Int32} (hx : ¬ upTo 2 x) : fX11_restore P g x = some (Sum.inl 2, g) := by
  unfold fX11_restore
  rw [needImg_n hx, bxl]
theorem cRestore_n2 (h : CI s P T g) {i : Nat} (hi : i < 3) (hm : (zI s i).1 = false) : fX11_restore P g (nI i) = some (Sum.inl 3, g) := by
  unfold fX11_restore
  rw [needImg_y hi, bxr, h.2.2.2.2.1.1, imgBit _ hi, hm, if_pos (by decide)]
end
