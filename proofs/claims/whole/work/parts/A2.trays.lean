/-! ===== trays and images on the reference's side ===== -/
theorem sL_3 (g : MS) (i j : Nat) (v : Int64) : (sL g i v).2.2 j = if j = i then v else g.2.2 j := rfl
section
variable {s : AS} {g : MS}
theorem MT.row {t : AT} {i j : Nat} {g g' : MS} (h : MT t j g) (h1 : g'.2.1 45 j = g.2.1 45 j) (h2 : g'.2.1 46 j = g.2.1 46 j) (h3 : ∀ k, k < 30 → g'.2.2 (30 * j + k) = g.2.2 (30 * j + k)) : MT t j g' := by
  rcases h with ⟨a, b⟩ | ⟨a, b, c, d, e, f⟩
  · exact Or.inl ⟨a, by rw [h1]; exact b⟩
  · exact Or.inr ⟨a, b, c, by rw [h1]; exact d, by rw [h2]; exact e, fun k hk => by rw [h3 k hk]; exact f k hk⟩
/-- a tray changed, all else as it was -/
theorem MI.tray {g' : MS} {i : Nat} {t : AT} (h : MI s g) (hi : i < 4) (ht : MT t i g') (h1 : ∀ k, (k = 6 ∨ k = 14 ∨ k = 15) → g'.1 k = g.1 k) (h2 : ∀ a, (a = 0 ∨ a = 2 ∨ a = 3 ∨ a = 5) → g'.2.1 a = g.2.1 a) (h3 : ∀ j, j < 4 → j ≠ i → g'.2.1 45 j = g.2.1 45 j ∧ g'.2.1 46 j = g.2.1 46 j ∧ ∀ k, k < 30 → g'.2.2 (30 * j + k) = g.2.2 (30 * j + k)) : MI (stT s i t) g' := by
  obtain ⟨a1, a2, a3, a4, a5, a6, a7⟩ := h
  refine ⟨by rw [h2 0 (by omega)]; exact a1, fun j hj => by rw [h2 3 (by omega), h2 2 (by omega)]; exact a2 j hj, fun j hj => ?_, by rw [h1 6 (by omega)]; exact a4, fun k hk => by rw [h2 5 (by omega)]; exact a5 k hk, by rw [h1 14 (by omega)]; exact a6, by rw [h1 15 (by omega)]; exact a7⟩
  show MT (if j = i then t else zT s j) j g'
  by_cases e : j = i
  · rw [if_pos e, e]; exact ht
  · obtain ⟨b1, b2, b3⟩ := h3 j hj e
    rw [if_neg e]
    exact (a3 j hj).row (i := i) b1 b2 b3
theorem tray69 (i : Nat) (hi : i < 4) (L0 : Nat → Int64) : ∀ d k f (g : MS), k + d = 30 → d < f → (∀ j, g.2.2 j = if 30 * i ≤ j ∧ j < 30 * i + k then 0 else L0 j) → Ev (fX12_tray_69 f g (nI i) (nI k)) (fun g' => (∀ j, g'.2.2 j = if 30 * i ≤ j ∧ j < 30 * i + 30 then 0 else L0 j) ∧ g'.1 = g.1 ∧ g'.2.1 = g.2.1) := by
  intro d
  induction d with
  | zero =>
    intro k f g hk hf h
    obtain ⟨f, rfl⟩ : ∃ f', f = f' + 1 := ⟨f - 1, by omega⟩
    have hk : k = 30 := hk
    subst hk
    rw [fX12_tray_69, if_pos (by decide)]
    exact ev_some.mpr ⟨h, rfl, rfl⟩
  | succ d ih =>
    intro k f g hk hf h
    obtain ⟨f, rfl⟩ : ∃ f', f = f' + 1 := ⟨f - 1, by omega⟩
    rw [fX12_tray_69, if_neg (show ¬ (30 : Int32) ≤ nI k from nI_ge (b := 30) (by omega) (by omega)), l_30, pk_mul, nI_add]
    refine Ev.k (ib_n (by omega) (by omega)) ?_
    rw [bnd_e, nI_1, bnd_e, ix_n (by omega)]
    refine (ih (k + 1) f _ (by omega) (by omega) (fun j => ?_)).mono (fun z hz => hz)
    rw [sL_3, h j]
    by_cases e : j = 30 * i + k
    · rw [if_pos e, if_pos (by omega)]
    · rw [if_neg e]
      by_cases e2 : 30 * i ≤ j ∧ j < 30 * i + k
      · rw [if_pos e2, if_pos (by omega)]
      · rw [if_neg e2, if_neg (by omega)]
theorem isTray_y {i : Nat} (hi : i < 4) : fX12_isTray (nI i) = some 1 := by
  have e0 : (0 : Int64).toInt = 0 := rfl
  have e1 : (3 : Int64).toInt = 3 := rfl
  unfold fX12_isTray
  rw [within_y (by rw [i64, n_toInt (by omega), e0]; omega) (by rw [i64, n_toInt (by omega), e1]; omega), bndv_s]
  rfl
theorem isTray_n {x : Int32} (h : ¬ upTo 3 x) : fX12_isTray x = some 0 := by
  have e0 : (0 : Int64).toInt = 0 := rfl
  have e1 : (3 : Int64).toInt = 3 := rfl
  unfold fX12_isTray
  rw [within_n (by rw [i64, e0, e1]; exact fun z => h (upTo_of z.1 z.2)), bndv_s]
  rfl
theorem mTray_eq (h : MI s g) {i so ma : Nat} (hi : i < 4) (hs : so ≤ 3) (hm : ma ≤ 30) : Ev (fX12_tray g (nI i) (nI so) (nI ma)) (fun g' => MI (stT s i (true, so, ma, fun _ => 0)) g' ∧ g'.1 4 = nI 0) := by
  have e0 : (0 : Int64).toInt = 0 := rfl
  have e3 : (3 : Int64).toInt = 3 := rfl
  have e30 : (30 : Int64).toInt = 30 := rfl
  unfold fX12_tray fX12_tray_41
  rw [isTray_y hi, bndv_s, if_neg (by decide), within_y (by rw [i64, n_toInt (by omega), e0]; omega) (by rw [i64, n_toInt (by omega), e3]; omega), bndv_s, if_neg (by decide), within_y (by rw [i64, n_toInt (by omega), e0]; omega) (by rw [i64, n_toInt (by omega), e30]; omega), bndv_s, if_neg (by decide), bnd_e, if_pos (show (sI g 4 (0 : Int32)).1 4 ≤ 0 from (by decide : (0 : Int32) ≤ 0))]
  refine Ev.k (ib_n (by omega) (by omega)) ?_
  rw [bnd_e]
  refine Ev.k (ib_n (by omega) (by omega)) ?_
  rw [bnd_e, ix_n (by omega)]
  refine (tray69 i hi g.2.2 30 0 fuel _ (by omega) (by unfold fuel; omega) (fun j => by rw [if_neg (by omega)]; rfl)).mono ?_
  rintro g' ⟨z1, z2, z3⟩
  refine ⟨h.tray hi ?_ (fun k hk => ?_) (fun a ha => ?_) (fun j hj hne => ⟨?_, ?_, fun k hk => ?_⟩), by rw [z2]; rfl⟩
  · refine Or.inr ⟨rfl, hs, hm, ?_, ?_, fun k hk => ?_⟩
    · rw [z3]
      show upd (g.2.1 45) i (nI so) i = _
      rw [upd_j, if_pos rfl]
    · rw [z3]
      show upd (g.2.1 46) i (nI ma) i = _
      rw [upd_j, if_pos rfl]
    · rw [z1, if_pos (by omega)]
  · rw [z2]
    show (if k = 4 then (0 : Int32) else g.1 k) = g.1 k
    rw [if_neg (by omega)]
  · rw [z3]
    rcases ha with q | q | q | q <;> subst q <;> rfl
  · rw [z3]
    show upd (g.2.1 45) i _ j = _
    rw [upd_j, if_neg hne]
  · rw [z3]
    show upd (g.2.1 46) i _ j = _
    rw [upd_j, if_neg hne]
  · rw [z1, if_neg (by omega)]
theorem MI.th (h : MI s g) (v : Int32) : MI s (sI g 4 v) := ⟨h.1, h.2.1, fun i hi => (h.2.2.1 i hi).keep (kpM.th g v), h.2.2.2⟩
theorem mTray_n1 (h : MI s g) {x : Int32} (hx : ¬ upTo 3 x) (y z : Int32) : Ev (fX12_tray g x y z) (fun g' => MI s g' ∧ g'.1 4 = nI 1) := by
  unfold fX12_tray fX12_tray_41
  rw [isTray_n hx, bndv_s, if_pos rfl, bnd_e, if_neg (show ¬ (sI g 4 (1 : Int32)).1 4 ≤ 0 from (by decide : ¬ (1 : Int32) ≤ 0))]
  exact ev_some.mpr ⟨h.th 1, rfl⟩
theorem mTray_n2 (h : MI s g) {i : Nat} (hi : i < 4) {y z : Int32} (hx : ¬ (upTo 3 y ∧ upTo 30 z)) : Ev (fX12_tray g (nI i) y z) (fun g' => MI s g' ∧ g'.1 4 = nI 2) := by
  have e0 : (0 : Int64).toInt = 0 := rfl
  have e3 : (3 : Int64).toInt = 3 := rfl
  have e30 : (30 : Int64).toInt = 30 := rfl
  unfold fX12_tray fX12_tray_36 fX12_tray_41
  rw [isTray_y hi, bndv_s, if_neg (by decide)]
  by_cases c : 0 ≤ y.toInt ∧ y.toInt ≤ 3
  · rw [within_y (by rw [i64, e0]; exact c.1) (by rw [i64, e3]; exact c.2), bndv_s, if_neg (by decide), within_n (by rw [i64, e0, e30]; exact fun w => hx ⟨upTo_of c.1 c.2, upTo_of w.1 w.2⟩), bndv_s, if_pos rfl, bnd_e, if_neg (show ¬ (sI g 4 (2 : Int32)).1 4 ≤ 0 from (by decide : ¬ (2 : Int32) ≤ 0))]
    exact ev_some.mpr ⟨h.th 2, rfl⟩
  · rw [within_n (by rw [i64]; exact c), bndv_s, if_pos rfl, bnd_e, if_neg (show ¬ (sI g 4 (2 : Int32)).1 4 ≤ 0 from (by decide : ¬ (2 : Int32) ≤ 0))]
    exact ev_some.mpr ⟨h.th 2, rfl⟩
/-- a tray with v at place p -/
def wrT (t : AT) (p : Nat) (v : Int64) : AT := (t.1, t.2.1, t.2.2.1, fun k => if k = p then v else t.2.2.2 k)
theorem cutM {t : AT} {i p : Nat} (hi : i < 4) (hp : p < 30) (ht : t.1 = true) (hT : MT t i g) (v : Int64) : fX12_cut g (nI i) (nI p) v = some (ctA t.2.1 v, sL g (30 * i + p) (ctA t.2.1 v)) := by
  obtain ⟨t1, t2, t3, t4, t5⟩ := hT.on ht
  unfold fX12_cut
  rw [chk_tt (ib_n hi (by omega)), ix_n (by omega), t3, bnd_e, cut_eq t1, l_30, pk_mul, nI_add, chk_tt (ib_n (by omega) (by omega)), ix_n (by omega), bnd_e, chk_tt (ib_n (by omega) (by omega)), sL_3, if_pos rfl]
theorem wrM {i p : Nat} (h : MI s g) (hi : i < 4) (hp : p < 30) (ht : (zT s i).1 = true) (v : Int64) : MI (stT s i (wrT (zT s i) p v)) (sL g (30 * i + p) v) := by
  obtain ⟨t1, t2, t3, t4, t5⟩ := (h.2.2.1 i hi).on ht
  refine h.tray hi (Or.inr ⟨ht, t1, t2, t3, t4, fun k hk => ?_⟩) (fun _ _ => rfl) (fun _ _ => rfl) (fun j hj hne => ⟨rfl, rfl, fun k hk => ?_⟩)
  · rw [sL_3]
    show _ = (if k = p then v else (zT s i).2.2.2 k)
    by_cases e : k = p
    · rw [if_pos e, if_pos (by omega)]
    · rw [if_neg e, if_neg (by omega)]; exact t5 k hk
  · rw [sL_3, if_neg (by omega)]
theorem mWrite_eq (h : MI s g) {i p : Nat} (hi : i < 4) (ht : (zT s i).1 = true) (hp : p < (zT s i).2.2.1) (v : Int64) : Ev (fX12_write g (nI i) (nI p) v) (fun z => z.1 = ctA (zT s i).2.1 v ∧ MI (stT s i (wrT (zT s i) p (ctA (zT s i).2.1 v))) z.2 ∧ z.2.1 4 = nI 0) := by
  obtain ⟨t1, t2, t3, t4, t5⟩ := (h.2.2.1 i hi).on ht
  have h0 : trF (zT s) (nI i) = 0 := by unfold trF; rw [n_toInt (by omega), if_pos (by omega), nI_clamp (by omega), ht, if_pos rfl]
  have e0 : (0 : Int64).toInt = 0 := rfl
  unfold fX12_write
  rw [trayFault_eq h.2.2.1, bndc_s, h0, bnd_e, if_pos (show (sI g 4 (nI 0)).1 4 ≤ 0 from (by decide : (0 : Int32) ≤ 0))]
  refine Ev.k (ib_n (by omega) (by omega)) ?_
  have e46 : (sI g 4 (nI 0)).2.1 46 (ix (nI i)) = nI (zT s i).2.2.1 := by rw [ix_n (by omega)]; exact t4
  rw [e46, l_1, pk_sub (by omega), within_y (by rw [i64, n_toInt (by omega), e0]; omega) (by rw [i64, i64, n_toInt (by omega), n_toInt (by omega)]; omega), bndv_s, if_neg (by decide), cutM (g := sI g 4 (nI 0)) hi (by omega) ht ((h.th (nI 0)).2.2.1 i hi) v, bndc_s]
  exact ev_some.mpr ⟨rfl, wrM (h.th (nI 0)) hi (by omega) ht _, rfl⟩
theorem mWrite_n1 (h : MI s g) {x : Int32} (hx : trF (zT s) x ≠ 0) (y : Int32) (v : Int64) : Ev (fX12_write g x y v) (fun z => MI s z.2 ∧ z.2.1 4 = nI (trF (zT s) x)) := by
  have hle := trF_le (zT s) x
  unfold fX12_write
  rw [trayFault_eq h.2.2.1, bndc_s, bnd_e, if_neg (show ¬ (sI g 4 (nI (trF (zT s) x))).1 4 ≤ 0 from nI_nle0 (by omega) (by omega))]
  exact ev_some.mpr ⟨h.th _, rfl⟩
theorem mWrite_n3 (h : MI s g) {i : Nat} (hi : i < 4) (ht : (zT s i).1 = true) {y : Int32} (hy : ¬ ∃ p, p < (zT s i).2.2.1 ∧ y = nI p) (v : Int64) : Ev (fX12_write g (nI i) y v) (fun z => MI s z.2 ∧ z.2.1 4 = nI 3) := by
  obtain ⟨t1, t2, t3, t4, t5⟩ := (h.2.2.1 i hi).on ht
  have h0 : trF (zT s) (nI i) = 0 := by unfold trF; rw [n_toInt (by omega), if_pos (by omega), nI_clamp (by omega), ht, if_pos rfl]
  have e0 : (0 : Int64).toInt = 0 := rfl
  have e00 : (0 : Int32).toInt = 0 := rfl
  have e1 : (1 : Int32).toInt = 1 := rfl
  unfold fX12_write fX12_fails
  rw [trayFault_eq h.2.2.1, bndc_s, h0, bnd_e, if_pos (show (sI g 4 (nI 0)).1 4 ≤ 0 from (by decide : (0 : Int32) ≤ 0))]
  refine Ev.k (ib_n (by omega) (by omega)) ?_
  have e46 : (sI g 4 (nI 0)).2.1 46 (ix (nI i)) = nI (zT s i).2.2.1 := by rw [ix_n (by omega)]; exact t4
  rw [e46, within_n (by
    rw [i64, i64, e0, fb_subI (by rw [n_toInt (by omega), e1]; omega) (by rw [n_toInt (by omega), e1]; omega), n_toInt (by omega), e1]
    intro w
    obtain ⟨m, hm, rfl⟩ := nI_of (x := y) (by rw [fa_lt]; omega)
    rw [n_toInt hm] at w
    exact hy ⟨m, by omega, rfl⟩), bndv_s, if_pos rfl, bnd_e, bndc_s]
  exact ev_some.mpr ⟨(h.th _).th _, rfl⟩
/-- a look laid into a tray -/
def cpT (t : AT) (a : Nat → Nat) : Nat → AT
  | 0 => t
  | k + 1 => wrT (cpT t a k) k (ctA t.2.1 (lN (a k)))
theorem cpT_s (t : AT) (a : Nat → Nat) : ∀ k, (cpT t a k).1 = t.1 ∧ (cpT t a k).2.1 = t.2.1 ∧ (cpT t a k).2.2.1 = t.2.2.1
  | 0 => ⟨rfl, rfl, rfl⟩
  | k + 1 => cpT_s t a k
theorem stT_stT (s : AS) (i : Nat) (t t' : AT) : stT (stT s i t) i t' = stT s i t' := by
  unfold stT
  congr 3
  funext j
  show (if j = i then t' else (if j = i then t else zT s j)) = _
  by_cases e : j = i
  · rw [if_pos e, if_pos e]
  · rw [if_neg e, if_neg e, if_neg e]
theorem stT_self (s : AS) (i : Nat) : stT s i (zT s i) = s := by
  have e : (fun j => if j = i then zT s i else zT s j) = zT s := by
    funext j
    by_cases h : j = i
    · rw [if_pos h, h]
    · rw [if_neg h]
  unfold stT
  rw [e]
theorem copy59 {i M : Nat} {b : AB} {a : Nat → Nat} (hi : i < 4) (ht : (zT s i).1 = true) (hM : M ≤ 6) (hMn : M ≤ bN b) : ∀ d k f (g : MS), k + d = M → d < f → MI (stT s i (cpT (zT s i) a k)) g → AR (bN b) a g → (∀ m, m < 6 → a m < 2 ^ 31) → Ev (fX12_copy_59 f g (nI i) (nI M) (nI k)) (fun z => z.1 = nI M ∧ MI (stT s i (cpT (zT s i) a M)) z.2 ∧ z.2.1 4 = g.1 4) := by
  intro d
  induction d with
  | zero =>
    intro k f g hk hf h hA ha
    obtain ⟨f, rfl⟩ : ∃ f', f = f' + 1 := ⟨f - 1, by omega⟩
    have hk : k = M := hk
    subst hk
    rw [fX12_copy_59, if_pos (nI_le (by omega) (by omega))]
    exact ev_some.mpr ⟨rfl, h, rfl⟩
  | succ d ih =>
    intro k f g hk hf h hA ha
    obtain ⟨f, rfl⟩ : ∃ f', f = f' + 1 := ⟨f - 1, by omega⟩
    obtain ⟨c1, c2, c3⟩ := cpT_s (zT s i) a k
    have hzt : zT (stT s i (cpT (zT s i) a k)) i = cpT (zT s i) a k := if_pos rfl
    have hTi : MT (cpT (zT s i) a k) i g := by have := h.2.2.1 i hi; rw [hzt] at this; exact this
    rw [fX12_copy_59, if_neg (nI_ge (by omega) (by omega))]
    refine Ev.k (ib_n (by omega) (by omega)) ?_
    rw [ix_n (by omega), hA k (by omega), nI_l (ha k (by omega)), cutM hi (by omega) (by rw [c1]; exact ht) hTi, bndc_s, nI_1, bnd_e, c2]
    have w := wrM (p := k) h hi (by omega) (by rw [hzt, c1]; exact ht) (ctA (zT s i).2.1 (lN (a k)))
    rw [hzt, stT_stT] at w
    exact ih (k + 1) f _ (by omega) (by omega) w hA ha
theorem MI.cal {g' : MS} (h : MI s g) (f : fM [40, 41] (39 :: miL) g g') : MI s g' ∧ g'.1 4 = g.1 4 := ⟨(h.res (q' := zQ s) (th := 0) (g' := sI g' 4 0) ⟨by show KQ _ (g'.2.1 0); rw [f.row 0 (by decide)]; exact h.1, rfl, (kpM.of f (by decide) (by decide)).trans (kpM.th g' 0)⟩).1.th (g'.1 4) |> fun z => by
    have e : sI (sI g' 4 0) 4 (g'.1 4) = g' := by
      refine Prod.ext ?_ rfl
      funext k
      show (if k = 4 then g'.1 4 else (if k = 4 then 0 else g'.1 k)) = g'.1 k
      by_cases e : k = 4
      · rw [if_pos e, e]
      · rw [if_neg e, if_neg e]
    rw [e] at z
    exact z, f.1 4 (by decide)⟩
def cpM (s : AS) (i : Nat) : Nat := if bN (qB (zQ s)) < (zT s i).2.2.1 then bN (qB (zQ s)) else (zT s i).2.2.1
theorem mCopy_eq (hs : wfS s) (h : MI s g) {t r : Nat} (hR : Rho (cX (qB (zQ s))) t r) (hB : t + r ≤ 46656) {i n : Nat} (hi : i < 4) (ht : (zT s i).1 = true) (hn : n ≤ 99999) : Ev (fX12_copy g (nI i) (nI n)) (fun z => z.1 = nI (cpM s i) ∧ MI (stT s i (cpT (zT s i) (mI (qB (zQ s)) (rep t r n)) (cpM s i))) z.2 ∧ z.2.1 4 = nI 0) := by
  have hw := hs.1.1
  have h6 := hw.2.1
  have h0 : trF (zT s) (nI i) = 0 := by unfold trF; rw [n_toInt (by omega), if_pos (by omega), nI_clamp (by omega), ht, if_pos rfl]
  unfold fX12_copy fX12_copy_28
  rw [trayFault_eq h.2.2.1, bndc_s, h0, bnd_e, if_pos (show (sI g 4 (nI 0)).1 4 = 0 from rfl), isFar_y hn, bndv_s, if_neg (by decide), if_pos (show (sI g 4 (nI 0)).1 4 ≤ 0 from (by decide : (0 : Int32) ≤ 0))]
  refine Ev.v (aimsIn_eq hw hR hB (g := sI g 4 (nI 0)) h.1.1 hn) ?_
  rintro g1 ⟨a1, a2⟩
  obtain ⟨m1, m2⟩ := (h.th (nI 0)).cal a2
  obtain ⟨t1, t2, t3, t4, t5⟩ := (m1.2.2.1 i hi).on ht
  refine Ev.k (ib_n (by omega) (by omega)) ?_
  rw [size_eq m1.1.1, bndc_s, ix_n (by omega), t4, jmin_n (by omega) (by omega), bnd_e]
  have hM6 : cpM s i ≤ 6 := by unfold cpM; split <;> omega
  have hMn : cpM s i ≤ bN (qB (zQ s)) := by unfold cpM; split <;> omega
  refine (copy59 hi ht hM6 hMn (cpM s i) 0 fuel g1 (by omega) (by unfold fuel; omega) (by show MI (stT s i (zT s i)) g1; rw [stT_self]; exact m1) a1 (fun m hm => by have := (mI_lk hw (rep t r n) m hm).1; omega)).mono ?_
  rintro z ⟨z1, z2, z3⟩
  exact ⟨z1, z2, by rw [z3, m2]; rfl⟩
theorem mCopy_no (h : MI s g) {x y : Int32} (hx : trF (zT s) x ≠ 0 ∨ ¬ upTo 99999 y) : Ev (fX12_copy g x y) (fun z => MI s z.2 ∧ z.2.1 4 = nI (if trF (zT s) x = 0 then 3 else trF (zT s) x)) := by
  have hle := trF_le (zT s) x
  unfold fX12_copy fX12_copy_28
  rw [trayFault_eq h.2.2.1, bndc_s, bnd_e]
  by_cases h0 : trF (zT s) x = 0
  · rw [h0, if_pos (show (sI g 4 (nI 0)).1 4 = 0 from rfl), isFar_n (hx.resolve_left (fun z => z h0)), bndv_s, if_pos rfl, bnd_e, if_neg (show ¬ (sI (sI g 4 (nI 0)) 4 (3 : Int32)).1 4 ≤ 0 from (by decide : ¬ (3 : Int32) ≤ 0)), if_pos rfl]
    exact ev_some.mpr ⟨(h.th _).th _, rfl⟩
  · rw [if_neg (show ¬ (sI g 4 (nI (trF (zT s) x))).1 4 = 0 from nI_ne0 (by omega) (by omega)), if_neg (show ¬ (sI g 4 (nI (trF (zT s) x))).1 4 ≤ 0 from nI_nle0 (by omega) (by omega)), if_neg h0]
    exact ev_some.mpr ⟨h.th _, rfl⟩
/-! images -/
theorem image38 (i : Nat) (hi : i < 3) (k0 r0 : Nat → Int32) : ∀ d k f (g : MS), k + d = 2850 → d < f → g.2.1 0 = k0 → (∀ j, g.2.1 2 j = if 2850 * i ≤ j ∧ j < 2850 * i + k then k0 (j - 2850 * i) else r0 j) → Ev (fX12_image_38 f g (nI i) (nI k)) (fun g' => (∀ j, g'.2.1 2 j = if 2850 * i ≤ j ∧ j < 2850 * i + 2850 then k0 (j - 2850 * i) else r0 j) ∧ fM [] [2] g g') := by
  intro d
  induction d with
  | zero =>
    intro k f g hk hf h0 h
    obtain ⟨f, rfl⟩ : ∃ f', f = f' + 1 := ⟨f - 1, by omega⟩
    have hk : k = 2850 := hk
    subst hk
    rw [fX12_image_38, if_pos (by decide)]
    exact ev_some.mpr ⟨h, fM.refl g⟩
  | succ d ih =>
    intro k f g hk hf h0 h
    obtain ⟨f, rfl⟩ : ∃ f', f = f' + 1 := ⟨f - 1, by omega⟩
    rw [fX12_image_38, if_neg (show ¬ (2850 : Int32) ≤ nI k from nI_ge (b := 2850) (by omega) (by omega)), l_2850, pk_mul, nI_add]
    refine Ev.k (ib_n (by omega) (by omega)) (Ev.k (ib_n (by omega) (by omega)) ?_)
    rw [bnd_e, nI_1, bnd_e, ix_n (by omega), ix_n (by omega), h0]
    refine (ih (k + 1) f (sA g 2 (2850 * i + k) (k0 k)) (by omega) (by omega) h0 (fun j => ?_)).mono (fun z hz => ⟨hz.1, ((fM.refl g).sA (by decide)).trans hz.2⟩)
    show upd (g.2.1 2) (2850 * i + k) _ j = _
    rw [upd_j, h j]
    by_cases e : j = 2850 * i + k
    · rw [if_pos e, if_pos (by omega)]
      congr 1
      omega
    · rw [if_neg e]
      by_cases e2 : 2850 * i ≤ j ∧ j < 2850 * i + k
      · rw [if_pos e2, if_pos (by omega)]
      · rw [if_neg e2, if_neg (by omega)]
theorem mImage_eq (hs : wfS s) (h : MI s g) {i : Nat} (hi : i < 3) : Ev (fX12_image g (nI i)) (fun g' => MI (stM s i) g' ∧ g'.1 4 = nI 0) := by
  have e0 : (0 : Int64).toInt = 0 := rfl
  have e2 : (2 : Int64).toInt = 2 := rfl
  unfold fX12_image fX12_image_18
  rw [within_y (by rw [i64, n_toInt (by omega), e0]; omega) (by rw [i64, n_toInt (by omega), e2]; omega), bndv_s, if_neg (by decide), bnd_e, if_pos (show (sI g 4 (0 : Int32)).1 4 ≤ 0 from (by decide : (0 : Int32) ≤ 0))]
  refine Ev.k (ib_n hi (by omega)) ?_
  rw [bnd_e, ix_n (by omega)]
  refine (image38 i hi (g.2.1 0) (g.2.1 2) 2850 0 fuel (sA (sI g 4 0) 3 i 1) (by omega) (by unfold fuel; omega) rfl (fun j => by rw [if_neg (by omega)]; rfl)).mono ?_
  rintro g' ⟨z1, z2⟩
  obtain ⟨a1, a2, a3, a4, a5, a6, a7⟩ := h
  have r3 : g'.2.1 3 = upd (g.2.1 3) i 1 := z2.row 3 (by decide)
  refine ⟨⟨by rw [z2.row 0 (by decide)]; exact a1, fun j hj => ?_, fun j hj => ?_, by rw [z2.1 6 (by decide)]; exact a4, fun k hk => by rw [z2.row 5 (by decide)]; exact a5 k hk, by rw [z2.1 14 (by decide)]; exact a6, by rw [z2.1 15 (by decide)]; exact a7⟩, by rw [z2.1 4 (by decide)]; rfl⟩
  · show g'.2.1 3 j = nI (if j = i then (true, zQ s) else zI s j).1.toNat ∧ ((if j = i then (true, zQ s) else zI s j).1 = true → KQ (if j = i then (true, zQ s) else zI s j).2 (fun k => g'.2.1 2 (2850 * j + k)))
    rw [r3, upd_j]
    by_cases e : j = i
    · rw [if_pos e, if_pos e]
      refine ⟨rfl, fun _ => a1.cong hs.1 (fun k hk => ?_)⟩
      show g'.2.1 2 (2850 * j + k) = _
      rw [z1, if_pos (by omega), e, Nat.add_sub_cancel_left]
    · rw [if_neg e, if_neg e]
      refine ⟨(a2 j hj).1, fun ht => ((a2 j hj).2 ht).cong (hs.2.1 j hj ht) (fun k hk => ?_)⟩
      show g'.2.1 2 (2850 * j + k) = _
      rw [z1, if_neg (by omega)]
  · exact (a3 j hj).row (i := i) (by rw [z2.row 45 (by decide)]; rfl) (by rw [z2.row 46 (by decide)]; rfl) (fun k hk => by rw [z2.2.2]; rfl)
theorem mImage_no (h : MI s g) {x : Int32} (hx : ¬ upTo 2 x) : Ev (fX12_image g x) (fun g' => MI s g' ∧ g'.1 4 = nI 1) := by
  have e0 : (0 : Int64).toInt = 0 := rfl
  have e2 : (2 : Int64).toInt = 2 := rfl
  unfold fX12_image fX12_image_18
  rw [within_n (by rw [i64, e0, e2]; exact fun w => hx (upTo_of w.1 w.2)), bndv_s, if_pos rfl, bnd_e, if_neg (show ¬ (sI g 4 (1 : Int32)).1 4 ≤ 0 from (by decide : ¬ (1 : Int32) ≤ 0))]
  exact ev_some.mpr ⟨h.th 1, rfl⟩
theorem restore44 (i : Nat) (hi : i < 3) (r0 : Nat → Int32) : ∀ d k f (g : MS), k + d = 2850 → d < f → g.2.1 2 = r0 → (∀ j, j < k → g.2.1 0 j = r0 (2850 * i + j)) → Ev (fX12_restore_44 f g (nI i) (nI k)) (fun g' => (∀ j, j < 2850 → g'.2.1 0 j = r0 (2850 * i + j)) ∧ fM [] [0] g g') := by
  intro d
  induction d with
  | zero =>
    intro k f g hk hf h0 h
    obtain ⟨f, rfl⟩ : ∃ f', f = f' + 1 := ⟨f - 1, by omega⟩
    have hk : k = 2850 := hk
    subst hk
    rw [fX12_restore_44, if_pos (by decide)]
    exact ev_some.mpr ⟨h, fM.refl g⟩
  | succ d ih =>
    intro k f g hk hf h0 h
    obtain ⟨f, rfl⟩ : ∃ f', f = f' + 1 := ⟨f - 1, by omega⟩
    rw [fX12_restore_44, if_neg (show ¬ (2850 : Int32) ≤ nI k from nI_ge (b := 2850) (by omega) (by omega)), l_2850, pk_mul, nI_add]
    refine Ev.k (ib_n (by omega) (by omega)) (Ev.k (ib_n (by omega) (by omega)) ?_)
    rw [bnd_e, nI_1, bnd_e, ix_n (by omega), ix_n (by omega), h0]
    refine (ih (k + 1) f (sA g 0 k (r0 (2850 * i + k))) (by omega) (by omega) h0 (fun j hj => ?_)).mono (fun z hz => ⟨hz.1, ((fM.refl g).sA (by decide)).trans hz.2⟩)
    show upd (g.2.1 0) k _ j = _
    rw [upd_j]
    by_cases e : j = k
    · rw [if_pos e, e]
    · rw [if_neg e]; exact h j (by omega)
theorem mRestore_eq (hs : wfS s) (h : MI s g) {i : Nat} (hi : i < 3) (hm : (zI s i).1 = true) : Ev (fX12_restore g (nI i)) (fun g' => MI (stQ s (zI s i).2) g' ∧ g'.1 4 = nI 0) := by
  have e0 : (0 : Int64).toInt = 0 := rfl
  have e2 : (2 : Int64).toInt = 2 := rfl
  obtain ⟨b1, b2⟩ := h.2.1 i hi
  rw [hm] at b1
  unfold fX12_restore fX12_restore_31
  rw [within_y (by rw [i64, n_toInt (by omega), e0]; omega) (by rw [i64, n_toInt (by omega), e2]; omega), bndv_s, if_neg (by decide)]
  refine Ev.k (ib_n hi (by omega)) ?_
  rw [ix_n (by omega), b1, if_neg (by decide), bnd_e, if_pos (show (sI g 4 (0 : Int32)).1 4 ≤ 0 from (by decide : (0 : Int32) ≤ 0))]
  refine (restore44 i hi (g.2.1 2) 2850 0 fuel (sI g 4 0) (by omega) (by unfold fuel; omega) rfl (fun j hj => absurd hj (Nat.not_lt_zero j))).mono ?_
  rintro g' ⟨z1, z2⟩
  exact h.res ⟨(b2 hm).cong (hs.2.1 i hi hm) z1, by rw [z2.1 4 (by decide)]; rfl, (kpM.th g 0).trans (kpM.of z2 (by decide) (by decide))⟩
theorem mRestore_n1 (h : MI s g) {x : Int32} (hx : ¬ upTo 2 x) : Ev (fX12_restore g x) (fun g' => MI s g' ∧ g'.1 4 = nI 1) := by
  have e0 : (0 : Int64).toInt = 0 := rfl
  have e2 : (2 : Int64).toInt = 2 := rfl
  unfold fX12_restore fX12_restore_31
  rw [within_n (by rw [i64, e0, e2]; exact fun w => hx (upTo_of w.1 w.2)), bndv_s, if_pos rfl, bnd_e, if_neg (show ¬ (sI g 4 (1 : Int32)).1 4 ≤ 0 from (by decide : ¬ (1 : Int32) ≤ 0))]
  exact ev_some.mpr ⟨h.th 1, rfl⟩
theorem mRestore_n2 (h : MI s g) {i : Nat} (hi : i < 3) (hm : (zI s i).1 = false) : Ev (fX12_restore g (nI i)) (fun g' => MI s g' ∧ g'.1 4 = nI 2) := by
  have e0 : (0 : Int64).toInt = 0 := rfl
  have e2 : (2 : Int64).toInt = 2 := rfl
  obtain ⟨b1, b2⟩ := h.2.1 i hi
  rw [hm] at b1
  unfold fX12_restore fX12_restore_31
  rw [within_y (by rw [i64, n_toInt (by omega), e0]; omega) (by rw [i64, n_toInt (by omega), e2]; omega), bndv_s, if_neg (by decide)]
  refine Ev.k (ib_n hi (by omega)) ?_
  rw [ix_n (by omega), b1, if_pos (by decide), bnd_e, if_neg (show ¬ (sI g 4 (2 : Int32)).1 4 ≤ 0 from (by decide : ¬ (2 : Int32) ≤ 0))]
  exact ev_some.mpr ⟨h.th 2, rfl⟩
end
