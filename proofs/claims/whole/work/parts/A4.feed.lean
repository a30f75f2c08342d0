/-! ===== the tape ===== -/
def by8 (x : Int32) (j : Nat) : Nat := (jush x (nI (24 - 8 * j)) &&& (255 : Int32)).toNatClampNeg
theorem by8_eq (x : Int32) {j : Nat} (hj : j < 4) : (jush x (nI (24 - 8 * j)) &&& (255 : Int32)) = nI (by8 x j) ∧ by8 x j < 256 := by
  obtain ⟨n, hn, rfl⟩ := wb_of32 x
  have hm := Nat.mod_lt (n / 2 ^ (24 - 8 * j)) (show 0 < 256 by omega)
  unfold by8
  rw [jush_n (by omega) hn, and255, nI_clamp (by omega)]
  exact ⟨rfl, hm⟩
theorem by8_b (x : Int32) {j : Nat} (hj : j < 4) : (jush x (nI (24 - 8 * j))).toInt8.toInt32 = (nI (by8 x j)).toInt8.toInt32 := by
  rw [← (by8_eq x hj).1, fa_byte_low]
def w5 (a b c d e : Int32) (k : Nat) : Int32 := if k < 4 then a else if k < 8 then b else if k < 12 then c else if k < 16 then d else e
def b20 (a b c d e : Int32) (k : Nat) : Nat := by8 (w5 a b c d e k) (k % 4)
theorem b20_lt (a b c d e : Int32) (k : Nat) : b20 a b c d e k < 256 := (by8_eq _ (Nat.mod_lt k (by omega))).2
def stF (s : AS) (a b c d e : Int32) : AS := (s.1, s.2.1, s.2.2.1, zL s + 20, (fun k => if k < zL s then zB s k else b20 a b c d e (k - zL s)), s.2.2.2.2.2)
section
variable {s : AS} {g : MS}
theorem feed23 (a b c d e : Int32) (L : Nat) (hL : L + 20 ≤ 900) (r0 : Nat → Int32) : ∀ n k f (g : MS), k + n = 20 → n < f → g.1 6 = nI (L + k) → (∀ j, g.2.1 5 j = if L ≤ j ∧ j < L + k then nI (b20 a b c d e (j - L)) else r0 j) → Ev (fX12_feed_23 f g a b c d e (nI k)) (fun z => z.1 = nI (L + 20) ∧ z.2.1 6 = nI (L + 20) ∧ (∀ j, z.2.2.1 5 j = if L ≤ j ∧ j < L + 20 then nI (b20 a b c d e (j - L)) else r0 j) ∧ fM [6] [5] g z.2) := by
  intro n
  induction n with
  | zero =>
    intro k f g hk hf h6 h
    obtain ⟨f, rfl⟩ : ∃ f', f = f' + 1 := ⟨f - 1, by omega⟩
    have hk : k = 20 := hk
    subst hk
    rw [fX12_feed_23, if_pos (by decide)]
    exact ev_some.mpr ⟨h6, h6, h, fM.refl g⟩
  | succ n ih =>
    intro k f g hk hf h6 h
    obtain ⟨f, rfl⟩ : ∃ f', f = f' + 1 := ⟨f - 1, by omega⟩
    have key : Ev (fX12_feed_76 (fX12_feed_23 f) g a b c d e (nI k) (w5 a b c d e k)) (fun z => z.1 = nI (L + 20) ∧ z.2.1 6 = nI (L + 20) ∧ (∀ j, z.2.2.1 5 j = if L ≤ j ∧ j < L + 20 then nI (b20 a b c d e (j - L)) else r0 j) ∧ fM [6] [5] g z.2) := by
      have e3 : nI k &&& (3 : Int32) = nI (k % 4) := fa_mask k 2
      have hm4 := Nat.mod_lt k (show 0 < 4 by omega)
      unfold fX12_feed_76
      rw [h6]
      refine Ev.k (ib_n (by omega) (by omega)) ?_
      rw [bnd_e, ix_n (by omega), e3, l_8, pk_mul, l_24, pk_sub (by omega), (by8_eq _ hm4).1, bnd_e]
      have e6 : (sA g 5 (L + k) (nI (by8 (w5 a b c d e k) (k % 4)))).1 6 = nI (L + k) := h6
      rw [e6, nI_1, nI_1, bnd_e]
      have f1 : fM [6] [5] g (sI (sA g 5 (L + k) (nI (by8 (w5 a b c d e k) (k % 4)))) 6 (nI (L + k + 1))) := ((fM.refl g).sA (by decide)).sI (by decide)
      refine (ih (k + 1) f _ (by omega) (by omega) rfl (fun j => ?_)).mono (fun z hz => ⟨hz.1, hz.2.1, hz.2.2.1, f1.trans hz.2.2.2⟩)
      show upd (g.2.1 5) (L + k) _ j = _
      rw [upd_j, h j]
      by_cases e1 : j = L + k
      · rw [if_pos e1, if_pos (by omega), e1, Nat.add_sub_cancel_left]
        rfl
      · rw [if_neg e1]
        by_cases e2 : L ≤ j ∧ j < L + k
        · rw [if_pos e2, if_pos (by omega)]
        · rw [if_neg e2, if_neg (by omega)]
    rw [fX12_feed_23, if_neg (show ¬ (20 : Int32) ≤ nI k from nI_ge (b := 20) (by omega) (by omega)), l_4, iLE (by omega) (by omega), l_8, iLE (by omega) (by omega), l_12, iLE (by omega) (by omega), l_16, iLE (by omega) (by omega)]
    unfold w5 at key
    by_cases c4 : k < 4
    · rw [if_neg (by omega)]
      rw [if_pos c4] at key
      exact key
    rw [if_pos (by omega)]
    rw [if_neg c4] at key
    by_cases c8 : k < 8
    · rw [if_neg (by omega)]
      rw [if_pos c8] at key
      exact key
    rw [if_pos (by omega)]
    rw [if_neg c8] at key
    by_cases c12 : k < 12
    · rw [if_neg (by omega)]
      rw [if_pos c12] at key
      exact key
    rw [if_pos (by omega)]
    rw [if_neg c12] at key
    by_cases c16 : k < 16
    · rw [if_neg (by omega)]
      rw [if_pos c16] at key
      exact key
    rw [if_pos (by omega)]
    rw [if_neg c16] at key
    exact key
theorem mFeed_eq (h : MI s g) (hL : zL s + 20 ≤ 900) (a b c d e : Int32) : Ev (fX12_feed g a b c d e) (fun z => z.1 = nI (zL s + 20) ∧ MI (stF s a b c d e) z.2 ∧ z.2.1 4 = nI 0) := by
  obtain ⟨a1, a2, a3, a4, a5, a6, a7⟩ := h
  have e6 : (sI g 4 (0 : Int32)).1 6 = nI (zL s) := a4
  unfold fX12_feed
  rw [bnd_e, e6, l_20, nI_add, if_pos (show nI (zL s + 20) ≤ (900 : Int32) from nI_le (b := 900) hL (by omega))]
  refine (feed23 a b c d e (zL s) hL (g.2.1 5) 20 0 fuel (sI g 4 0) (by omega) (by unfold fuel; omega) a4 (fun j => by rw [if_neg (by omega)]; rfl)).mono ?_
  rintro z ⟨z1, z2, z3, z4⟩
  refine ⟨z1, ⟨by rw [z4.row 0 (by decide)]; exact a1, fun i hi => by rw [z4.row 3 (by decide), z4.row 2 (by decide)]; exact a2 i hi, fun i hi => (a3 i hi).row (i := i) (by rw [z4.row 45 (by decide)]; rfl) (by rw [z4.row 46 (by decide)]; rfl) (fun k hk => by rw [z4.2.2]; rfl), z2, fun k hk => ?_, by rw [z4.1 14 (by decide)]; exact a6, by rw [z4.1 15 (by decide)]; exact a7⟩, by rw [z4.1 4 (by decide)]; rfl⟩
  show z.2.2.1 5 k = nI (if k < zL s then zB s k else b20 a b c d e (k - zL s))
  have hk : k < zL s + 20 := hk
  rw [z3]
  by_cases e : k < zL s
  · rw [if_neg (by omega), if_pos e]; exact a5 k e
  · rw [if_pos (by omega), if_neg e]
theorem mFeed_no (h : MI s g) (hL : ¬ zL s + 20 ≤ 900) (hL2 : zL s ≤ 900) (a b c d e : Int32) : Ev (fX12_feed g a b c d e) (fun z => z.1 = -1 ∧ MI s z.2 ∧ z.2.1 4 = nI 0) := by
  have e6 : (sI g 4 (0 : Int32)).1 6 = nI (zL s) := h.2.2.2.1
  unfold fX12_feed
  rw [bnd_e, e6, l_20, nI_add, if_neg (show ¬ nI (zL s + 20) ≤ (900 : Int32) from nI_ge (a := 900) (by omega) (by omega))]
  exact ev_some.mpr ⟨rfl, h.th 0, rfl⟩
end
section
variable {s : AS} {P : PL} {T : Nat} {g : CS}
theorem app1 {L j f : Nat} (x : Int32) (hj : j < 4) (hL : L + j < 900) (h1 : g.1 0 1 = nI (L + j)) : fX11_append_3 P (f + 1) g x (nI (24 - 8 * j)) = fX11_append_3 P f (tI (tA g 1 (L + j) ((nI (by8 x j)).toInt8.toInt32)) 0 1 (nI (L + (j + 1)))) x (nI (24 - 8 * j) + (-8 : Int32)) := by
  have e8 : is8 ((nI (by8 x j)).toInt8.toInt32) = true := decide_eq_true (fb_byte_twice _)
  rw [fX11_append_3, if_neg (show ¬ nI (24 - 8 * j) < 0 from nI_nlt (b := 0) (by omega) (by omega)), h1, if_neg (show ¬ (900 : Int32) ≤ nI (L + j) from nI_ge (b := 900) hL (by omega)), chk_tt (ib_n hL (by omega)), by8_b x hj, chk_tt e8, bnd_e, ix_n (by omega), bnd_e, bnd_e]
  have e1 : (tA g 1 (L + j) ((nI (by8 x j)).toInt8.toInt32)).1 0 1 = nI (L + j) := h1
  rw [e1, nI_1]
  rfl
theorem append_eq {L : Nat} (x : Int32) (hL : L + 4 ≤ 900) (h1 : g.1 0 1 = nI L) : Ev (fX11_append P g x) (fun g' => g'.1 0 1 = nI (L + 4) ∧ (∀ k, g'.2.1 1 k = if L ≤ k ∧ k < L + 4 then (nI (by8 x (k - L))).toInt8.toInt32 else g.2.1 1 k) ∧ fC [(0, 1)] [1] [] g g') := by
  have hf : fuel = fuel - 5 + 1 + 1 + 1 + 1 + 1 := by unfold fuel; omega
  unfold fX11_append
  rw [hf, l_24]
  have s0 := app1 (P := P) (g := g) (L := L) (j := 0) (f := fuel - 5 + 1 + 1 + 1 + 1) x (by omega) (by omega) h1
  rw [show 24 - 8 * 0 = 24 by omega] at s0
  rw [s0, show nI 24 + (-8 : Int32) = nI (24 - 8 * 1) by decide, app1 (L := L) (j := 1) x (by omega) (by omega) tI_s, show nI (24 - 8 * 1) + (-8 : Int32) = nI (24 - 8 * 2) by decide, app1 (L := L) (j := 2) x (by omega) (by omega) tI_s, show nI (24 - 8 * 2) + (-8 : Int32) = nI (24 - 8 * 3) by decide, app1 (L := L) (j := 3) x (by omega) (by omega) tI_s, fX11_append_3, if_pos (by decide)]
  refine ev_some.mpr ⟨tI_s, fun k => ?_, (((((((((fC.refl g).tA (by decide)).tI (by decide)).tA (by decide)).tI (by decide)).tA (by decide)).tI (by decide)).tA (by decide)).tI (by decide))⟩
  show upd (upd (upd (upd (g.2.1 1) (L + 0) _) (L + 1) _) (L + 2) _) (L + 3) _ k = _
  rw [upd_j, upd_j, upd_j, upd_j]
  by_cases c3 : k = L + 3
  · rw [if_pos c3, if_pos (by omega), c3, Nat.add_sub_cancel_left]
  rw [if_neg c3]
  by_cases c2 : k = L + 2
  · rw [if_pos c2, if_pos (by omega), c2, Nat.add_sub_cancel_left]
  rw [if_neg c2]
  by_cases c1 : k = L + 1
  · rw [if_pos c1, if_pos (by omega), c1, Nat.add_sub_cancel_left]
  rw [if_neg c1]
  by_cases c0 : k = L + 0
  · rw [if_pos c0, if_pos (by omega), c0, Nat.add_sub_cancel_left]
  rw [if_neg c0, if_neg (by omega)]
/-- the tape alone has changed -/
theorem CI.tape {g' : CS} {L' : Nat} {B' : Nat → Nat} (h : CI s P T g) (f : fC [(0, 1)] [1] [] g g') (h1 : g'.1 0 1 = nI L') (h2 : ∀ k, k < L' → g'.2.1 1 k = (nI (B' k)).toInt8.toInt32) : CI (s.1, s.2.1, s.2.2.1, L', B', s.2.2.2.2.2) P T g' := by
  obtain ⟨h1', h2', h3, h4, ⟨a1, a2⟩, a3, a4, a5, a6⟩ := h
  have i1 : ∀ o k, o ≠ 0 → g'.1 o k = g.1 o k := fun o k ho => f.i o k (by simp; omega)
  exact ⟨h1'.same (fun k => i1 30 k (by omega)) (f.2.2.1 40 (by decide)) (by rw [f.2.2.2]), by rw [i1 30 7 (by omega)]; exact h2', h3.keep f (by decide) (by decide), h4.keep f (by decide) (by decide), ⟨by rw [f.i 0 4 (by decide)]; exact a1, fun j hj hjt => (a2 j hj hjt).same (fun k => i1 _ k (by omega)) (f.2.2.1 _ (by simp)) (by rw [f.2.2.2])⟩, fun j hj => (a3 j hj).same (fun k => i1 _ k (by omega)) (f.2.2.1 _ (by simp)), ⟨h1, h2, by rw [f.i 0 2 (by decide)]; exact a4.2.2.1, by rw [f.i 0 3 (by decide)]; exact a4.2.2.2⟩, wfL.of a5 f.2.2.2, by rw [f.2.2.2]; exact a6⟩
theorem cFeed_eq (h : CI s P T g) (hL : zL s + 20 ≤ 900) (a b c d e : Int32) : Ev (fX11_feed P g a b c d e) (fun z => z.1 = nI (zL s + 20) ∧ CI (stF s a b c d e) P T z.2) := by
  have h1 := h.2.2.2.2.2.2.1.1
  have h2 := h.2.2.2.2.2.2.1.2.1
  unfold fX11_feed
  rw [h1, l_20, nI_add, if_pos (show nI (zL s + 20) ≤ (900 : Int32) from nI_le (b := 900) hL (by omega))]
  refine Ev.v (append_eq a (by omega) h1) ?_
  rintro g1 ⟨p1, q1, f1⟩
  refine Ev.v (append_eq b (by omega) p1) ?_
  rintro g2 ⟨p2, q2, f2⟩
  refine Ev.v (append_eq c (by omega) p2) ?_
  rintro g3 ⟨p3, q3, f3⟩
  refine Ev.v (append_eq d (by omega) p3) ?_
  rintro g4 ⟨p4, q4, f4⟩
  refine Ev.v (append_eq e (by omega) p4) ?_
  rintro g5 ⟨p5, q5, f5⟩
  refine ev_some.mpr ⟨p5, h.tape ((((f1.trans f2).trans f3).trans f4).trans f5) p5 (fun k hk => ?_)⟩
  show g5.2.1 1 k = (nI (if k < zL s then zB s k else b20 a b c d e (k - zL s))).toInt8.toInt32
  have hk : k < zL s + 20 := by omega
  rw [q5, q4, q3, q2, q1]
  by_cases c0 : k < zL s
  · rw [if_neg (by omega), if_neg (by omega), if_neg (by omega), if_neg (by omega), if_neg (by omega), if_pos c0]
    exact h2 k c0
  rw [if_neg c0]
  unfold b20 w5
  by_cases c1 : k < zL s + 4
  · rw [if_neg (by omega), if_neg (by omega), if_neg (by omega), if_neg (by omega), if_pos (by omega), if_pos (by omega), show (k - zL s) % 4 = k - zL s by omega]
  by_cases c2 : k < zL s + 8
  · rw [if_neg (by omega), if_neg (by omega), if_neg (by omega), if_pos (by omega), if_neg (show ¬ k - zL s < 4 by omega), if_pos (show k - zL s < 8 by omega), show (k - zL s) % 4 = k - (zL s + 4) by omega]
  by_cases c3 : k < zL s + 12
  · rw [if_neg (by omega), if_neg (by omega), if_pos (by omega), if_neg (show ¬ k - zL s < 4 by omega), if_neg (show ¬ k - zL s < 8 by omega), if_pos (show k - zL s < 12 by omega), show (k - zL s) % 4 = k - (zL s + 4 + 4) by omega]
  by_cases c4 : k < zL s + 16
  · rw [if_neg (by omega), if_pos (by omega), if_neg (show ¬ k - zL s < 4 by omega), if_neg (show ¬ k - zL s < 8 by omega), if_neg (show ¬ k - zL s < 12 by omega), if_pos (show k - zL s < 16 by omega), show (k - zL s) % 4 = k - (zL s + 4 + 4 + 4) by omega]
  · rw [if_pos (by omega), if_neg (show ¬ k - zL s < 4 by omega), if_neg (show ¬ k - zL s < 8 by omega), if_neg (show ¬ k - zL s < 12 by omega), if_neg (show ¬ k - zL s < 16 by omega), show (k - zL s) % 4 = k - (zL s + 4 + 4 + 4 + 4) by omega]
theorem cFeed_no (h : CI s P T g) (hL : ¬ zL s + 20 ≤ 900) (hL2 : zL s ≤ 900) (a b c d e : Int32) : fX11_feed P g a b c d e = some (-1, g) := by
  unfold fX11_feed
  rw [h.2.2.2.2.2.2.1.1, l_20, nI_add, if_neg (show ¬ nI (zL s + 20) ≤ (900 : Int32) from nI_ge (a := 900) (by omega) (by omega))]
end
