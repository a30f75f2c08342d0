/-! ===== deeds and what can be undone ===== -/
abbrev AP : Type := (Nat → Nat) × (Nat → Nat) × Nat
abbrev AQ : Type := AB × Nat × Nat × (Nat → AP)
abbrev qB (q : AQ) : AB := q.1
abbrev qL (q : AQ) : Nat := q.2.1
abbrev qD (q : AQ) : Nat := q.2.2.1
abbrev qP (q : AQ) : Nat → AP := q.2.2.2
def wfP (n : Nat) (p : AP) : Prop := lk n p.1 ∧ (∀ m, m < 6 → p.2.1 m ≤ 9 ∧ (m < n → 1 ≤ p.2.1 m) ∧ (n ≤ m → p.2.1 m = 0)) ∧ p.2.2 < 2 ^ n
def wfQ (q : AQ) : Prop := wfB (qB q) ∧ qL q ≤ 900 ∧ qD q ≤ 10 ∧ ∀ j, j < qD q → wfP (bN (qB q)) (qP q j)
def bP (b : AB) : AP := (bA b, bW b, bS b)
def setP (b : AB) (p : AP) : AB := (b.1, p.1, p.2.1, p.2.2, b.2.2.2.2)
def KP (n : Nat) (p : AP) (r : Nat → Int32) : Prop := (∀ m, m < n → r m = nI (p.1 m)) ∧ (∀ m, m < n → r (6 + m) = nI (p.2.1 m)) ∧ r 12 = nI p.2.2
def KQ (q : AQ) (k : Nat → Int32) : Prop := KB (qB q) k ∧ k 0 = nI (qL q) ∧ k 5 = nI (qD q) ∧ ∀ j, j < qD q → KP (bN (qB q)) (qP q j) (fun i => k (19 + 13 * j + i))
def pkP (p : AP) : Nat := p.2.2 * 281474976710656 + l6 p.2.1 * 16777216 + l6 p.1
def SQ (q : AQ) (P : PL) (g : CS) (o : Nat) : Prop := SB (qB q) P g o ∧ g.1 o 2 = nI (qL q) ∧ g.1 o 6 = nI (qD q) ∧ ∀ j, j < qD q → g.2.2.1 (o + 10) j = lN (pkP (qP q j))
/-- the state kept before a deed -/
def keepA (q : AQ) : AQ := if qD q = 10 then (qB q, qL q, 10, fun j => if j = 9 then bP (qB q) else qP q (j + 1)) else (qB q, qL q, qD q + 1, fun j => if j = qD q then bP (qB q) else qP q j)
theorem wfB_bP {b : AB} (hw : wfB b) : wfP (bN b) (bP b) := ⟨hw.2.2.1, hw.2.2.2.1, hw.2.2.2.2.1⟩
theorem wfB_setP {b : AB} {p : AP} (hw : wfB b) (hp : wfP (bN b) p) : wfB (setP b p) := ⟨hw.1, hw.2.1, hp.1, hp.2.1, hp.2.2, hw.2.2.2.2.2⟩
theorem wfQ_keep {q : AQ} (h : wfQ q) : wfQ (keepA q) := by
  unfold keepA
  split
  · refine ⟨h.1, h.2.1, Nat.le_refl 10, fun j hj => ?_⟩
    show wfP _ (if j = 9 then _ else _)
    split
    · exact wfB_bP h.1
    · exact h.2.2.2 (j + 1) (by have : j < 10 := hj; omega)
  · refine ⟨h.1, h.2.1, by show qD q + 1 ≤ 10; have := h.2.2.1; omega, fun j hj => ?_⟩
    show wfP _ (if j = qD q then _ else _)
    split
    · exact wfB_bP h.1
    · exact h.2.2.2 j (by have : j < qD q + 1 := hj; omega)
theorem keepA_B (q : AQ) : qB (keepA q) = qB q := by unfold keepA; split <;> rfl
theorem keepA_L (q : AQ) : qL (keepA q) = qL q := by unfold keepA; split <;> rfl
theorem KB.row {b : AB} {k k' : Nat → Int32} (hw : wfB b) (h : KB b k) (he : ∀ i, (1 ≤ i ∧ i < 5 ∨ 6 ≤ i ∧ i < 19 ∨ 149 ≤ i) → k' i = k i) : KB b k' := by
  have hn := hw.2.1
  obtain ⟨h1, h2, h3, h4, h5, h6, h7, h8, h9, h10⟩ := h
  exact ⟨by rw [he 1 (by omega)]; exact h1, by rw [he 18 (by omega)]; exact h2, fun m hm => by rw [he _ (by omega)]; exact h3 m hm, fun m hm => by rw [he _ (by omega)]; exact h4 m hm, by rw [he 2 (by omega)]; exact h5, by rw [he 3 (by omega)]; exact h6, by rw [he 4 (by omega)]; exact h7, fun i hi => by rw [he _ (by omega)]; exact h8 i hi, fun i hi => by rw [he _ (by omega)]; exact h9 i hi, fun i hi => by rw [he _ (by omega)]; exact h10 i hi⟩
section
variable {g : MS}
theorem keeps54_lp (k0 : Nat → Int32) (nd : Nat) (hnd : nd < 10) (h5 : k0 5 = nI nd) : ∀ d y f (g : MS), y + d = 13 → d < f → (∀ i, g.2.1 0 i = if 19 + 13 * nd ≤ i ∧ i < 19 + 13 * nd + y then k0 (i - (19 + 13 * nd) + 6) else k0 i) → Ev (fX12_keeps_54 f g (nI y)) (fun g' => (∀ i, g'.2.1 0 i = if i = 5 then nI (nd + 1) else if 19 + 13 * nd ≤ i ∧ i < 19 + 13 * nd + 13 then k0 (i - (19 + 13 * nd) + 6) else k0 i) ∧ fM [] [0] g g') := by
  intro d
  induction d with
  | zero =>
    intro y f g hy hf h
    obtain ⟨f, rfl⟩ : ∃ f', f = f' + 1 := ⟨f - 1, by omega⟩
    have hy : y = 13 := hy
    subst hy
    rw [fX12_keeps_54, if_pos (by decide)]
    refine Ev.k (by decide) (Ev.k (by decide) ?_)
    rw [bnd_e]
    refine ev_some.mpr ⟨fun i => ?_, (fM.refl g).sA (by decide)⟩
    show upd (g.2.1 0) 5 (g.2.1 0 5 + 1) i = _
    have e5 : g.2.1 0 5 = nI nd := by rw [h 5, if_neg (by omega)]; exact h5
    rw [upd_j, e5, nI_1]
    by_cases e : i = 5
    · rw [if_pos e, if_pos e]
    · rw [if_neg e, if_neg e, h i]
  | succ d ih =>
    intro y f g hy hf h
    obtain ⟨f, rfl⟩ : ∃ f', f = f' + 1 := ⟨f - 1, by omega⟩
    have e5 : g.2.1 0 (ix (5 : Int32)) = nI nd := by
      show g.2.1 0 5 = _
      rw [h 5, if_neg (by omega), h5]
    rw [fX12_keeps_54, if_neg (show ¬ (13 : Int32) ≤ nI y from nI_ge (b := 13) (by omega) (by omega)), e5, l_6, l_19, l_13, pk_mul, nI_add, nI_add, nI_add]
    refine Ev.k (by decide) (Ev.k (ib_n (by omega) (by omega)) (Ev.k (ib_n (by omega) (by omega)) ?_))
    rw [bnd_e, nI_1, bnd_e, ix_n (by omega), ix_n (by omega)]
    refine (ih (y + 1) f (sA g 0 (19 + 13 * nd + y) (g.2.1 0 (6 + y))) (by omega) (by omega) (fun i => ?_)).mono ?_
    · show upd (g.2.1 0) (19 + 13 * nd + y) (g.2.1 0 (6 + y)) i = _
      rw [upd_j]
      by_cases e : i = 19 + 13 * nd + y
      · rw [if_pos e, if_pos (by omega), h (6 + y), if_neg (by omega), show i - (19 + 13 * nd) + 6 = 6 + y by omega]
      · rw [if_neg e, h i]
        by_cases e2 : 19 + 13 * nd ≤ i ∧ i < 19 + 13 * nd + y
        · rw [if_pos e2, if_pos (by omega)]
        · rw [if_neg e2, if_neg (by omega)]
    · rintro q ⟨q1, q2⟩
      exact ⟨q1, ((fM.refl g).sA (by decide)).trans q2⟩
theorem keeps14_lp (k0 : Nat → Int32) (h5 : k0 5 = nI 10) : ∀ d y f (g : MS), y + d = 136 → 19 ≤ y → d < f → (∀ i, g.2.1 0 i = if 19 ≤ i ∧ i < y then k0 (i + 13) else k0 i) → Ev (fX12_keeps_14 f g (nI y)) (fun g' => (∀ i, g'.2.1 0 i = if i = 5 then nI 10 else if 136 ≤ i ∧ i < 149 then k0 (i - 136 + 6) else if 19 ≤ i ∧ i < 136 then k0 (i + 13) else k0 i) ∧ fM [] [0] g g') := by
  intro d
  induction d with
  | zero =>
    intro y f g hy h19 hf h
    obtain ⟨f, rfl⟩ : ∃ f', f = f' + 1 := ⟨f - 1, by omega⟩
    have hy : y = 136 := hy
    subst hy
    have e5 : g.2.1 0 (ix (5 : Int32)) = nI 10 := by
      show g.2.1 0 5 = _
      rw [h 5, if_neg (by omega), h5]
    rw [fX12_keeps_14, if_pos (by decide), e5]
    refine Ev.k (by decide) (Ev.k (by decide) ?_)
    rw [bnd_e]
    refine (keeps54_lp (fun i => if i = 5 then nI 9 else if 19 ≤ i ∧ i < 136 then k0 (i + 13) else k0 i) 9 (by omega) rfl 13 0 fuel (sA g 0 5 (nI 9)) (by omega) (by unfold fuel; omega) (fun i => ?_)).mono ?_
    · show upd (g.2.1 0) 5 (nI 9) i = _
      rw [upd_j, if_neg (show ¬ (19 + 13 * 9 ≤ i ∧ i < 19 + 13 * 9 + 0) by omega)]
      by_cases e : i = 5
      · rw [if_pos e, if_pos e]
      · rw [if_neg e, if_neg e, h i]
    · rintro g' ⟨q1, q2⟩
      refine ⟨fun i => ?_, ((fM.refl g).sA (by decide)).trans q2⟩
      rw [q1 i]
      by_cases e : i = 5
      · rw [if_pos e, if_pos e]
      · simp only [if_neg e]
        by_cases e2 : 136 ≤ i ∧ i < 149
        · rw [if_pos (show 19 + 13 * 9 ≤ i ∧ i < 19 + 13 * 9 + 13 by omega), if_pos e2, if_neg (show ¬ i - (19 + 13 * 9) + 6 = 5 by omega), if_neg (show ¬ (19 ≤ i - (19 + 13 * 9) + 6 ∧ i - (19 + 13 * 9) + 6 < 136) by omega)]
        · rw [if_neg (show ¬ (19 + 13 * 9 ≤ i ∧ i < 19 + 13 * 9 + 13) by omega), if_neg e2]
  | succ d ih =>
    intro y f g hy h19 hf h
    obtain ⟨f, rfl⟩ : ∃ f', f = f' + 1 := ⟨f - 1, by omega⟩
    rw [fX12_keeps_14, if_neg (show ¬ (136 : Int32) ≤ nI y from nI_ge (b := 136) (by omega) (by omega)), l_13, nI_add]
    refine Ev.k (ib_n (by omega) (by omega)) (Ev.k (ib_n (by omega) (by omega)) ?_)
    rw [bnd_e, nI_1, bnd_e, ix_n (by omega), ix_n (by omega)]
    refine (ih (y + 1) f (sA g 0 y (g.2.1 0 (y + 13))) (by omega) (by omega) (by omega) (fun i => ?_)).mono ?_
    · show upd (g.2.1 0) y (g.2.1 0 (y + 13)) i = _
      rw [upd_j]
      by_cases e : i = y
      · rw [if_pos e, if_pos (by omega), h (y + 13), if_neg (by omega), e]
      · rw [if_neg e, h i]
        by_cases e2 : 19 ≤ i ∧ i < y
        · rw [if_pos e2, if_pos (by omega)]
        · rw [if_neg e2, if_neg (by omega)]
    · rintro q ⟨q1, q2⟩
      exact ⟨q1, ((fM.refl g).sA (by decide)).trans q2⟩
theorem keeps_eq {q : AQ} (hq : wfQ q) (hK : KQ q (g.2.1 0)) : Ev (fX12_keeps g) (fun g' => KQ (keepA q) (g'.2.1 0) ∧ fM [] [0] g g') := by
  obtain ⟨k1, k2, k3, k4⟩ := hK
  have hn := hq.1.2.1
  have hD := hq.2.2.1
  unfold fX12_keeps
  refine Ev.k (by decide) ?_
  show Ev (if g.2.1 0 5 = (10 : Int32) then _ else _) _
  rw [k3]
  have cur : ∀ r : Nat → Int32, (∀ i, i < 13 → r i = g.2.1 0 (i + 6)) → KP (bN (qB q)) (bP (qB q)) r := fun r hr => ⟨fun m hm => by rw [hr m (by omega), Nat.add_comm]; exact k1.2.2.1 m hm, fun m hm => by rw [hr _ (by omega), show 6 + m + 6 = 12 + m by omega]; exact k1.2.2.2.1 m hm, by rw [hr 12 (by omega)]; exact k1.2.1⟩
  by_cases h10 : qD q = 10
  · rw [if_pos (by rw [h10]; rfl)]
    refine (keeps14_lp (g.2.1 0) (by rw [k3, h10]) 117 19 fuel g (by omega) (by omega) (by unfold fuel; omega) (fun i => by rw [if_neg (by omega)])).mono ?_
    rintro g' ⟨r1, r2⟩
    refine ⟨?_, r2⟩
    unfold keepA
    rw [if_pos h10]
    refine ⟨k1.row hq.1 (fun i hi => by rw [r1 i, if_neg (by omega), if_neg (by omega), if_neg (by omega)]), by rw [r1 0, if_neg (by omega), if_neg (by omega), if_neg (by omega)]; exact k2, by rw [r1 5, if_pos rfl], fun j hj => ?_⟩
    have hj : j < 10 := hj
    show KP (bN (qB q)) (if j = 9 then _ else _) _
    by_cases h9 : j = 9
    · rw [if_pos h9]
      refine cur _ (fun i hi => ?_)
      show g'.2.1 0 (19 + 13 * j + i) = _
      rw [r1, if_neg (by omega), if_pos (by omega), show 19 + 13 * j + i - 136 + 6 = i + 6 by omega]
    · rw [if_neg h9]
      have e : ∀ i, i < 13 → g'.2.1 0 (19 + 13 * j + i) = g.2.1 0 (19 + 13 * (j + 1) + i) := fun i hi => by
        rw [r1, if_neg (by omega), if_neg (by omega), if_pos (by omega), show 19 + 13 * j + i + 13 = 19 + 13 * (j + 1) + i by omega]
      obtain ⟨p1, p2, p3⟩ := k4 (j + 1) (by omega)
      exact ⟨fun m hm => (e m (by omega)).trans (p1 m hm), fun m hm => (e _ (by omega)).trans (p2 m hm), (e 12 (by omega)).trans p3⟩
  · rw [if_neg (by rw [l_10, nI_eq (by omega) (by omega)]; exact h10)]
    refine (keeps54_lp (g.2.1 0) (qD q) (by omega) k3 13 0 fuel g (by omega) (by unfold fuel; omega) (fun i => by rw [if_neg (by omega)])).mono ?_
    rintro g' ⟨r1, r2⟩
    refine ⟨?_, r2⟩
    unfold keepA
    rw [if_neg h10]
    refine ⟨k1.row hq.1 (fun i hi => by rw [r1 i, if_neg (by omega), if_neg (by omega)]), by rw [r1 0, if_neg (by omega), if_neg (by omega)]; exact k2, by rw [r1 5, if_pos rfl], fun j hj => ?_⟩
    have hj : j < qD q + 1 := hj
    show KP (bN (qB q)) (if j = qD q then _ else _) _
    by_cases h9 : j = qD q
    · rw [if_pos h9]
      refine cur _ (fun i hi => ?_)
      show g'.2.1 0 (19 + 13 * j + i) = _
      rw [r1, if_neg (by omega), if_pos (by omega), show 19 + 13 * j + i - (19 + 13 * qD q) + 6 = i + 6 by omega]
    · rw [if_neg h9]
      have e : ∀ i, i < 13 → g'.2.1 0 (19 + 13 * j + i) = g.2.1 0 (19 + 13 * j + i) := fun i hi => by
        rw [r1, if_neg (by omega), if_neg (by omega)]
      obtain ⟨p1, p2, p3⟩ := k4 j (by omega)
      exact ⟨fun m hm => (e m (by omega)).trans (p1 m hm), fun m hm => (e _ (by omega)).trans (p2 m hm), (e 12 (by omega)).trans p3⟩
end
/-! ===== the class keeps ===== -/
theorem tL_1 (g : CS) (a i : Nat) (v : Int64) : (tL g a i v).1 = g.1 := rfl
theorem tL_3 (g : CS) (a i c : Nat) (v : Int64) : (tL g a i v).2.2.1 c = if c = a then vp_updL (g.2.2.1 a) i v else g.2.2.1 c := rfl
theorem tC_3 (g : CS) (a c sp dp n x : Nat) : (tC g a c sp dp n).2.2.1 x = if x = c then va_cpy (g.2.2.1 a) (g.2.2.1 c) sp dp n else g.2.2.1 x := rfl
theorem fC.tL {oi : List (Nat × Nat)} {la ll : List Nat} {g g' : CS} {a i : Nat} {v : Int64} (h : fC oi la ll g g') (ha : a ∈ ll) : fC oi la ll g (tL g' a i v) := ⟨h.1, h.2.1, fun c hc => by rw [tL_3, if_neg (fun e : c = a => hc (by rw [e]; exact ha))]; exact h.2.2.1 c hc, h.2.2.2⟩
theorem fC.tC {oi : List (Nat × Nat)} {la ll : List Nat} {g g' : CS} {a c sp dp n : Nat} (h : fC oi la ll g g') (ha : c ∈ ll) : fC oi la ll g (tC g' a c sp dp n) := ⟨h.1, h.2.1, fun x hc => by rw [tC_3, if_neg (fun e : x = c => hc (by rw [e]; exact ha))]; exact h.2.2.1 x hc, h.2.2.2⟩
theorem or_sum {a c k p : Nat} (hp : 2 ^ k = p) (h : a < p) : c * p ||| a = c * p + a := by
  subst hp
  rw [Nat.mul_comm]
  exact (Nat.two_pow_add_eq_or_of_lt h c).symm
theorem pack_eq {s w a : Nat} (hs : s < 64) (hw : w < 16777216) (ha : a < 16777216) : ((jshlL ((nI s).toInt64) (48 : Int32)) ||| (jshlL ((nI w).toInt64) (24 : Int32))) ||| ((nI a).toInt64) = lN (s * 281474976710656 + w * 16777216 + a) := by
  rw [nI_l (by omega), nI_l (by omega), nI_l (by omega), l_48, l_24, shlL_n (by omega), shlL_n (by omega), fb_orL, fb_orL, show (2 : Nat) ^ 48 = 281474976710656 from rfl, show (2 : Nat) ^ 24 = 16777216 from rfl]
  have e1 : s * 281474976710656 ||| w * 16777216 = s * 281474976710656 + w * 16777216 := or_sum (k := 48) rfl (by omega)
  rw [e1, show s * 281474976710656 + w * 16777216 = (s * 16777216 + w) * 16777216 by omega, or_sum (k := 24) rfl ha]
section
variable {P : PL} {g : CS} {o : Nat} {q : AQ}
theorem SB.tI {b : AB} {k : Nat} {v : Int32} (h : SB b P g o) (hk : 6 ≤ k) : SB b P (tI g o k v) o := by
  obtain ⟨h1, h2, h3, h4, h5⟩ := h
  refine ⟨?_, ?_, ?_, ?_, h5⟩ <;> rw [tI_1, if_pos rfl, if_neg (by omega)] <;> assumption
theorem remember_eq (hq : wfQ q) (hS : SQ q P g o) : Ev (fX6_remember P g o) (fun g' => SQ (keepA q) P g' o ∧ g'.1 o 7 = g.1 o 7 + 1 ∧ fC [(o, 6), (o, 7)] [] [o + 10] g g') := by
  obtain ⟨s1, s2, s3, s4⟩ := hS
  have hn := hq.1.2.1
  have hD := hq.2.2.1
  have hla := l6_lt (lk16 hn hq.1.2.2.1)
  have hlw := l6_lt (w16 hq.1)
  have h30 : ∀ (g1 : CS) (nd : Nat) (ps : Nat → AP), nd < 10 → g1.1 o 1 = g.1 o 1 → g1.1 o 2 = g.1 o 2 → g1.1 o 3 = g.1 o 3 → g1.1 o 4 = g.1 o 4 → g1.1 o 5 = g.1 o 5 → g1.1 o 6 = nI nd → g1.1 o 7 = g.1 o 7 → g1.2.2.2 = g.2.2.2 → (∀ j, j < nd → g1.2.2.1 (o + 10) j = lN (pkP (ps j))) → fC [(o, 6), (o, 7)] [] [o + 10] g g1 →
      Ev (fX6_remember_30 P g1 o) (fun g' => SQ (qB q, qL q, nd + 1, fun j => if j = nd then bP (qB q) else ps j) P g' o ∧ g'.1 o 7 = g.1 o 7 + 1 ∧ fC [(o, 6), (o, 7)] [] [o + 10] g g') := by
    intro g1 nd ps hnd a1 a2 a3 a4 a5 a6 a7 a8 a9 a10
    unfold fX6_remember_30
    rw [a6]
    refine Ev.k (ib_n (by omega) (by omega)) ?_
    rw [bnd_e, bnd_e, bnd_e, ix_n (by omega), a5, a4, a3, s1.2.2.2.1, s1.2.2.1, s1.2.1, pack_eq (s64 hq.1) hlw hla]
    refine ev_some.mpr ⟨⟨⟨?_, ?_, ?_, ?_, ?_⟩, ?_, ?_, fun j hj => ?_⟩, ?_, ((a10.tL (by simp)).tI (by simp)).tI (by simp)⟩
    · rw [tI_n (by omega), tI_n (by omega), tL_1, a1]; exact s1.1
    · rw [tI_n (by omega), tI_n (by omega), tL_1, a3]; exact s1.2.1
    · rw [tI_n (by omega), tI_n (by omega), tL_1, a4]; exact s1.2.2.1
    · rw [tI_n (by omega), tI_n (by omega), tL_1, a5]; exact s1.2.2.2.1
    · show inP P (g1.2.2.2 o 8) _ ∧ inP P (g1.2.2.2 o 9) _ ∧ inP P (g1.2.2.2 o 10) _
      rw [a8]
      exact s1.2.2.2.2
    · rw [tI_n (by omega), tI_n (by omega), tL_1, a2]; exact s2
    · rw [tI_n (by omega), tI_s, tL_1, a6, nI_1]
    · have hj : j < nd + 1 := hj
      rw [tI_2, tI_2, tL_3, if_pos rfl]
      by_cases e : j = nd
      · rw [e, pk_uLs]
        show _ = lN (pkP (if nd = nd then _ else _))
        rw [if_pos rfl]
        rfl
      · rw [pk_uLn e, a9 j (by omega)]
        show _ = lN (pkP (if j = nd then _ else _))
        rw [if_neg e]
    · rw [tI_s, tI_n (by omega), tL_1, a7]
  unfold fX6_remember
  rw [s3]
  by_cases h10 : qD q = 10
  · rw [h10, if_neg (by decide), chk_tt (by decide)]
    rw [bnd_e, bnd_e]
    unfold keepA
    rw [if_pos h10]
    refine (h30 (tI (tC g (o + 10) (o + 10) 1 0 9) o 6 9) 9 (fun j => qP q (j + 1)) (by omega) ?_ ?_ ?_ ?_ ?_ ?_ ?_ rfl (fun j hj => ?_) (((fC.refl g).tC (by simp)).tI (by simp)))
    · rw [tI_1, if_pos rfl, if_neg (by omega)]; rfl
    · rw [tI_1, if_pos rfl, if_neg (by omega)]; rfl
    · rw [tI_1, if_pos rfl, if_neg (by omega)]; rfl
    · rw [tI_1, if_pos rfl, if_neg (by omega)]; rfl
    · rw [tI_1, if_pos rfl, if_neg (by omega)]; rfl
    · rw [tI_1, if_pos rfl, if_pos rfl]; rfl
    · rw [tI_1, if_pos rfl, if_neg (by omega)]; rfl
    · show (tC g (o + 10) (o + 10) 1 0 9).2.2.1 (o + 10) j = _
      rw [tC_3, if_pos rfl, pk_cpy_in (Nat.zero_le j) (by omega), show 1 + (j - 0) = j + 1 by omega]
      exact s4 (j + 1) (by omega)
  · rw [if_pos (show nI (qD q) < (10 : Int32) from nI_lt (b := 10) (by omega) (by omega))]
    unfold keepA
    rw [if_neg h10]
    exact h30 g (qD q) (qP q) (by omega) rfl rfl rfl rfl rfl s3 rfl rfl s4 (fC.refl g)
end
