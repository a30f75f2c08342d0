/-! ===== the class goes through all rows ===== -/
theorem lnb_upN {B : Nat} (v : Nat → Nat) {m x : Nat} : ∀ {k : Nat}, m < k → lnb B (upN v m x) k + v m * B ^ m = lnb B v k + x * B ^ m
  | 0, h => absurd h (Nat.not_lt_zero m)
  | k + 1, h => by
    show lnb B (upN v m x) k + upN v m x k * B ^ k + v m * B ^ m = lnb B v k + v k * B ^ k + x * B ^ m
    by_cases e : k = m
    · subst e
      rw [show upN v k x k = x from if_pos rfl, lnb_cong (a := upN v k x) (b := v) (k := k) (fun j hj => if_neg (by omega))]
      omega
    · have := lnb_upN (B := B) v (m := m) (x := x) (k := k) (by omega)
      rw [show upN v m x k = v k from if_neg e]
      omega
theorem mv_upN (b : AB) (v : Nat → Nat) {m x : Nat} (hm : m < bN b) : mvA b (upN v m x) + (decide (0 < v m)).toNat * 2 ^ m = mvA b v + (decide (0 < x)).toNat * 2 ^ m := by
  have := lnb_upN (B := 2) (fun j => (decide (0 < v j)).toNat) (m := m) (x := (decide (0 < x)).toNat) hm
  refine Eq.trans ?_ this
  congr 1
  refine lnb_cong (fun j _ => ?_)
  show (decide (0 < if j = m then x else v j)).toNat = if j = m then (decide (0 < x)).toNat else (decide (0 < v j)).toNat
  by_cases e : j = m
  · rw [if_pos e, if_pos e]
  · rw [if_neg e, if_neg e]
theorem cs_upN (b : AB) (v : Nat → Nat) {m x : Nat} (hm : m < bN b) : csA b (upN v m x) + prA b m * v m = csA b v + prA b m * x := sm_upN (fun k y => prA b k * y) v hm
theorem clr_bit : ∀ x, x < 64 → ∀ m, m < 6 → x.testBit m = true → (nI x &&& (nI (2 ^ m) ^^^ (-1 : Int32))) = nI (x - 2 ^ m) := by decide +kernel
theorem set_bit : ∀ x, x < 64 → ∀ m, m < 6 → (nI x ||| nI (2 ^ m)) = nI (if x.testBit m then x else x + 2 ^ m) := by decide +kernel
theorem mv_tb (b : AB) (v : Nat → Nat) {m : Nat} (hm : m < bN b) : (mvA b v).testBit m = decide (0 < v m) := by
  unfold mvA
  rw [bs_tb, decide_eq_true hm, Bool.true_and]
theorem m1_sub (x : Int32) : x + (-1) = x - 1 := (Int32.sub_eq_add_neg x 1).symm
/-- laws reckoned -/
def TM (b : AB) (g : CS) : Prop := ∀ m, m < bN b → g.2.1 13 m = nI (bs (drA b m) (bN b)) ∧ g.2.1 14 m = nI (prA b m)
/-- a thing kept with the number it was found at -/
def memo (T : Nat) (x : Int32) (C : Prop) : Prop := (x = -1 ∨ ∃ t, t ≤ T ∧ x = nI t) ∧ (x = nI T → C)
theorem memo.old {T k : Nat} {x : Int32} {C C' : Prop} (h : memo T x C) (hk : 1 ≤ k) (hT : T + k < 2 ^ 31) : memo (T + k) x C' := by
  refine ⟨h.1.elim Or.inl (fun ⟨t, h1, h2⟩ => Or.inr ⟨t, by omega, h2⟩), fun e => ?_⟩
  rcases h.1 with q | ⟨t, h1, h2⟩
  · rw [q] at e; exact absurd e (nm1_nI hT)
  · rw [h2] at e; have := (nI_eq (by omega) hT).mp e; omega
theorem memo.new {T : Nat} {C : Prop} (h : C) : memo T (nI T) C := ⟨Or.inr ⟨T, Nat.le_refl T, rfl⟩, fun _ => h⟩
theorem memo.imp {T : Nat} {x : Int32} {C C' : Prop} (h : memo T x C) (k : C → C') : memo T x C' := ⟨h.1, fun e => k (h.2 e)⟩
abbrev tbI : List (Nat × Nat) := [(10, 1), (12, 1), (12, 6), (12, 7), (12, 8), (12, 9), (12, 10), (12, 11), (12, 12)]
abbrev tbA : List Nat := [11, 13, 14, 15, 16]
theorem no30 : ∀ k, k ≤ 5 → ((30 : Nat), k) ∉ tbI := by
  intro k _ h
  simp at h
section
variable {b : AB} {P : PL} {g : CS}
theorem laws_lp (hw : wfB b) {T : Nat} (hT : g.1 30 7 = nI T) : ∀ d k f (g1 : CS), k + d = bN b → d < f → SB b P g1 30 → (∀ m, m < k → g1.2.1 13 m = nI (bs (drA b m) (bN b)) ∧ g1.2.1 14 m = nI (prA b m)) → fC tbI tbA [] g g1 → Ev (fX10_reckonLaws_17 P f g1 (nI k)) (fun g' => TM b g' ∧ g'.1 12 1 = nI T ∧ fC tbI tbA [] g g') := by
  have hn := hw.2.1
  intro d
  induction d with
  | zero =>
    intro k f g1 hk hf hS h hF
    obtain ⟨f, rfl⟩ : ∃ f', f = f' + 1 := ⟨f - 1, by omega⟩
    have hk : k = bN b := hk
    subst hk
    rw [fX10_reckonLaws_17, hS.1, if_pos (nI_le (by omega) (by omega)), bnd_e, hF.i 30 7 (by decide), hT]
    exact ev_some.mpr ⟨h, tI_s, hF.tI (by decide)⟩
  | succ d ih =>
    intro k f g1 hk hf hS h hF
    obtain ⟨f, rfl⟩ : ∃ f', f = f' + 1 := ⟨f - 1, by omega⟩
    rw [fX10_reckonLaws_17, hS.1, if_neg (nI_ge (by omega) (by omega))]
    refine Ev.c (cDragged_eq okS30 hw hS (show k < bN b by omega)) ?_
    rintro r g2 ⟨r1, r2⟩
    dsimp only at r1
    subst r1
    refine Ev.k (ib_n (by omega) (by omega)) ?_
    rw [bnd_e, ix_n (by omega)]
    have F2 : fC tbI tbA [] g1 (tA g2 13 k (nI (bs (drA b k) (bN b)))) := (r2.mono (by decide) (by decide) (by decide)).tA (by decide)
    refine Ev.c (price_eq okS30 hw (hS.keep F2 no30) (show k < bN b by omega)) ?_
    rintro r g3 ⟨s1, s2⟩
    dsimp only at s1
    subst s1
    refine Ev.k (ib_n (by omega) (by omega)) ?_
    rw [bnd_e, nI_1, bnd_e]
    have F3 : fC tbI tbA [] g1 (tA g3 14 k (nI (prA b k))) := (F2.trans (s2.mono (by decide) (by decide) (by decide))).tA (by decide)
    refine ih (k + 1) f _ (by omega) (by omega) (hS.keep F3 no30) (fun m hm => ?_) (hF.trans F3)
    have e13 : g3.2.1 13 m = if m = k then nI (bs (drA b k) (bN b)) else g1.2.1 13 m := by
      rw [s2.2.1 13 (by decide)]
      show upd (g2.2.1 13) k _ m = _
      rw [upd_j, r2.2.1 13 (by decide)]
    have e14 : g3.2.1 14 = g1.2.1 14 := (s2.2.1 14 (by decide)).trans (r2.2.1 14 (by decide))
    show g3.2.1 13 m = _ ∧ upd (g3.2.1 14) k (nI (prA b k)) m = _
    rw [upd_j, e13, e14]
    by_cases e : m = k
    · rw [if_pos e, if_pos e, e]; exact ⟨rfl, rfl⟩
    · rw [if_neg e, if_neg e]; exact h m (by omega)
theorem laws_eq (hw : wfB b) {T : Nat} (hT : g.1 30 7 = nI T) (hS : SB b P g 30) (hM : memo T (g.1 12 1) (TM b g)) : Ev (fX10_reckonLaws P g) (fun g' => TM b g' ∧ g'.1 12 1 = nI T ∧ fC tbI tbA [] g g') := by
  have hn := hw.2.1
  unfold fX10_reckonLaws
  by_cases e : g.1 12 1 = g.1 30 7
  · rw [if_pos e]
    rw [hT] at e
    exact ev_some.mpr ⟨hM.2 e, e, fC.refl g⟩
  · rw [if_neg e]
    exact laws_lp hw hT (bN b) 0 fuel g (by omega) (by unfold fuel; omega) hS (fun m hm => absurd hm (Nat.not_lt_zero m)) (fC.refl g)
end
/-! the free ones -/
theorem fD_s {b : AB} {m : Nat} (hm : m < bN b) : fD b (bN b - m) = fD b (bN b - 1 - m) + (if stk b m then 0 else 1) := by
  have e : bN b - m = bN b - 1 - m + 1 := by omega
  rw [e]
  show fD b (bN b - 1 - m) + (if stk b (bN b - (bN b - 1 - m + 1)) then 0 else 1) = _
  rw [show bN b - (bN b - 1 - m + 1) = m by omega]
theorem fD_find (b : AB) : ∀ d, d ≤ bN b → ∀ e, e < fD b d → ∃ m, m < bN b ∧ stk b m = false ∧ fD b (bN b - 1 - m) = e
  | 0, _, e, h => absurd h (Nat.not_lt_zero e)
  | d + 1, hd, e, h => by
    by_cases h1 : e < fD b d
    · exact fD_find b d (by omega) e h1
    · have h2 : fD b (d + 1) = fD b d + (if stk b (bN b - (d + 1)) then 0 else 1) := rfl
      cases hs : stk b (bN b - (d + 1)) with
      | true => rw [hs, if_pos rfl] at h2; omega
      | false =>
        rw [hs, if_neg (by decide)] at h2
        exact ⟨bN b - (d + 1), by omega, hs, by rw [show bN b - 1 - (bN b - (d + 1)) = d by omega]; omega⟩
theorem fD_inj {b : AB} {m j : Nat} (hm : m < bN b) (hj : j < bN b) (h1 : stk b m = false) (h2 : stk b j = false) (h : fD b (bN b - 1 - m) = fD b (bN b - 1 - j)) : m = j := by
  have key : ∀ x y, x < y → y < bN b → stk b y = false → fD b (bN b - 1 - y) < fD b (bN b - 1 - x) := fun x y hxy hy hs => by
    have h3 := fD_s hy
    rw [hs, if_neg (by decide)] at h3
    have h4 : fD b (bN b - y) ≤ fD b (bN b - 1 - x) := fD_mono b (by omega)
    omega
  rcases Nat.lt_trichotomy m j with q | q | q
  · have := key m j q hj h2; omega
  · exact q
  · have := key j m q hm h1; omega
/-- the turns as begun: b has the told ones stuck -/
def TB (b : AB) (g : CS) : Prop := g.1 12 6 = nI (bN b) ∧ g.1 12 7 = nI (fD b (bN b)) ∧ g.1 12 8 = nI (nR b) ∧ (∀ m, m < bN b → stk b m = false → g.2.1 15 (fD b (bN b) - 1 - fD b (bN b - 1 - m)) = nI m) ∧ (∀ m, m < bN b → stk b m = false → g.2.1 16 m = nI (l6 (fun j => if alA b m j = true ∧ j < bN b then 1 else 0)) ∧ g.2.1 14 m = nI (prA b m))
def TV (b : AB) (v : Nat → Nat) (g : CS) : Prop := g.1 12 9 = nI (l6 (bhA b v)) ∧ g.1 12 10 = nI (csA b v) ∧ g.1 12 11 = nI (l6 v) ∧ g.1 12 12 = nI (mvA b v)
theorem TB.keep {b : AB} {g g' : CS} {oi : List (Nat × Nat)} {la ll : List Nat} (h : TB b g) (f : fC oi la ll g g') (h1 : (12, 6) ∉ oi ∧ (12, 7) ∉ oi ∧ (12, 8) ∉ oi) (h2 : 14 ∉ la ∧ 15 ∉ la ∧ 16 ∉ la) : TB b g' := by
  unfold TB
  rw [f.i _ _ h1.1, f.i _ _ h1.2.1, f.i _ _ h1.2.2, f.2.1 14 h2.1, f.2.1 15 h2.2.1, f.2.1 16 h2.2.2]
  exact h
theorem TV.keep {b : AB} {v : Nat → Nat} {g g' : CS} {oi : List (Nat × Nat)} {la ll : List Nat} (h : TV b v g) (f : fC oi la ll g g') (h1 : (12, 9) ∉ oi ∧ (12, 10) ∉ oi ∧ (12, 11) ∉ oi ∧ (12, 12) ∉ oi) : TV b v g' := by
  unfold TV
  rw [f.i _ _ h1.1, f.i _ _ h1.2.1, f.i _ _ h1.2.2.1, f.i _ _ h1.2.2.2]
  exact h
section
variable {b : AB} {P : PL} {g : CS}
theorem pow_le_R (hw : wfB b) {d : Nat} (hd : d ≤ 6) : bN b ^ d ≤ 46656 := by
  have h1 : bN b ^ d ≤ 6 ^ d := Nat.pow_le_pow_left hw.2.1 d
  have h2 : (6 : Nat) ^ d ≤ 6 ^ 6 := Nat.pow_le_pow_right (by omega) hd
  omega
theorem begin_lp (hw : wfB b) : ∀ d k f (g1 : CS), k + d = bN b → d < f → SB (setS b (bS b)) P g1 30 ∨ True → g1.1 30 3 = nI (l6 (bA b)) → TM b g1 → g1.1 12 6 = nI (bN b) → g1.1 12 7 = nI (fD b (bN b) - fD b (bN b - k)) → g1.1 12 8 = nI (bN b ^ (fD b (bN b) - fD b (bN b - k))) → (∀ m, m < k → stk b m = false → g1.2.1 15 (fD b (bN b) - 1 - fD b (bN b - 1 - m)) = nI m) → (∀ m, m < k → stk b m = false → g1.2.1 16 m = nI (l6 (fun j => if alA b m j = true ∧ j < bN b then 1 else 0))) →
    Ev (fX10_begin_27 P f g1 (nI (bS b)) (nI k)) (fun g' => TB b g' ∧ TV b (fun _ => 0) g' ∧ fC [(12, 7), (12, 8), (12, 9), (12, 10), (12, 11), (12, 12)] [15, 16] [] g1 g') := by
  have hn := hw.2.1
  have hn2 := hw.1
  have hs64 := s64 hw
  intro d
  induction d with
  | zero =>
    intro k f g1 hk hf _ h3 hM h6 h7 h8 h15 h16
    obtain ⟨f, rfl⟩ : ∃ f', f = f' + 1 := ⟨f - 1, by omega⟩
    have hk : k = bN b := hk
    subst hk
    have e0 : fD b (bN b - bN b) = 0 := by rw [Nat.sub_self]; rfl
    rw [e0, Nat.sub_zero] at h7 h8
    rw [fX10_begin_27, h6, if_pos (nI_le (by omega) (by omega)), bnd_e, bnd_e, bnd_e, bnd_e]
    have F : fC [(12, 7), (12, 8), (12, 9), (12, 10), (12, 11), (12, 12)] [15, 16] [] g1 (tI (tI (tI (tI g1 12 9 (g1.1 30 3)) 12 10 0) 12 11 0) 12 12 0) := ((((fC.refl g1).tI (by decide)).tI (by decide)).tI (by decide)).tI (by decide)
    have z1 : bhA b (fun _ => 0) = bhA b (fun _ => 0) := rfl
    have zs : ∀ j, fb_sm (fun m => if alA b m j = true ∧ j < bN b then (fun _ => 0) m else 0) (bN b) = 0 := fun j => by
      rw [fb_sm_cong (g := fun _ => 0) (fun k _ => by split <;> rfl), fb_sm_const, Nat.mul_zero]
    refine ev_some.mpr ⟨⟨h6, h7, h8, h15, fun m hm hs => ⟨h16 m hm hs, (hM m hm).2⟩⟩, ⟨?_, ?_, ?_, ?_⟩, F⟩
    · rw [tI_n (by omega), tI_n (by omega), tI_n (by omega), tI_s, h3]
      congr 1
      refine lnb_cong (fun j hj => ?_)
      show _ = (bA b j + fb_sm (fun m => if alA b m j = true ∧ j < bN b then (fun _ => 0) m else 0) (bN b)) % bN b
      rw [zs j, Nat.add_zero, Nat.mod_eq_of_lt (hw.2.2.1 j hj).1]
    · rw [tI_n (by omega), tI_n (by omega), tI_s]
      have : csA b (fun _ => 0) = 0 := by
        unfold csA
        rw [fb_sm_cong (g := fun _ => 0) (fun k _ => Nat.mul_zero _), fb_sm_const, Nat.mul_zero]
      rw [this]; rfl
    · rw [tI_n (by omega), tI_s]; rfl
    · rw [tI_s]
      have : mvA b (fun _ => 0) = 0 := by
        have hz : ∀ k, bs (fun m => decide (0 < (fun _ : Nat => 0) m)) k = 0 := fun k => by
          induction k with
          | zero => rfl
          | succ k ih => rw [bs_succ, ih]; simp
        exact hz _
      rw [this]; rfl
  | succ d ih =>
    intro k f g1 hk hf hS h3 hM h6 h7 h8 h15 h16
    obtain ⟨f, rfl⟩ : ∃ f', f = f' + 1 := ⟨f - 1, by omega⟩
    have hfs := fD_s (b := b) (m := k) (by omega)
    have hmon : fD b (bN b - k) ≤ fD b (bN b) := fD_mono b (by omega)
    have hle := fD_le b (bN b)
    have ek : bN b - 1 - k = bN b - (k + 1) := by omega
    rw [ek] at hfs
    rw [fX10_begin_27, h6, if_neg (nI_ge (by omega) (by omega)), shas _ hs64 k (by omega)]
    have est : (bS b).testBit k = stk b k := rfl
    rw [est]
    cases hst : stk b k with
    | true =>
      rw [if_neg (show ¬ nI true.toNat = 0 by decide), nI_1, bnd_e]
      rw [hst, if_pos rfl, Nat.add_zero] at hfs
      rw [hfs] at h7 h8
      refine ih (k + 1) f g1 (by omega) (by omega) hS h3 hM h6 h7 h8 (fun m hm hs => h15 m ?_ hs) (fun m hm hs => h16 m ?_ hs)
      · by_cases e : m = k
        · rw [e, hst] at hs; exact absurd hs (by decide)
        · omega
      · by_cases e : m = k
        · rw [e, hst] at hs; exact absurd hs (by decide)
        · omega
    | false =>
      rw [if_pos (show nI false.toNat = 0 from rfl)]
      rw [hst, if_neg (by decide)] at hfs
      have hidx : fD b (bN b) - fD b (bN b - k) = fD b (bN b) - 1 - fD b (bN b - 1 - k) := by rw [ek]; omega
      rw [h7]
      refine Ev.k (ib_n (by omega) (by omega)) ?_
      rw [bnd_e, bnd_e, ix_n (by omega)]
      have e7 : (tA g1 15 (fD b (bN b) - fD b (bN b - k)) (nI k)).1 12 7 = nI (fD b (bN b) - fD b (bN b - k)) := h7
      rw [e7, nI_1]
      refine Ev.k (ib_n (by omega) (by omega)) ?_
      rw [ix_n (by omega)]
      have e13 : (tI (tA g1 15 (fD b (bN b) - fD b (bN b - k)) (nI k)) 12 7 (nI (fD b (bN b) - fD b (bN b - k) + 1))).2.1 13 k = nI (bs (drA b k) (bN b)) := (hM k (by omega)).1
      have hlt := bs_lt (drA b k) (bN b)
      have hp : (2 : Nat) ^ bN b ≤ 2 ^ 6 := Nat.pow_le_pow_right (by omega) hn
      have ebits : l6 (fun m => ((bs (drA b k) (bN b) &&& (63 - bS b)).testBit m).toNat) = l6 (fun j => if alA b k j = true ∧ j < bN b then 1 else 0) := lnb_cong (fun j hj => by
        show ((bs (drA b k) (bN b) &&& (63 - bS b)).testBit j).toNat = if alA b k j = true ∧ j < bN b then 1 else 0
        rw [Nat.testBit_and, bs_tb, cmpl _ hs64 j hj]
        unfold alA
        rw [hst]
        show (_ && _ && !(stk b j)).toNat = _
        by_cases hj1 : j < bN b
        · rw [decide_eq_true hj1]
          cases drA b k j <;> cases stk b j <;> simp [hj1]
        · rw [decide_eq_false hj1]
          simp [hj1])
      rw [e13, andnot _ (by omega) _ hs64, ofBits_l6 (Nat.lt_of_le_of_lt Nat.and_le_left (by omega)), bndv_s, ebits]
      refine Ev.k (ib_n (by omega) (by omega)) ?_
      rw [bnd_e, bnd_e, nI_1, bnd_e]
      have e8 : (tA (tI (tA g1 15 (fD b (bN b) - fD b (bN b - k)) (nI k)) 12 7 (nI (fD b (bN b) - fD b (bN b - k) + 1))) 16 k (nI (l6 fun j => if alA b k j = true ∧ j < bN b then 1 else 0))).1 12 8 = nI (bN b ^ (fD b (bN b) - fD b (bN b - k))) := h8
      have e6 : (tA (tI (tA g1 15 (fD b (bN b) - fD b (bN b - k)) (nI k)) 12 7 (nI (fD b (bN b) - fD b (bN b - k) + 1))) 16 k (nI (l6 fun j => if alA b k j = true ∧ j < bN b then 1 else 0))).1 12 6 = nI (bN b) := h6
      rw [e8, e6, pk_mul, ← Nat.pow_succ]
      have eS : fD b (bN b) - fD b (bN b - k) + 1 = fD b (bN b) - fD b (bN b - (k + 1)) := by omega
      rw [eS]
      refine (ih (k + 1) f (tI (tA (tI (tA g1 15 (fD b (bN b) - fD b (bN b - k)) (nI k)) 12 7 (nI (fD b (bN b) - fD b (bN b - (k + 1))))) 16 k (nI (l6 fun j => if alA b k j = true ∧ j < bN b then 1 else 0))) 12 8 (nI (bN b ^ (fD b (bN b) - fD b (bN b - k)).succ))) (by omega) (by omega) (Or.inr trivial) h3 hM h6 ?_ ?_ (fun m hm hs => ?_) (fun m hm hs => ?_)).mono ?_
      · rw [tI_n (by omega), tA_1]; exact tI_s
      · rw [tI_s, ← eS]
      · show upd (g1.2.1 15) (fD b (bN b) - fD b (bN b - k)) (nI k) _ = _
        rw [upd_j]
        by_cases e : m = k
        · rw [e, if_pos hidx.symm]
        · rw [if_neg (fun z => e ?_)]
          · exact h15 m (by omega) hs
          · refine fD_inj (b := b) (by omega) (show k < bN b by omega) hs hst ?_
            have h9 := fD_s (b := b) (m := m) (by omega)
            rw [hs, if_neg (by decide)] at h9
            have h10 : fD b (bN b - m) ≤ fD b (bN b) := fD_mono b (by omega)
            have h11 := fD_s (b := b) (m := k) (by omega)
            rw [hst, if_neg (by decide)] at h11
            omega
      · show upd (g1.2.1 16) k _ m = _
        rw [upd_j]
        by_cases e : m = k
        · rw [if_pos e, e]
        · rw [if_neg e]; exact h16 m (by omega) hs
      · rintro z ⟨z1, z2, z3⟩
        exact ⟨z1, z2, ((((fC.refl g1).tA (by decide)).tI (by decide)).tA (by decide)).tI (by decide) |>.trans z3⟩
theorem wf_setS (hw : wfB b) {S : Nat} (hS : S < 2 ^ bN b) : wfB (setS b S) := ⟨hw.1, hw.2.1, hw.2.2.1, hw.2.2.2.1, hS, hw.2.2.2.2.2⟩
theorem begin_eq (hw : wfB b) {T S : Nat} (hSt : S < 2 ^ bN b) (hT : g.1 30 7 = nI T) (hS : SB b P g 30) (hM : memo T (g.1 12 1) (TM b g)) : Ev (fX10_begin P g (nI S)) (fun g' => TB (setS b S) g' ∧ TV (setS b S) (fun _ => 0) g' ∧ TM b g' ∧ g'.1 12 1 = nI T ∧ fC tbI tbA [] g g') := by
  have hn := hw.2.1
  unfold fX10_begin
  refine Ev.v (laws_eq hw hT hS hM) ?_
  rintro g1 ⟨h1, h2, h3⟩
  have hS1 := hS.keep h3 no30
  rw [bnd_e, bnd_e, bnd_e, hS1.1]
  have F1 : fC tbI tbA [] g1 (tI (tI (tI g1 12 6 (nI (bN b))) 12 7 0) 12 8 1) := (((fC.refl g1).tI (by decide)).tI (by decide)).tI (by decide)
  refine (begin_lp (b := setS b S) (P := P) (wf_setS hw hSt) (bN b) 0 fuel (tI (tI (tI g1 12 6 (nI (bN b))) 12 7 0) 12 8 1) (by show 0 + bN b = bN b; omega) (by unfold fuel; omega) (Or.inr trivial) ?_ h1 ?_ ?_ ?_ (fun m hm => absurd hm (Nat.not_lt_zero m)) (fun m hm => absurd hm (Nat.not_lt_zero m))).mono ?_
  · show g1.1 30 3 = _
    exact hS1.2.1
  · rw [tI_n (by omega), tI_n (by omega), tI_s]; rfl
  · rw [tI_n (by omega), tI_s, Nat.sub_zero, Nat.sub_self]; rfl
  · rw [tI_s, Nat.sub_zero, Nat.sub_self]; rfl
  · rintro z ⟨z1, z2, z3⟩
    refine ⟨z1, z2, fun m hm => ?_, ?_, (h3.trans F1).trans (z3.mono (by decide) (by decide) (by decide))⟩
    · rw [z3.2.1 13 (by decide), z3.2.1 14 (by decide)]; exact h1 m hm
    · rw [z3.i 12 1 (by decide)]; exact h2
end
/-! one row on -/
section
variable {b : AB} {P : PL}
theorem nib {v : Nat → Nat} {m : Nat} (h : ∀ j, j < 6 → v j < 16) (hm : m < 6) : (jush (nI (l6 v)) (nI (4 * m)) &&& (15 : Int32)) = nI (v m) := by
  have := l6_lt h
  rw [jush_n (by omega) (by omega), p4, and15, l6_at h hm]
theorem shl_m {x m : Nat} (hx : x < 16) (hm : m < 6) : jshl (nI x) (nI (4 * m)) = nI (x * 16 ^ m) := by
  have h5 : (16 : Nat) ^ m ≤ 16 ^ 5 := Nat.pow_le_pow_right (by omega) (by omega)
  have h6 : x * 16 ^ m ≤ 15 * 16 ^ 5 := Nat.mul_le_mul (by omega) h5
  rw [jshl_n (by omega) (by rw [p4]; omega), p4]
abbrev avI : List (Nat × Nat) := [(12, 9), (12, 10), (12, 11), (12, 12)]
theorem adv_lp (hw : wfB b) {i : Nat} (hi : i < nR b) : ∀ d e f (v : Nat → Nat) (g : CS), e + d = fD b (bN b) → d < f → TB b g → TV b v g → (∀ j, v j = if j < bN b ∧ stk b j = false ∧ e ≤ fD b (bN b - 1 - j) then rwA b i j else 0) → i % bN b ^ e = bN b ^ e - 1 → Ev (fX10_advance_14 P f g (nI (bN b - 1)) (nI (d) - 1)) (fun g' => TB b g' ∧ TV b (rwA b (i + 1)) g' ∧ fC avI [] [] g g') := by
  have hn := hw.2.1
  have hn2 := hw.1
  have hle := fD_le b (bN b)
  intro d
  induction d with
  | zero =>
    intro e f v g he hf hB hV hv hm
    obtain ⟨f, rfl⟩ : ∃ f', f = f' + 1 := ⟨f - 1, by omega⟩
    have he : e = fD b (bN b) := he
    subst he
    rw [fX10_advance_14, if_pos (show nI 0 - 1 < 0 by decide)]
    have ev : v = rwA b (i + 1) := by
      funext j
      rw [hv j]
      unfold rwA
      by_cases h1 : j < bN b ∧ stk b j = false
      · have h2 : fD b (bN b - 1 - j) < fD b (bN b) := by
          have h3 := fD_s h1.1
          rw [h1.2, if_neg (by decide)] at h3
          have h4 : fD b (bN b - j) ≤ fD b (bN b) := fD_mono b (by omega)
          omega
        rw [if_neg (by omega), if_pos h1, row_low hn2 (row_carry hn2 hm).2 h2]
      · rw [if_neg (fun z => h1 ⟨z.1, z.2.1⟩), if_neg h1]
    rw [← ev]
    exact ev_some.mpr ⟨hB, hV, fC.refl g⟩
  | succ d ih =>
    intro e f v g he hf hB hV hv hm
    obtain ⟨f, rfl⟩ : ∃ f', f = f' + 1 := ⟨f - 1, by omega⟩
    obtain ⟨m, hmn, hms, hme⟩ := fD_find b (bN b) (Nat.le_refl _) e (by omega)
    have hv16 : ∀ j, j < 6 → v j < 16 := fun j _ => by rw [hv j]; have := rwA_lt hw i j; split <;> omega
    have hvn : ∀ j, v j < bN b := fun j => by rw [hv j]; have := rwA_lt hw i j; split <;> omega
    have hv0 : ∀ j, bN b ≤ j → v j = 0 := fun j h => by rw [hv j, if_neg (by omega)]
    have hvm : v m = rwA b i m := by rw [hv m, if_pos ⟨hmn, hms, by omega⟩]
    have hrm : rwA b i m = i / bN b ^ e % bN b := by unfold rwA; rw [if_pos ⟨hmn, hms⟩, hme]
    obtain ⟨hV9, hV10, hV11, hV12⟩ := hV
    obtain ⟨b6, b7, b8, b15, b16⟩ := hB
    have hB : TB b g := ⟨b6, b7, b8, b15, b16⟩
    have e15 : g.2.1 15 d = nI m := by have := b15 m hmn hms; rw [hme, show fD b (bN b) - 1 - e = d by omega] at this; exact this
    have hmv := mvA_lt hw v
    have hc : csA b v ≤ 2970 := csA_le hw (fun j _ => hvn j)
    have hpr := prA_rng b m
    have h6l := l6_lt hv16
    rw [fX10_advance_14, nI_pred, if_neg (nI_pos (by omega))]
    refine Ev.k (ib_n (by omega) (by omega)) ?_
    rw [ix_n (by omega), e15, bnd_e, sh4 (by omega), bnd_e]
    refine Ev.k (ib_n (by omega) (by omega)) ?_
    rw [ix_n (by omega), (b16 m hmn hms).1, hV9, b6]
    have hlk := bhA_lk hw v
    rw [plus_l6 hn2 hn (fun j hj => by have := (hlk j hj).1; omega) (fun j hj => by split <;> omega) (fun j hj h => ⟨(hlk j hj).2 h, if_neg (by omega)⟩), bndv_s, bnd_e]
    have up9 : ∀ x, (x = v m + 1 ∨ (v m + 1 = bN b ∧ x = 0)) → l6 (fun j => (bhA b v j + (if alA b m j = true ∧ j < bN b then 1 else 0)) % bN b) = l6 (bhA b (upN v m x)) := fun x hx => lnb_cong (fun j _ => (bhA_up hw hmn hx j).symm)
    have e11 : (tI g 12 9 (nI (l6 (fun j => (bhA b v j + (if alA b m j = true ∧ j < bN b then 1 else 0)) % bN b)))).1 12 11 = nI (l6 v) := by rw [tI_n (by omega)]; exact hV11
    rw [e11, nib hv16 (by omega), iLE (by have := hvn m; omega) (by have := hvn m; omega)]
    have F1 : fC avI [] [] g (tI g 12 9 (nI (l6 (fun j => (bhA b v j + (if alA b m j = true ∧ j < bN b then 1 else 0)) % bN b)))) := (fC.refl g).tI (by decide)
    by_cases hw1 : bN b - 1 ≤ v m
    · -- its round closes
      have hvm1 : v m = bN b - 1 := by have := hvn m; omega
      have hx : (0 = v m + 1 ∨ (v m + 1 = bN b ∧ 0 = 0)) := Or.inr ⟨by omega, rfl⟩
      rw [if_pos hw1, shl_m (by omega) (by omega), bnd_e]
      have k1 := lnb_upN (B := 16) v (m := m) (x := 0) (k := 6) (by omega)
      rw [Nat.zero_mul, Nat.add_zero, hvm1] at k1
      have k2 := cs_upN b v (m := m) (x := 0) hmn
      rw [Nat.mul_zero, Nat.add_zero, hvm1] at k2
      have k3 := mv_upN b v (m := m) (x := 0) hmn
      rw [decide_eq_true (show 0 < v m by omega), decide_eq_false (show ¬ 0 < 0 by omega), Bool.toNat_true, Bool.toNat_false, Nat.one_mul, Nat.zero_mul, Nat.add_zero] at k3
      refine Ev.k (ib_n (by omega) (by omega)) ?_
      rw [bnd_e, bnd_e]
      rw [pk_sub (show (bN b - 1) * 16 ^ m ≤ l6 v by show _ ≤ lnb 16 v 6; omega)]
      have e10 : ∀ x1 x2 : Int32, (tI (tI g 12 9 x1) 12 11 x2).1 12 10 = nI (csA b v) := fun x1 x2 => by rw [tI_n (by omega), tI_n (by omega)]; exact hV10
      have e14 : ∀ x1 x2 : Int32, (tI (tI g 12 9 x1) 12 11 x2).2.1 14 m = nI (prA b m) := fun x1 x2 => (b16 m hmn hms).2
      have e12 : ∀ x1 x2 x3 : Int32, (tI (tI (tI g 12 9 x1) 12 11 x2) 12 10 x3).1 12 12 = nI (mvA b v) := fun x1 x2 x3 => by rw [tI_n (by omega), tI_n (by omega), tI_n (by omega)]; exact hV12
      rw [e10, e14, e12, pk_mul, pk_sub (show (bN b - 1) * prA b m ≤ csA b v by rw [Nat.mul_comm]; omega), shl1 (by omega), clr_bit _ hmv m (by omega) (by rw [mv_tb b v hmn]; exact decide_eq_true (by omega)), bnd_e, m1_sub]
      refine (ih (e + 1) f (upN v m 0) _ (by omega) (by omega) ?_ ⟨?_, ?_, ?_, ?_⟩ (fun j => ?_) (row_next hn2 hm (by rw [← hrm, ← hvm]; exact hvm1))).mono ?_
      · exact hB.keep (oi := avI) (la := []) (ll := []) ((((F1.tI (by decide)).tI (by decide)).tI (by decide))) (by decide) (by decide)
      · rw [tI_n (by omega), tI_n (by omega), tI_n (by omega), tI_s, up9 0 hx]
      · rw [tI_n (by omega), tI_s]
        congr 1
        rw [Nat.mul_comm]
        omega
      · rw [tI_n (by omega), tI_n (by omega), tI_s]
        congr 1
        show lnb 16 v 6 - _ = lnb 16 (upN v m 0) 6
        omega
      · rw [tI_s]
        congr 1
        omega
      · unfold upN
        by_cases ej : j = m
        · rw [if_pos ej, ej, if_neg (by omega)]
        · rw [if_neg ej, hv j]
          by_cases h1 : j < bN b ∧ stk b j = false ∧ e ≤ fD b (bN b - 1 - j)
          · have hne : fD b (bN b - 1 - j) ≠ e := fun z => ej (fD_inj h1.1 hmn h1.2.1 hms (z.trans hme.symm))
            have h2 : j < bN b ∧ stk b j = false ∧ e + 1 ≤ fD b (bN b - 1 - j) := ⟨h1.1, h1.2.1, by omega⟩
            rw [if_pos h1, if_pos h2]
          · rw [if_neg h1, if_neg (fun z => h1 ⟨z.1, z.2.1, by omega⟩)]
      · rintro z ⟨z1, z2, z3⟩
        exact ⟨z1, z2, (((F1.tI (by decide)).tI (by decide)).tI (by decide)).trans z3⟩
    · -- one notch more
      have hx : (v m + 1 = v m + 1 ∨ (v m + 1 = bN b ∧ v m + 1 = 0)) := Or.inl rfl
      rw [if_neg hw1, l_1, shl_m (by omega) (by omega), bnd_e, Nat.one_mul, nI_add]
      have k1 := lnb_upN (B := 16) v (m := m) (x := v m + 1) (k := 6) (by omega)
      rw [Nat.add_mul, Nat.one_mul] at k1
      have k2 := cs_upN b v (m := m) (x := v m + 1) hmn
      rw [Nat.mul_add, Nat.mul_one] at k2
      have k3 := mv_upN b v (m := m) (x := v m + 1) hmn
      rw [decide_eq_true (show 0 < v m + 1 by omega), Bool.toNat_true, Nat.one_mul] at k3
      refine Ev.k (ib_n (by omega) (by omega)) ?_
      rw [bnd_e, bnd_e]
      have e10 : ∀ x1 x2 : Int32, (tI (tI g 12 9 x1) 12 11 x2).1 12 10 = nI (csA b v) := fun x1 x2 => by rw [tI_n (by omega), tI_n (by omega)]; exact hV10
      have e14 : ∀ x1 x2 : Int32, (tI (tI g 12 9 x1) 12 11 x2).2.1 14 m = nI (prA b m) := fun x1 x2 => (b16 m hmn hms).2
      have e12 : ∀ x1 x2 x3 : Int32, (tI (tI (tI g 12 9 x1) 12 11 x2) 12 10 x3).1 12 12 = nI (mvA b v) := fun x1 x2 x3 => by rw [tI_n (by omega), tI_n (by omega), tI_n (by omega)]; exact hV12
      rw [e10, e14, e12, nI_add, ← l_1, shl1 (by omega), set_bit _ hmv m (by omega), mv_tb b v hmn]
      have ev : ∀ j, j < bN b → upN v m (v m + 1) j = rwA b (i + 1) j := fun j hj => by
        have hdl : i / bN b ^ e % bN b < bN b - 1 := by rw [← hrm, ← hvm]; have := hvn m; omega
        have hcy := row_carry hn2 hm
        unfold upN
        by_cases ej : j = m
        · rw [if_pos ej, ej]
          unfold rwA
          rw [if_pos ⟨hmn, hms⟩, hme, row_digit hn2 hcy.1, if_pos hdl, hvm, hrm]
        · rw [if_neg ej, hv j]
          by_cases h1 : stk b j = false
          · have hne : fD b (bN b - 1 - j) ≠ e := fun z => ej (fD_inj hj hmn h1 hms (z.trans hme.symm))
            by_cases h2 : e ≤ fD b (bN b - 1 - j)
            · rw [if_pos ⟨hj, h1, h2⟩]
              unfold rwA
              rw [if_pos ⟨hj, h1⟩, if_pos ⟨hj, h1⟩, row_high hn2 hcy.1 hdl (by omega)]
            · rw [if_neg (by omega)]
              unfold rwA
              rw [if_pos ⟨hj, h1⟩, row_low hn2 hcy.2 (by omega)]
          · rw [if_neg (fun z => h1 z.2.1)]
            unfold rwA
            rw [if_neg (fun z => h1 z.2)]
      have ev6 : l6 (rwA b (i + 1)) = l6 (upN v m (v m + 1)) := lnb_cong (fun j _ => by
        by_cases hj : j < bN b
        · exact (ev j hj).symm
        · unfold rwA upN
          rw [if_neg (by omega), if_neg (by omega), hv0 j (by omega)])
      refine ev_some.mpr ⟨hB.keep (oi := avI) (la := []) (ll := []) ((((F1.tI (by decide)).tI (by decide)).tI (by decide))) (by decide) (by decide), ⟨?_, ?_, ?_, ?_⟩, ((F1.tI (by decide)).tI (by decide)).tI (by decide)⟩
      · rw [tI_n (by omega), tI_n (by omega), tI_n (by omega), tI_s, up9 _ hx, bhA_cong ev]
      · rw [tI_n (by omega), tI_s, ← csA_cong ev]
        congr 1
        omega
      · rw [tI_n (by omega), tI_n (by omega), tI_s, ev6]
        congr 1
        show lnb 16 v 6 + _ = lnb 16 (upN v m (v m + 1)) 6
        omega
      · rw [tI_s, ← mvA_cong ev]
        congr 1
        by_cases h0 : 0 < v m
        · rw [decide_eq_true h0, if_pos rfl]
          rw [decide_eq_true h0, Bool.toNat_true, Nat.one_mul] at k3
          omega
        · rw [decide_eq_false h0, if_neg (by decide)]
          rw [decide_eq_false h0, Bool.toNat_false, Nat.zero_mul, Nat.add_zero] at k3
          omega
theorem adv_eq (hw : wfB b) {i : Nat} (hi : i < nR b) {g : CS} (hB : TB b g) (hV : TV b (rwA b i) g) : Ev (fX10_advance P g) (fun g' => TB b g' ∧ TV b (rwA b (i + 1)) g' ∧ fC avI [] [] g g') := by
  have hn := hw.2.1
  have hn2 := hw.1
  have hle := fD_le b (bN b)
  unfold fX10_advance
  rw [hB.1, hB.2.1, bnd_e, bnd_e]
  have e1 : nI (bN b) - (1 : Int32) = nI (bN b - 1) := by rw [l_1, pk_sub (by omega)]
  rw [e1]
  exact adv_lp hw hi (fD b (bN b)) 0 fuel (rwA b i) g (by omega) (by unfold fuel; omega) hB hV (fun j => by
    unfold rwA
    by_cases h : j < bN b ∧ stk b j = false
    · rw [if_pos h, if_pos ⟨h.1, h.2, Nat.zero_le _⟩]
    · rw [if_neg h, if_neg (fun z => h ⟨z.1, z.2.1⟩)]) (by rw [Nat.pow_zero, Nat.mod_one])
end
