/-! ===== the class's tokens ===== -/
theorem cLt_eq {c : Nat} (h : c < 256) : fX8_isLetter (nI c) = some (nI (isLt c).toNat) := (by decide +kernel : ∀ c, c < 256 → fX8_isLetter (nI c) = some (nI (isLt c).toNat)) c h
theorem cDg_eq {c : Nat} (h : c < 256) : fX8_isDigit (nI c) = some (nI (isDg c).toNat) := (by decide +kernel : ∀ c, c < 256 → fX8_isDigit (nI c) = some (nI (isDg c).toNat)) c h
theorem cSg_eq {c : Nat} (h : c < 256) : fX8_isSign (nI c) = some (nI (isSg c).toNat) := (by decide +kernel : ∀ c, c < 256 → fX8_isSign (nI c) = some (nI (isSg c).toNat)) c h
theorem cBl_eq {c : Nat} (h : c < 256) : fX8_isBlank (nI c) = some (nI (isBl c).toNat) := (by decide +kernel : ∀ c, c < 256 → fX8_isBlank (nI c) = some (nI (isBl c).toNat)) c h
/-- the class looks at t -/
def CTk (t : Tk) (g : CS) : Prop := g.1 5 2 = nI (tEn t) ∧ g.1 5 4 = nI (tSt t) ∧ g.1 5 3 = nI (tKd t) ∧ (tKd t = 2 ∨ tKd t = 3 → g.1 5 5 = nI (tVl t))
def CB (B : Nat → Nat) (N : Nat) (g : CS) : Prop := g.1 5 1 = nI N ∧ ∀ k, k < N → g.2.1 1 k = (nI (B k)).toInt8.toInt32 ∧ B k < 256
theorem CB.keep {B : Nat → Nat} {N : Nat} {g g' : CS} {oi : List (Nat × Nat)} {la ll : List Nat} (h : CB B N g) (f : fC oi la ll g g') (h1 : (5, 1) ∉ oi) (h2 : 1 ∉ la) : CB B N g' := ⟨by rw [f.i 5 1 h1]; exact h.1, fun k hk => by rw [f.2.1 1 h2]; exact h.2 k hk⟩
theorem CTk.keep {t : Tk} {g g' : CS} {oi : List (Nat × Nat)} {la ll : List Nat} (h : CTk t g) (f : fC oi la ll g g') (h1 : (5, 2) ∉ oi ∧ (5, 3) ∉ oi ∧ (5, 4) ∉ oi ∧ (5, 5) ∉ oi) : CTk t g' := ⟨by rw [f.i 5 2 h1.1]; exact h.1, by rw [f.i 5 4 h1.2.2.1]; exact h.2.1, by rw [f.i 5 3 h1.2.1]; exact h.2.2.1, fun z => by rw [f.i 5 5 h1.2.2.2]; exact h.2.2.2 z⟩
section
variable {B : Nat → Nat} {N : Nat} {P : PL} {g : CS}
theorem sAt_in {p : Nat} (hN : N ≤ 900) (h : CB B N g) (hp : p < N) : fX8_signAt P g (nI p) = some (nI (B p), g) := by
  unfold fX8_signAt
  rw [if_neg (show ¬ nI p < 0 from nI_nlt (b := 0) (by omega) (by omega)), h.1, if_neg (nI_ge hp (by omega)), chk_tt (ib_n (by omega) (by omega)), ix_n (by omega), (h.2 p hp).1, sc_k8 _ (h.2 p hp).2]
theorem sAt_out {p : Nat} (hN : N ≤ 900) (h : CB B N g) (hp : N ≤ p) (hp2 : p < 2 ^ 31) : fX8_signAt P g (nI p) = some (-1, g) := by
  unfold fX8_signAt
  rw [if_neg (show ¬ nI p < 0 from nI_nlt (b := 0) (by omega) (by omega)), h.1, if_pos (nI_le hp hp2)]
abbrev lcI : List (Nat × Nat) := [(5, 2), (5, 3), (5, 4), (5, 5)]
theorem word92 (hN : N ≤ 900) : ∀ d p f (g : CS), p + d = N → d < f → CB B N g → g.1 5 2 = nI p → Ev (fX8_step_92 P f g) (fun g' => g'.1 5 2 = nI (rnR B isLt d p) ∧ fC [(5, 2)] [] [] g g') := by
  intro d
  induction d with
  | zero =>
    intro p f g hp hf h h2
    obtain ⟨f, rfl⟩ : ∃ f', f = f' + 1 := ⟨f - 1, by omega⟩
    rw [fX8_step_92, h.1, h2, if_pos (nI_le (by omega) (by omega))]
    exact ev_some.mpr ⟨h2, fC.refl g⟩
  | succ d ih =>
    intro p f g hp hf h h2
    obtain ⟨f, rfl⟩ : ∃ f', f = f' + 1 := ⟨f - 1, by omega⟩
    have hb := (h.2 p (by omega)).2
    rw [fX8_step_92, h.1, h2, if_neg (nI_ge (by omega) (by omega)), sAt_in hN h (by omega), bndc_s, cLt_eq hb, bndv_s]
    unfold rnR
    cases c : isLt (B p) with
    | false =>
      rw [if_pos (show nI false.toNat = 0 from rfl), if_neg (show ¬ false = true by decide)]
      exact ev_some.mpr ⟨h2, fC.refl g⟩
    | true =>
      rw [if_neg (show ¬ nI true.toNat = 0 by decide), if_pos rfl, h2, nI_1, bnd_e]
      have f1 : fC [(5, 2)] [] [] g (tI g 5 2 (nI (p + 1))) := (fC.refl g).tI (by decide)
      exact (ih (p + 1) f _ (by omega) (by omega) (h.keep f1 (by decide) (by decide)) tI_s).mono (fun z hz => ⟨hz.1, f1.trans hz.2⟩)
theorem num145 (hN : N ≤ 900) {s : Nat} : ∀ d p f (g : CS), p + d = N → d < f → s ≤ p → CB B N g → (∀ j, s ≤ j → j < p → isDg (B j) = true) → g.1 5 2 = nI p → g.1 5 4 = nI s → (∃ v, v ≤ 1000 ∧ g.1 5 5 = nI v ∧ (p - s ≤ 3 → v = dgV B s (p - s))) → Ev (fX8_step_145 P f g) (fun g' => g'.1 5 2 = nI (rnR B isDg d p) ∧ g'.1 5 3 = (if rnR B isDg d p - s ≤ 3 then 2 else 4) ∧ (rnR B isDg d p - s ≤ 3 → g'.1 5 5 = nI (dgV B s (rnR B isDg d p - s))) ∧ fC [(5, 2), (5, 3), (5, 5)] [] [] g g') := by
  have fin : ∀ p (g : CS), s ≤ p → p ≤ N → g.1 5 2 = nI p → g.1 5 4 = nI s → (∃ v, v ≤ 1000 ∧ g.1 5 5 = nI v ∧ (p - s ≤ 3 → v = dgV B s (p - s))) → Ev (fX8_step_212 P g) (fun g' => g'.1 5 2 = nI p ∧ g'.1 5 3 = (if p - s ≤ 3 then 2 else 4) ∧ (p - s ≤ 3 → g'.1 5 5 = nI (dgV B s (p - s))) ∧ fC [(5, 2), (5, 3), (5, 5)] [] [] g g') := by
    intro p g hs hp h2 h4 ⟨v, v1, v2, v3⟩
    unfold fX8_step_212 fX8_step_231
    rw [h2, h4, pk_sub hs, l_3, iLT (by omega) (by omega)]
    by_cases c : p - s ≤ 3
    · rw [if_neg (by omega), if_pos c, bnd_e]
      exact ev_some.mpr ⟨by rw [tI_n (by omega)]; exact h2, tI_s, fun _ => by rw [tI_n (by omega), v2, v3 c], (fC.refl g).tI (by decide)⟩
    · rw [if_pos (by omega), if_neg c, bnd_e]
      exact ev_some.mpr ⟨by rw [tI_n (by omega)]; exact h2, tI_s, fun z => absurd z c, (fC.refl g).tI (by decide)⟩
  intro d
  induction d with
  | zero =>
    intro p f g hp hf hs h hd h2 h4 hv
    obtain ⟨f, rfl⟩ : ∃ f', f = f' + 1 := ⟨f - 1, by omega⟩
    rw [fX8_step_145, h.1, h2, if_pos (nI_le (by omega) (by omega)), show rnR B isDg 0 p = p from rfl]
    exact fin p g hs (by omega) h2 h4 hv
  | succ d ih =>
    intro p f g hp hf hs h hd h2 h4 hv
    obtain ⟨f, rfl⟩ : ∃ f', f = f' + 1 := ⟨f - 1, by omega⟩
    have hb := (h.2 p (by omega)).2
    rw [fX8_step_145, h.1, h2, if_neg (nI_ge (by omega) (by omega)), sAt_in hN h (by omega), bndc_s, cDg_eq hb, bndv_s]
    unfold rnR
    cases c : isDg (B p) with
    | false =>
      rw [if_pos (show nI false.toNat = 0 from rfl), if_neg (show ¬ false = true by decide)]
      exact fin p g hs (by omega) h2 h4 hv
    | true =>
      have hd48 := of_decide_eq_true c
      obtain ⟨v, v1, v2, v3⟩ := hv
      rw [if_neg (show ¬ nI true.toNat = 0 by decide), if_pos rfl, h2, sAt_in hN h (by omega), bndc_s, v2, l_10, pk_mul, nI_add, l_48, pk_sub (by omega), l_1000, jmin_n (by omega) (by omega), bnd_e, bnd_e]
      have e2 : ∀ x : Int32, (tI g 5 5 x).1 5 2 = nI p := fun x => by rw [tI_n (by omega)]; exact h2
      rw [e2, nI_1]
      have f1 : fC [(5, 2), (5, 3), (5, 5)] [] [] g (tI (tI g 5 5 (nI (if 1000 < v * 10 + B p - 48 then 1000 else v * 10 + B p - 48))) 5 2 (nI (p + 1))) := ((fC.refl g).tI (by decide)).tI (by decide)
      refine (ih (p + 1) f _ (by omega) (by omega) (by omega) (h.keep f1 (by decide) (by decide)) (fun j j1 j2 => ?_) tI_s (by rw [f1.i 5 4 (by decide)]; exact h4) ⟨_, ?_, by rw [tI_n (by omega)]; exact tI_s, fun z => ?_⟩).mono (fun z hz => ⟨hz.1, hz.2.1, hz.2.2.1, f1.trans hz.2.2.2⟩)
      · by_cases e : j = p
        · rw [e]; exact c
        · exact hd j j1 (by omega)
      · split <;> omega
      · have hlt := dgV_lt (B := B) (s := s) (p - s) (fun j hj => hd (s + j) (by omega) (by omega))
        have hp3 : 10 ^ (p - s) ≤ 10 ^ 2 := Nat.pow_le_pow_right (by omega) (by omega)
        have ev := v3 (by omega)
        rw [if_neg (by omega), show p + 1 - s = p - s + 1 by omega]
        show _ = 10 * dgV B s (p - s) + (B (s + (p - s)) - 48)
        rw [show s + (p - s) = p by omega]
        omega
theorem step38 (hN : N ≤ 900) {s : Nat} (hs : s ≤ N) (h : CB B N g) (h2 : g.1 5 2 = nI s) : Ev (fX8_step_38 P g) (fun g' => CTk (tk0 B N s) g' ∧ fC lcI [] [] g g') := by
  unfold fX8_step_38 tk0
  have f0 : fC lcI [] [] g (tI g 5 4 (nI s)) := (fC.refl g).tI (by decide)
  have e2 : (tI g 5 4 (nI s)).1 5 2 = nI s := by rw [tI_n (by omega)]; exact h2
  rw [h2, bnd_e, e2]
  by_cases c0 : N ≤ s
  · rw [sAt_out hN (h.keep f0 (by decide) (by decide)) c0 (by omega), bndc_s, bnd_e]
    have f1 : fC lcI [] [] g (tI (tI g 5 4 (nI s)) 5 5 (-1)) := f0.tI (by decide)
    have e2' : (tI (tI g 5 4 (nI s)) 5 5 (-1)).1 5 2 = nI s := by rw [tI_n (by omega)]; exact e2
    rw [e2', (h.keep f1 (by decide) (by decide)).1, iLT (by omega) (by omega), if_neg (by omega), if_pos c0, bnd_e]
    refine ev_some.mpr ⟨⟨by rw [tI_n (by omega)]; exact e2', by rw [tI_n (by omega), tI_n (by omega)]; exact tI_s, tI_s, fun z => ?_⟩, f1.tI (by decide)⟩
    rcases z with z | z
    · exact absurd (show (0 : Nat) = 2 from z) (by decide)
    · exact absurd (show (0 : Nat) = 3 from z) (by decide)
  obtain ⟨b1, b2⟩ := h.2 s (by omega)
  rw [sAt_in hN (h.keep f0 (by decide) (by decide)) (by omega), bndc_s, bnd_e]
  have f1 : fC lcI [] [] g (tI (tI g 5 4 (nI s)) 5 5 (nI (B s))) := f0.tI (by decide)
  have h1 := h.keep f1 (by decide) (by decide)
  have e2' : (tI (tI g 5 4 (nI s)) 5 5 (nI (B s))).1 5 2 = nI s := by rw [tI_n (by omega)]; exact e2
  have e5' : (tI (tI g 5 4 (nI s)) 5 5 (nI (B s))).1 5 5 = nI (B s) := tI_s
  have e4' : (tI (tI g 5 4 (nI s)) 5 5 (nI (B s))).1 5 4 = nI s := by rw [tI_n (by omega)]; exact tI_s
  rw [e2', h1.1, iLT (by omega) (by omega), if_pos (show s < N by omega), if_neg c0, e5', cLt_eq b2, bndv_s]
  cases c1 : isLt (B s) with
  | true =>
    rw [if_neg (show ¬ nI true.toNat = 0 by decide), if_pos rfl, bnd_e]
    have f2 : fC lcI [] [] g (tI (tI (tI g 5 4 (nI s)) 5 5 (nI (B s))) 5 3 1) := f1.tI (by decide)
    refine (word92 hN (N - s) s fuel (tI (tI (tI g 5 4 (nI s)) 5 5 (nI (B s))) 5 3 1) (by omega) (by unfold fuel; omega) (h.keep f2 (by decide) (by decide)) (by rw [tI_n (by omega)]; exact e2')).mono ?_
    rintro z ⟨z1, z2⟩
    refine ⟨⟨z1, by rw [z2.i 5 4 (by decide), tI_n (by omega)]; exact e4', by rw [z2.i 5 3 (by decide)]; exact tI_s, fun z => ?_⟩, f2.trans (z2.mono (by decide) (by decide) (by decide))⟩
    rcases z with z | z
    · exact absurd (show (1 : Nat) = 2 from z) (by decide)
    · exact absurd (show (1 : Nat) = 3 from z) (by decide)
  | false =>
    rw [if_pos (show nI false.toNat = 0 from rfl), if_neg (show ¬ false = true by decide), cDg_eq b2, bndv_s]
    cases c2 : isDg (B s) with
    | true =>
      rw [if_neg (show ¬ nI true.toNat = 0 by decide), if_pos rfl, bnd_e]
      have f2 : fC lcI [] [] g (tI (tI (tI g 5 4 (nI s)) 5 5 (nI (B s))) 5 5 0) := f1.tI (by decide)
      refine (num145 hN (s := s) (N - s) s fuel (tI (tI (tI g 5 4 (nI s)) 5 5 (nI (B s))) 5 5 0) (by omega) (by unfold fuel; omega) (Nat.le_refl s) (h.keep f2 (by decide) (by decide)) (fun j j1 j2 => by omega) (by rw [tI_n (by omega)]; exact e2') (by rw [tI_n (by omega)]; exact e4') ⟨0, by omega, tI_s, fun _ => by rw [Nat.sub_self]; rfl⟩).mono ?_
      rintro z ⟨z1, z2, z3, z4⟩
      have F := f2.trans (z4.mono (by decide) (by decide) (by decide))
      have e4z : z.1 5 4 = nI s := by rw [z4.i 5 4 (by decide), tI_n (by omega)]; exact e4'
      by_cases c3 : rnR B isDg (N - s) s - s ≤ 3
      · rw [if_pos c3] at z2 ⊢
        exact ⟨⟨z1, e4z, z2, fun _ => z3 c3⟩, F⟩
      · rw [if_neg c3] at z2 ⊢
        refine ⟨⟨z1, e4z, z2, fun z => ?_⟩, F⟩
        rcases z with z | z
        · exact absurd (show (4 : Nat) = 2 from z) (by decide)
        · exact absurd (show (4 : Nat) = 3 from z) (by decide)
    | false =>
      rw [if_pos (show nI false.toNat = 0 from rfl), if_neg (show ¬ false = true by decide), cSg_eq b2, bndv_s]
      unfold fX8_step_253
      cases c3 : isSg (B s) with
      | true =>
        rw [if_neg (show ¬ nI true.toNat = 0 by decide), if_pos rfl, bnd_e, bnd_e]
        have e2'' : (tI (tI (tI g 5 4 (nI s)) 5 5 (nI (B s))) 5 3 (3 : Int32)).1 5 2 = nI s := by rw [tI_n (by omega)]; exact e2'
        rw [e2'', nI_1]
        exact ev_some.mpr ⟨⟨tI_s, by rw [tI_n (by omega), tI_n (by omega)]; exact e4', by rw [tI_n (by omega)]; exact tI_s, fun _ => by rw [tI_n (by omega), tI_n (by omega)]; exact e5'⟩, (f1.tI (by decide)).tI (by decide)⟩
      | false =>
        rw [if_pos (show nI false.toNat = 0 from rfl), if_neg (show ¬ false = true by decide), bnd_e, bnd_e]
        have e2'' : (tI (tI (tI g 5 4 (nI s)) 5 5 (nI (B s))) 5 3 (4 : Int32)).1 5 2 = nI s := by rw [tI_n (by omega)]; exact e2'
        rw [e2'', nI_1]
        refine ev_some.mpr ⟨⟨tI_s, by rw [tI_n (by omega), tI_n (by omega)]; exact e4', by rw [tI_n (by omega)]; exact tI_s, fun z => ?_⟩, (f1.tI (by decide)).tI (by decide)⟩
        rcases z with z | z
        · exact absurd (show (4 : Nat) = 2 from z) (by decide)
        · exact absurd (show (4 : Nat) = 3 from z) (by decide)
theorem step_lp (hN : N ≤ 900) : ∀ d p f (g : CS), p + d = N → d < f → CB B N g → g.1 5 2 = nI p → Ev (fX8_step_0 P f g) (fun g' => CTk (tk0 B N (rnR B isBl d p)) g' ∧ fC lcI [] [] g g') := by
  intro d
  induction d with
  | zero =>
    intro p f g hp hf h h2
    obtain ⟨f, rfl⟩ : ∃ f', f = f' + 1 := ⟨f - 1, by omega⟩
    rw [fX8_step_0, h.1, h2, if_pos (nI_le (by omega) (by omega)), show rnR B isBl 0 p = p from rfl]
    exact step38 hN (by omega) h h2
  | succ d ih =>
    intro p f g hp hf h h2
    obtain ⟨f, rfl⟩ : ∃ f', f = f' + 1 := ⟨f - 1, by omega⟩
    have hb := (h.2 p (by omega)).2
    rw [fX8_step_0, h.1, h2, if_neg (nI_ge (by omega) (by omega)), sAt_in hN h (by omega), bndc_s, cBl_eq hb, bndv_s]
    unfold rnR
    cases c : isBl (B p) with
    | false =>
      rw [if_pos (show nI false.toNat = 0 from rfl), if_neg (show ¬ false = true by decide)]
      exact step38 hN (by omega) h h2
    | true =>
      rw [if_neg (show ¬ nI true.toNat = 0 by decide), if_pos rfl, h2, nI_1, bnd_e]
      have f1 : fC lcI [] [] g (tI g 5 2 (nI (p + 1))) := (fC.refl g).tI (by decide)
      exact (ih (p + 1) f _ (by omega) (by omega) (h.keep f1 (by decide) (by decide)) tI_s).mono (fun z hz => ⟨hz.1, f1.trans hz.2⟩)
theorem step_eq (hN : N ≤ 900) {p : Nat} (hp : p ≤ N) (h : CB B N g) (h2 : g.1 5 2 = nI p) : Ev (fX8_step P g) (fun g' => CTk (tok B N p) g' ∧ fC lcI [] [] g g') := step_lp hN (N - p) p fuel g (by omega) (by unfold fuel; omega) h h2
end
/-! words and signs -/
def isW (B : Nat → Nat) (t : Tk) (w : List Int32) : Bool := decide (tKd t = 1 ∧ tEn t - tSt t = w.length ∧ ∀ j, j < w.length → nI (B (tSt t + j)) = w.getD j 0)
section
variable {B : Nat → Nat} {N p : Nat}
theorem cWord_lp {P : PL} {g : CS} (hN : N ≤ 900) (h : CB B N g) {t : Tk} (ht : CTk t g) (hen : tEn t ≤ N) (i : Nat) (hl : tEn t - tSt t = (tx i).length) (hk : tKd t = 1) (hpos : tSt t ≤ tEn t) : ∀ d k f, k + d = (tx i).length → d < f → (∀ j, j < k → nI (B (tSt t + j)) = (tx i).getD j 0) → fX8_isWord_28 P f g i (nI k) = some (nI (isW B t (tx i)).toNat, g) := by
  intro d
  induction d with
  | zero =>
    intro k f hkd hf hj
    obtain ⟨f, rfl⟩ : ∃ f', f = f' + 1 := ⟨f - 1, by omega⟩
    rw [fX8_isWord_28, if_pos (nI_le (by omega) (by omega))]
    have e : isW B t (tx i) = true := decide_eq_true ⟨hk, hl, fun j hj2 => hj j (by omega)⟩
    rw [e]
    rfl
  | succ d ih =>
    intro k f hkd hf hj
    obtain ⟨f, rfl⟩ : ∃ f', f = f' + 1 := ⟨f - 1, by omega⟩
    rw [fX8_isWord_28, if_neg (nI_ge (by omega) (by omega)), ht.2.1, nI_add, sAt_in hN h (by omega), bndc_s, chk_tt (ib_n (by omega) (by omega)), ix_n (by omega)]
    by_cases c : nI (B (tSt t + k)) = (tx i).getD k 0
    · rw [if_pos c, nI_1, bnd_e]
      refine ih (k + 1) f (by omega) (by omega) (fun j hj2 => ?_)
      by_cases e : j = k
      · rw [e]; exact c
      · exact hj j (by omega)
    · rw [if_neg c]
      have e : isW B t (tx i) = false := decide_eq_false (fun z => c (z.2.2 k (by omega)))
      rw [e]
      rfl
theorem cWord_eq {P : PL} {g : CS} (hN : N ≤ 900) (hp : p ≤ N) (h : CB B N g) (ht : CTk (tok B N p) g) (i : Nat) (hi : (tx i).length < 100) : fX8_isWord P g i = some (nI (isW B (tok B N p) (tx i)).toNat, g) := by
  obtain ⟨r1, r2, r3, r4, r5, r6, r7, r8⟩ := tok_rng B N p hp
  unfold fX8_isWord
  rw [ht.2.2.1, l_1, iEQ (by omega) (by omega)]
  by_cases c1 : tKd (tok B N p) = 1
  · rw [if_pos c1, ht.1, ht.2.1, pk_sub r2, iEQ (by omega) (by omega)]
    by_cases c2 : tEn (tok B N p) - tSt (tok B N p) = (tx i).length
    · rw [if_pos c2]
      exact cWord_lp hN h ht r3 i c2 c1 r2 (tx i).length 0 fuel (by omega) (by unfold fuel; omega) (fun j hj => absurd hj (Nat.not_lt_zero j))
    · rw [if_neg c2]
      have e : isW B (tok B N p) (tx i) = false := decide_eq_false (fun z => c2 z.2.1)
      rw [e]
      rfl
  · rw [if_neg c1]
    have e : isW B (tok B N p) (tx i) = false := decide_eq_false (fun z => c1 z.1)
    rw [e]
    rfl
theorem mWord_lp {g : MS} (hN : N ≤ 900) (h : MB B N g) {t : Tk} (ht : RTk t g) (hen : tEn t ≤ N) (i : Nat) (hl : tEn t - tSt t = (tx i).length) (hk : tKd t = 1) (hpos : tSt t ≤ tEn t) : ∀ d k f, k + d = (tx i).length → d + 1 < f → (∀ j, j < k → nI (B (tSt t + j)) = (tx i).getD j 0) → fX12_isWord_39 f g i 1 (nI k) = some (nI (isW B t (tx i)).toNat, g) := by
  intro d
  induction d with
  | zero =>
    intro k f hkd hf hj
    obtain ⟨f, rfl⟩ : ∃ f', f = f' + 1 := ⟨f - 1, by omega⟩
    rw [fX12_isWord_39, if_neg (by decide), if_pos (nI_le (by omega) (by omega)), chk_tt (by decide)]
    have e : isW B t (tx i) = true := decide_eq_true ⟨hk, hl, fun j hj2 => hj j (by omega)⟩
    rw [e]
    rfl
  | succ d ih =>
    intro k f hkd hf hj
    obtain ⟨f, rfl⟩ : ∃ f', f = f' + 1 := ⟨f - 1, by omega⟩
    rw [fX12_isWord_39, if_neg (by decide), if_neg (nI_ge (by omega) (by omega)), ht.2.1, nI_add, chk_tt (ib_n (by omega) (by omega)), chk_tt (ib_n (by omega) (by omega)), ix_n (by omega), ix_n (by omega), (h.2 _ (by omega)).1]
    by_cases c : nI (B (tSt t + k)) = (tx i).getD k 0
    · rw [if_pos c, nI_1, bnd_e]
      refine ih (k + 1) f (by omega) (by omega) (fun j hj2 => ?_)
      by_cases e : j = k
      · rw [e]; exact c
      · exact hj j (by omega)
    · rw [if_neg c, nI_1, bnd_e]
      have e : isW B t (tx i) = false := decide_eq_false (fun z => c (z.2.2 k (by omega)))
      obtain ⟨f, rfl⟩ : ∃ f', f = f' + 1 := ⟨f - 1, by omega⟩
      rw [fX12_isWord_39, if_pos rfl, chk_tt (by decide), e]
      rfl
theorem tkM_1 {B : Nat → Nat} {N p : Nat} (hp : p ≤ N) : tkM (tok B N p) = 1 ↔ tKd (tok B N p) = 1 := by
  obtain ⟨r1, r2, r3, r4, r5, r6, r7, r8⟩ := tok_rng B N p hp
  unfold tkM
  by_cases c3 : tKd (tok B N p) = 3
  · have hv := of_decide_eq_true (r7 c3)
    rw [if_pos c3, l_1, nI_eq (by omega) (by omega)]
    omega
  · rw [if_neg c3]
    by_cases c4 : tKd (tok B N p) = 4
    · rw [if_pos c4]
      exact ⟨fun z => absurd z (by decide), fun z => by omega⟩
    · rw [if_neg c4, l_1, nI_eq (by omega) (by omega)]
theorem isWord_no {g : MS} (i : Nat) : fX12_isWord_35 g i = some (0, g) := by
  unfold fX12_isWord_35 fX12_isWord_36
  rw [show fuel = fuel - 1 + 1 by unfold fuel; omega, fX12_isWord_39, if_pos rfl, chk_tt (by decide)]
theorem mWord_eq {g : MS} (hN : N ≤ 900) (hp : p ≤ N) (h : MB B N g) (hb : g.1 12 = 0) (ht : RTk (tok B N p) g) (i : Nat) (hi : (tx i).length < 100) : fX12_isWord g i = some (nI (isW B (tok B N p) (tx i)).toNat, g) := by
  obtain ⟨r1, r2, r3, r4, r5, r6, r7, r8⟩ := tok_rng B N p hp
  unfold fX12_isWord
  rw [if_pos hb, ht.2.2.1]
  by_cases c1 : tKd (tok B N p) = 1
  · rw [if_pos ((tkM_1 hp).mpr c1), ht.1, ht.2.1, pk_sub r2, iEQ (by omega) (by omega)]
    by_cases c2 : tEn (tok B N p) - tSt (tok B N p) = (tx i).length
    · rw [if_pos c2]
      exact mWord_lp hN h ht r3 i c2 c1 r2 (tx i).length 0 fuel (by omega) (by unfold fuel; omega) (fun j hj => absurd hj (Nat.not_lt_zero j))
    · rw [if_neg c2, isWord_no]
      have e : isW B (tok B N p) (tx i) = false := decide_eq_false (fun z => c2 z.2.1)
      rw [e]
      rfl
  · rw [if_neg (fun z => c1 ((tkM_1 hp).mp z)), isWord_no]
    have e : isW B (tok B N p) (tx i) = false := decide_eq_false (fun z => c1 z.1)
    rw [e]
    rfl
theorem mWord_bad {g : MS} (hb : ¬ g.1 12 = 0) (i : Nat) : fX12_isWord g i = some (0, g) := by
  unfold fX12_isWord
  rw [if_neg hb, isWord_no]
def isS (t : Tk) (c : Nat) : Bool := decide (tKd t = 3 ∧ tVl t = c)
theorem cSign_eq {P : PL} {g : CS} (hp : p ≤ N) (ht : CTk (tok B N p) g) {c : Nat} (hc : c < 256) : fX8_isSignOf P g (nI c) = some (nI (isS (tok B N p) c).toNat, g) := by
  obtain ⟨r1, r2, r3, r4, r5, r6, r7, r8⟩ := tok_rng B N p hp
  unfold fX8_isSignOf
  rw [ht.2.2.1, l_3, iEQ (by omega) (by omega)]
  by_cases c3 : tKd (tok B N p) = 3
  · have hv := of_decide_eq_true (r7 c3)
    rw [if_pos c3, ht.2.2.2 (Or.inr c3), iEQ (by omega) (by omega)]
    by_cases e : tVl (tok B N p) = c
    · rw [if_pos e, show isS (tok B N p) c = true from decide_eq_true ⟨c3, e⟩]; rfl
    · rw [if_neg e, show isS (tok B N p) c = false from decide_eq_false (fun z => e z.2)]; rfl
  · rw [if_neg c3, show isS (tok B N p) c = false from decide_eq_false (fun z => c3 z.1)]; rfl
theorem tkM_s (hp : p ≤ N) {c : Nat} (hc : 5 ≤ c ∧ c < 256) : tkM (tok B N p) = nI c ↔ isS (tok B N p) c = true := by
  obtain ⟨r1, r2, r3, r4, r5, r6, r7, r8⟩ := tok_rng B N p hp
  unfold tkM
  by_cases c3 : tKd (tok B N p) = 3
  · have hv := of_decide_eq_true (r7 c3)
    rw [if_pos c3, nI_eq (by omega) (by omega)]
    exact ⟨fun z => decide_eq_true ⟨c3, z⟩, fun z => (of_decide_eq_true z).2⟩
  · rw [if_neg c3]
    have no : ¬ isS (tok B N p) c = true := fun z => c3 (of_decide_eq_true z).1
    by_cases c4 : tKd (tok B N p) = 4
    · rw [if_pos c4, l_3, nI_eq (by omega) (by omega)]
      exact ⟨fun z => by omega, fun z => absurd z no⟩
    · rw [if_neg c4, nI_eq (by omega) (by omega)]
      exact ⟨fun z => by omega, fun z => absurd z no⟩
theorem mSign_eq {g : MS} (hp : p ≤ N) (hb : g.1 12 = 0) (ht : RTk (tok B N p) g) {c : Nat} (hc : 5 ≤ c ∧ c < 256) : fX12_isSign g (nI c) = some (nI (isS (tok B N p) c).toNat, g) := by
  unfold fX12_isSign
  rw [if_pos hb, ht.2.2.1]
  cases e : isS (tok B N p) c with
  | true => rw [if_pos ((tkM_s hp hc).mpr e)]; rfl
  | false => rw [if_neg (fun z => by rw [(tkM_s hp hc).mp z] at e; exact absurd e (by decide))]; rfl
theorem mSign_bad {g : MS} (hb : ¬ g.1 12 = 0) (c : Int32) : fX12_isSign g c = some (0, g) := by
  unfold fX12_isSign
  rw [if_neg hb]
theorem tkM_3 (hp : p ≤ N) : tkM (tok B N p) = 3 ↔ tKd (tok B N p) = 4 := by
  obtain ⟨r1, r2, r3, r4, r5, r6, r7, r8⟩ := tok_rng B N p hp
  unfold tkM
  by_cases c3 : tKd (tok B N p) = 3
  · have hv := of_decide_eq_true (r7 c3)
    rw [if_pos c3, l_3, nI_eq (by omega) (by omega)]
    omega
  · rw [if_neg c3]
    by_cases c4 : tKd (tok B N p) = 4
    · rw [if_pos c4]; exact ⟨fun _ => c4, fun _ => rfl⟩
    · rw [if_neg c4, l_3, nI_eq (by omega) (by omega)]; omega
theorem tkM_2 (hp : p ≤ N) : tkM (tok B N p) = 2 ↔ tKd (tok B N p) = 2 := by
  obtain ⟨r1, r2, r3, r4, r5, r6, r7, r8⟩ := tok_rng B N p hp
  unfold tkM
  by_cases c3 : tKd (tok B N p) = 3
  · have hv := of_decide_eq_true (r7 c3)
    rw [if_pos c3, l_2, nI_eq (by omega) (by omega)]
    omega
  · rw [if_neg c3]
    by_cases c4 : tKd (tok B N p) = 4
    · rw [if_pos c4]; exact ⟨fun z => absurd z (by decide), fun z => by omega⟩
    · rw [if_neg c4, l_2, nI_eq (by omega) (by omega)]
theorem tkM_0 (hp : p ≤ N) : tkM (tok B N p) = 0 ↔ tKd (tok B N p) = 0 := by
  obtain ⟨r1, r2, r3, r4, r5, r6, r7, r8⟩ := tok_rng B N p hp
  unfold tkM
  by_cases c3 : tKd (tok B N p) = 3
  · have hv := of_decide_eq_true (r7 c3)
    rw [if_pos c3, l_0, nI_eq (by omega) (by omega)]
    omega
  · rw [if_neg c3]
    by_cases c4 : tKd (tok B N p) = 4
    · rw [if_pos c4]; exact ⟨fun z => absurd z (by decide), fun z => by omega⟩
    · rw [if_neg c4, l_0, nI_eq (by omega) (by omega)]
end
