/-! ===== tokens ===== -/
def isLt (c : Nat) : Bool := decide (97 ≤ c ∧ c ≤ 122)
def isDg (c : Nat) : Bool := decide (48 ≤ c ∧ c ≤ 57)
def isSg (c : Nat) : Bool := decide (c = 91 ∨ c = 93 ∨ c = 61 ∨ c = 60 ∨ c = 62 ∨ c = 58 ∨ c = 59 ∨ c = 43 ∨ c = 45 ∨ c = 42 ∨ c = 40 ∨ c = 41)
/-- where a run of q ends, at most d places on -/
def rnR (B : Nat → Nat) (q : Nat → Bool) : Nat → Nat → Nat
  | 0, p => p
  | d + 1, p => if q (B p) = true then rnR B q d (p + 1) else p
def isBl (c : Nat) : Bool := decide (c = 32 ∨ c = 10)
def dgV (B : Nat → Nat) (s : Nat) : Nat → Nat
  | 0 => 0
  | k + 1 => 10 * dgV B s k + (B (s + k) - 48)
abbrev Tk : Type := Nat × Nat × Nat × Nat
abbrev tKd (t : Tk) : Nat := t.1
abbrev tSt (t : Tk) : Nat := t.2.1
abbrev tEn (t : Tk) : Nat := t.2.2.1
abbrev tVl (t : Tk) : Nat := t.2.2.2
def tk0 (B : Nat → Nat) (N s : Nat) : Tk :=
  if N ≤ s then (0, s, s, 0)
  else if isLt (B s) = true then (1, s, rnR B isLt (N - s) s, 0)
  else if isDg (B s) = true then (if rnR B isDg (N - s) s - s ≤ 3 then (2, s, rnR B isDg (N - s) s, dgV B s (rnR B isDg (N - s) s - s)) else (4, s, rnR B isDg (N - s) s, 0))
  else if isSg (B s) = true then (3, s, s + 1, B s) else (4, s, s + 1, 0)
/-- the token at or behind p -/
def tok (B : Nat → Nat) (N p : Nat) : Tk := tk0 B N (rnR B isBl (N - p) p)
theorem rnR_rng (B : Nat → Nat) (q : Nat → Bool) : ∀ d p, p ≤ rnR B q d p ∧ rnR B q d p ≤ p + d
  | 0, p => ⟨Nat.le_refl _, Nat.le_refl _⟩
  | d + 1, p => by
    have ih := rnR_rng B q d (p + 1)
    unfold rnR
    split <;> omega
theorem rnR_1 {B : Nat → Nat} {q : Nat → Bool} {d p : Nat} (h : q (B p) = true) : rnR B q (d + 1) p = rnR B q d (p + 1) := if_pos h
theorem rnR_pos {B : Nat → Nat} {q : Nat → Bool} {d p : Nat} (hd : 0 < d) (h : q (B p) = true) : p < rnR B q d p := by
  obtain ⟨d, rfl⟩ : ∃ d', d = d' + 1 := ⟨d - 1, by omega⟩
  rw [rnR_1 h]
  have := (rnR_rng B q d (p + 1)).1
  omega
theorem rnR_all {B : Nat → Nat} {q : Nat → Bool} : ∀ d p j, p ≤ j → j < rnR B q d p → q (B j) = true
  | 0, p, j, h1, h2 => by
    have : rnR B q 0 p = p := rfl
    omega
  | d + 1, p, j, h1, h2 => by
    by_cases h : q (B p) = true
    · rw [rnR_1 h] at h2
      by_cases e : j = p
      · rw [e]; exact h
      · exact rnR_all d (p + 1) j (by omega) h2
    · have : rnR B q (d + 1) p = p := if_neg h
      omega
theorem dgV_lt {B : Nat → Nat} {s : Nat} : ∀ k, (∀ j, j < k → isDg (B (s + j)) = true) → dgV B s k < 10 ^ k
  | 0, _ => Nat.lt_of_lt_of_eq Nat.zero_lt_one (Nat.pow_zero 10).symm
  | k + 1, h => by
    have ih := dgV_lt k (fun j hj => h j (by omega))
    have hd := of_decide_eq_true (h k (by omega))
    rw [Nat.pow_succ]
    show 10 * dgV B s k + (B (s + k) - 48) < _
    omega
theorem tok_rng (B : Nat → Nat) (N p : Nat) (hp : p ≤ N) : p ≤ tSt (tok B N p) ∧ tSt (tok B N p) ≤ tEn (tok B N p) ∧ tEn (tok B N p) ≤ N ∧ tKd (tok B N p) ≤ 4 ∧ (tKd (tok B N p) ≠ 0 → tSt (tok B N p) < tEn (tok B N p)) ∧ (tKd (tok B N p) = 2 → tVl (tok B N p) ≤ 999) ∧ (tKd (tok B N p) = 3 → isSg (tVl (tok B N p)) = true) ∧ (tKd (tok B N p) = 0 → tSt (tok B N p) = N) := by
  have h1 := rnR_rng B isBl (N - p) p
  unfold tok
  generalize rnR B isBl (N - p) p = s at h1
  have h2 := rnR_rng B isLt (N - s) s
  have h3 := rnR_rng B isDg (N - s) s
  unfold tk0
  by_cases c0 : N ≤ s
  · rw [if_pos c0]
    exact ⟨h1.1, Nat.le_refl _, by show s ≤ N; omega, by show (0 : Nat) ≤ 4; decide, fun z => absurd rfl z, fun z => absurd (show (0 : Nat) = 2 from z) (by decide), fun z => absurd (show (0 : Nat) = 3 from z) (by decide), fun _ => by show s = N; omega⟩
  rw [if_neg c0]
  by_cases c1 : isLt (B s) = true
  · rw [if_pos c1]
    have := rnR_pos (d := N - s) (by omega) c1
    exact ⟨h1.1, h2.1, by show rnR B isLt (N - s) s ≤ N; omega, by show (1 : Nat) ≤ 4; decide, fun _ => this, fun z => absurd (show (1 : Nat) = 2 from z) (by decide), fun z => absurd (show (1 : Nat) = 3 from z) (by decide), fun z => absurd (show (1 : Nat) = 0 from z) (by decide)⟩
  rw [if_neg c1]
  by_cases c2 : isDg (B s) = true
  · rw [if_pos c2]
    have := rnR_pos (d := N - s) (by omega) c2
    by_cases c3 : rnR B isDg (N - s) s - s ≤ 3
    · rw [if_pos c3]
      have hv := dgV_lt (B := B) (s := s) (rnR B isDg (N - s) s - s) (fun j hj => rnR_all (N - s) s (s + j) (by omega) (by omega))
      have hp3 : 10 ^ (rnR B isDg (N - s) s - s) ≤ 10 ^ 3 := Nat.pow_le_pow_right (by omega) c3
      exact ⟨h1.1, h3.1, by show rnR B isDg (N - s) s ≤ N; omega, by show (2 : Nat) ≤ 4; decide, fun _ => this, fun _ => by show dgV B s (rnR B isDg (N - s) s - s) ≤ 999; omega, fun z => absurd (show (2 : Nat) = 3 from z) (by decide), fun z => absurd (show (2 : Nat) = 0 from z) (by decide)⟩
    · rw [if_neg c3]
      exact ⟨h1.1, h3.1, by show rnR B isDg (N - s) s ≤ N; omega, by show (4 : Nat) ≤ 4; decide, fun _ => this, fun z => absurd (show (4 : Nat) = 2 from z) (by decide), fun z => absurd (show (4 : Nat) = 3 from z) (by decide), fun z => absurd (show (4 : Nat) = 0 from z) (by decide)⟩
  rw [if_neg c2]
  by_cases c3 : isSg (B s) = true
  · rw [if_pos c3]
    exact ⟨h1.1, by show s ≤ s + 1; omega, by show s + 1 ≤ N; omega, by show (3 : Nat) ≤ 4; decide, fun _ => by show s < s + 1; omega, fun z => absurd (show (3 : Nat) = 2 from z) (by decide), fun _ => c3, fun z => absurd (show (3 : Nat) = 0 from z) (by decide)⟩
  · rw [if_neg c3]
    exact ⟨h1.1, by show s ≤ s + 1; omega, by show s + 1 ≤ N; omega, by show (4 : Nat) ≤ 4; decide, fun _ => by show s < s + 1; omega, fun z => absurd (show (4 : Nat) = 2 from z) (by decide), fun z => absurd (show (4 : Nat) = 3 from z) (by decide), fun z => absurd (show (4 : Nat) = 0 from z) (by decide)⟩
/-! the reference's reading -/
theorem mLt_eq {c : Nat} (h : c < 256) : fX12_isLetter (nI c) = some (nI (isLt c).toNat) := (by decide +kernel : ∀ c, c < 256 → fX12_isLetter (nI c) = some (nI (isLt c).toNat)) c h
theorem mDg_eq {c : Nat} (h : c < 256) : fX12_isDigit (nI c) = some (nI (isDg c).toNat) := (by decide +kernel : ∀ c, c < 256 → fX12_isDigit (nI c) = some (nI (isDg c).toNat)) c h
theorem mSg_eq {c : Nat} (h : c < 256) : fX12_isSignByte (nI c) = some (nI (isSg c).toNat) := (by decide +kernel : ∀ c, c < 256 → fX12_isSignByte (nI c) = some (nI (isSg c).toNat)) c h
def tkM (t : Tk) : Int32 := if tKd t = 3 then nI (tVl t) else if tKd t = 4 then 3 else nI (tKd t)
/-- the reference looks at t -/
def RTk (t : Tk) (g : MS) : Prop := g.1 8 = nI (tEn t) ∧ g.1 9 = nI (tSt t) ∧ g.1 10 = tkM t ∧ (tKd t = 2 → g.1 11 = nI (tVl t))
def MB (B : Nat → Nat) (N : Nat) (g : MS) : Prop := g.1 7 = nI N ∧ ∀ k, k < N → g.2.1 5 k = nI (B k) ∧ B k < 256
theorem MB.keep {B : Nat → Nat} {N : Nat} {g g' : MS} {li la : List Nat} (h : MB B N g) (f : fM li la g g') (h1 : 7 ∉ li) (h2 : 5 ∉ la) : MB B N g' := ⟨by rw [f.1 7 h1]; exact h.1, fun k hk => by rw [f.row 5 h2]; exact h.2 k hk⟩
section
variable {B : Nat → Nat} {N : Nat} {g : MS}
theorem see_in {p : Nat} (hN : N ≤ 900) (h : MB B N g) (hp : p < N) : fX12_see g (nI p) = some (nI (B p), g) := by
  unfold fX12_see
  rw [h.1, if_neg (nI_ge hp (by omega)), chk_tt (ib_n (by omega) (by omega)), ix_n (by omega), (h.2 p hp).1]
theorem see_out (hN : N ≤ 900) (h : MB B N g) : fX12_see g (nI N) = some (0, g) := by
  unfold fX12_see
  rw [h.1, if_pos (nI_le (Nat.le_refl N) (by omega))]
abbrev lxI : List Nat := [8, 9, 10, 11]
theorem word94 (hN : N ≤ 900) : ∀ d p f (g : MS), p + d = N → d < f → MB B N g → g.1 8 = nI p → Ev (fX12_readsOn_94 f g) (fun g' => g'.1 8 = nI (rnR B isLt d p) ∧ g'.1 10 = 1 ∧ fM [8, 10] [] g g') := by
  intro d
  induction d with
  | zero =>
    intro p f g hp hf h h8
    obtain ⟨f, rfl⟩ : ∃ f', f = f' + 1 := ⟨f - 1, by omega⟩
    have hp : p = N := hp
    subst hp
    rw [fX12_readsOn_94, h8, see_out hN h, bndc_s, show fX12_isLetter (0 : Int32) = some 0 from rfl, bndv_s, if_pos rfl, bnd_e]
    exact ev_some.mpr ⟨h8, rfl, (fM.refl g).sI (by decide)⟩
  | succ d ih =>
    intro p f g hp hf h h8
    obtain ⟨f, rfl⟩ : ∃ f', f = f' + 1 := ⟨f - 1, by omega⟩
    have hb := (h.2 p (by omega)).2
    rw [fX12_readsOn_94, h8, see_in hN h (by omega), bndc_s, mLt_eq hb, bndv_s]
    unfold rnR
    cases c : isLt (B p) with
    | false =>
      rw [if_pos (by decide), if_neg (by decide), bnd_e]
      exact ev_some.mpr ⟨h8, rfl, (fM.refl g).sI (by decide)⟩
    | true =>
      rw [if_neg (by decide), if_pos rfl, h8, nI_1, bnd_e]
      have f1 : fM [8, 10] [] g (sI g 8 (nI (p + 1))) := (fM.refl g).sI (by decide)
      exact (ih (p + 1) f _ (by omega) (by omega) (h.keep f1 (by decide) (by decide)) rfl).mono (fun z hz => ⟨hz.1, hz.2.1, f1.trans hz.2.2⟩)
theorem num141 (hN : N ≤ 900) {s : Nat} : ∀ d p f (g : MS), p + d = N → d < f → s ≤ p → MB B N g → (∀ j, s ≤ j → j < p → isDg (B j) = true) → g.1 8 = nI p → g.1 9 = nI s → (p - s ≤ 3 → g.1 11 = nI (dgV B s (p - s))) → Ev (fX12_readsOn_141 f g) (fun g' => g'.1 8 = nI (rnR B isDg d p) ∧ g'.1 10 = (if rnR B isDg d p - s ≤ 3 then 2 else 3) ∧ (rnR B isDg d p - s ≤ 3 → g'.1 11 = nI (dgV B s (rnR B isDg d p - s))) ∧ fM [8, 10, 11] [] g g') := by
  intro d
  induction d with
  | zero =>
    intro p f g hp hf hs h hd h8 h9 h11
    obtain ⟨f, rfl⟩ : ∃ f', f = f' + 1 := ⟨f - 1, by omega⟩
    have hp : p = N := hp
    subst hp
    rw [fX12_readsOn_141, h8, see_out hN h, bndc_s, show fX12_isDigit (0 : Int32) = some 0 from rfl, bndv_s, if_pos rfl, h8, h9, pk_sub hs, l_3, iLE (by omega) (by omega)]
    unfold fX12_readsOn_231
    show Ev _ (fun g' => g'.1 8 = nI p ∧ g'.1 10 = (if p - s ≤ 3 then 2 else 3) ∧ (p - s ≤ 3 → g'.1 11 = nI (dgV B s (p - s))) ∧ fM [8, 10, 11] [] g g')
    by_cases c : p - s ≤ 3
    · rw [if_pos c, if_pos c, bnd_e]
      exact ev_some.mpr ⟨h8, rfl, h11, (fM.refl g).sI (by decide)⟩
    · rw [if_neg c, if_neg c, bnd_e]
      exact ev_some.mpr ⟨h8, rfl, fun z => absurd z c, (fM.refl g).sI (by decide)⟩
  | succ d ih =>
    intro p f g hp hf hs h hd h8 h9 h11
    obtain ⟨f, rfl⟩ : ∃ f', f = f' + 1 := ⟨f - 1, by omega⟩
    have hb := (h.2 p (by omega)).2
    rw [fX12_readsOn_141, h8, see_in hN h (by omega), bndc_s, mDg_eq hb, bndv_s]
    unfold rnR
    cases c : isDg (B p) with
    | false =>
      rw [if_pos (show nI false.toNat = 0 from rfl), if_neg (show ¬ false = true by decide), h8, h9, pk_sub hs, l_3, iLE (by omega) (by omega)]
      unfold fX12_readsOn_231
      by_cases c2 : p - s ≤ 3
      · rw [if_pos c2, if_pos c2, bnd_e]
        exact ev_some.mpr ⟨h8, rfl, h11, (fM.refl g).sI (by decide)⟩
      · rw [if_neg c2, if_neg c2, bnd_e]
        exact ev_some.mpr ⟨h8, rfl, fun z => absurd z c2, (fM.refl g).sI (by decide)⟩
    | true =>
      have hd48 := of_decide_eq_true c
      rw [if_neg (by decide), if_pos rfl, h8, h9, pk_sub hs, l_3, iLE (by omega) (by omega)]
      unfold fX12_readsOn_196
      by_cases c2 : 3 ≤ p - s
      · rw [if_pos c2, bnd_e, bnd_e]
        have e8 : (sI g 11 (g.1 11)).1 8 = nI p := h8
        rw [e8, nI_1]
        have f1 : fM [8, 10, 11] [] g (sI (sI g 11 (g.1 11)) 8 (nI (p + 1))) := ((fM.refl g).sI (by decide)).sI (by decide)
        refine (ih (p + 1) f _ (by omega) (by omega) (by omega) (h.keep f1 (by decide) (by decide)) (fun j j1 j2 => ?_) rfl h9 (fun z => by omega)).mono (fun z hz => ⟨hz.1, hz.2.1, hz.2.2.1, f1.trans hz.2.2.2⟩)
        by_cases e : j = p
        · rw [e]; exact c
        · exact hd j j1 (by omega)
      · have hv := dgV_lt (B := B) (s := s) (p - s) (fun j hj => hd (s + j) (by omega) (by omega))
        have hp3 : 10 ^ (p - s) ≤ 10 ^ 3 := Nat.pow_le_pow_right (by omega) (by omega)
        rw [if_neg c2]
        refine Ev.k (ib_n (by omega) (by omega)) ?_
        rw [ix_n (by omega), (h.2 p (by omega)).1, h11 (by omega), l_10, pk_mul, nI_add, l_48, pk_sub (by omega), bnd_e, bnd_e]
        have ev : 10 * dgV B s (p - s) + B p - 48 = dgV B s (p + 1 - s) := by
          rw [show p + 1 - s = p - s + 1 by omega]
          show _ = 10 * dgV B s (p - s) + (B (s + (p - s)) - 48)
          rw [show s + (p - s) = p by omega]
          omega
        have e8 : (sI g 11 (nI (10 * dgV B s (p - s) + B p - 48))).1 8 = nI p := h8
        rw [e8, nI_1]
        have f1 : fM [8, 10, 11] [] g (sI (sI g 11 (nI (10 * dgV B s (p - s) + B p - 48))) 8 (nI (p + 1))) := ((fM.refl g).sI (by decide)).sI (by decide)
        refine (ih (p + 1) f _ (by omega) (by omega) (by omega) (h.keep f1 (by decide) (by decide)) (fun j j1 j2 => ?_) rfl h9 (fun z => ?_)).mono (fun z hz => ⟨hz.1, hz.2.1, hz.2.2.1, f1.trans hz.2.2.2⟩)
        · by_cases e : j = p
          · rw [e]; exact c
          · exact hd j j1 (by omega)
        · show nI (10 * dgV B s (p - s) + B p - 48) = _
          rw [ev]
theorem read52 (hN : N ≤ 900) {s : Nat} (hs : s ≤ N) (h : MB B N g) (h8 : g.1 8 = nI s) : Ev (fX12_readsOn_52 g) (fun g' => RTk (tk0 B N s) g' ∧ fM lxI [] g g') := by
  unfold fX12_readsOn_52 tk0
  have f0 : fM lxI [] g (sI g 9 (nI s)) := (fM.refl g).sI (by decide)
  have h' := h.keep f0 (by decide) (by decide)
  have e8 : (sI g 9 (nI s)).1 8 = nI s := h8
  rw [h8, bnd_e, e8, h'.1, iLT (by omega) (by omega)]
  by_cases c0 : N ≤ s
  · rw [if_neg (by omega), if_pos c0, bnd_e]
    exact ev_some.mpr ⟨⟨e8, rfl, rfl, fun z => absurd (show (0 : Nat) = 2 from z) (by decide)⟩, f0.sI (by decide)⟩
  rw [if_pos (by omega), if_neg c0]
  obtain ⟨b1, b2⟩ := h'.2 s (by omega)
  refine Ev.k (ib_n (by omega) (by omega)) ?_
  rw [bnd_e, ix_n (by omega), b1, mLt_eq b2, bndv_s]
  cases c1 : isLt (B s) with
  | true =>
    rw [if_neg (by decide), if_pos rfl]
    refine (word94 hN (N - s) s fuel (sI g 9 (nI s)) (by omega) (by unfold fuel; omega) h' e8).mono ?_
    rintro z ⟨z1, z2, z3⟩
    exact ⟨⟨z1, by rw [z3.1 9 (by decide)]; rfl, z2, fun z => absurd (show (1 : Nat) = 2 from z) (by decide)⟩, f0.trans (z3.mono (by decide) (by decide))⟩
  | false =>
    rw [if_pos (by decide), if_neg (by decide), mDg_eq b2, bndv_s]
    cases c2 : isDg (B s) with
    | true =>
      rw [if_neg (by decide), if_pos rfl, bnd_e]
      have f1 : fM lxI [] g (sI (sI g 9 (nI s)) 11 0) := f0.sI (by decide)
      refine (num141 hN (s := s) (N - s) s fuel (sI (sI g 9 (nI s)) 11 0) (by omega) (by unfold fuel; omega) (Nat.le_refl s) (h.keep f1 (by decide) (by decide)) (fun j j1 j2 => by omega) e8 rfl (fun _ => by rw [Nat.sub_self]; rfl)).mono ?_
      rintro z ⟨z1, z2, z3, z4⟩
      have F := f1.trans (z4.mono (by decide) (by decide))
      by_cases c3 : rnR B isDg (N - s) s - s ≤ 3
      · rw [if_pos c3] at z2 ⊢
        exact ⟨⟨z1, by rw [z4.1 9 (by decide)]; rfl, z2, fun _ => z3 c3⟩, F⟩
      · rw [if_neg c3] at z2 ⊢
        exact ⟨⟨z1, by rw [z4.1 9 (by decide)]; rfl, z2, fun z => absurd (show (4 : Nat) = 2 from z) (by decide)⟩, F⟩
    | false =>
      rw [if_pos (by decide), if_neg (by decide), mSg_eq b2, bndv_s]
      unfold fX12_readsOn_250
      cases c3 : isSg (B s) with
      | true =>
        rw [if_neg (by decide), if_pos rfl, bnd_e, bnd_e]
        have e8' : (sI (sI g 9 (nI s)) 10 (nI (B s))).1 8 = nI s := h8
        rw [e8', nI_1]
        exact ev_some.mpr ⟨⟨rfl, rfl, rfl, fun z => absurd (show (3 : Nat) = 2 from z) (by decide)⟩, (f0.sI (by decide)).sI (by decide)⟩
      | false =>
        rw [if_pos (by decide), if_neg (by decide), bnd_e, bnd_e]
        have e8' : (sI (sI g 9 (nI s)) 10 (3 : Int32)).1 8 = nI s := h8
        rw [e8', nI_1]
        exact ev_some.mpr ⟨⟨rfl, rfl, rfl, fun z => absurd (show (4 : Nat) = 2 from z) (by decide)⟩, (f0.sI (by decide)).sI (by decide)⟩
theorem read_lp (hN : N ≤ 900) : ∀ d p f (g : MS), p + d = N → d < f → MB B N g → g.1 8 = nI p → Ev (fX12_readsOn_0 f g) (fun g' => RTk (tk0 B N (rnR B isBl d p)) g' ∧ fM lxI [] g g') := by
  intro d
  induction d with
  | zero =>
    intro p f g hp hf h h8
    obtain ⟨f, rfl⟩ : ∃ f', f = f' + 1 := ⟨f - 1, by omega⟩
    rw [fX12_readsOn_0, h.1, h8, if_pos (nI_le (by omega) (by omega)), show rnR B isBl 0 p = p from rfl]
    exact read52 hN (by omega) h h8
  | succ d ih =>
    intro p f g hp hf h h8
    obtain ⟨f, rfl⟩ : ∃ f', f = f' + 1 := ⟨f - 1, by omega⟩
    obtain ⟨b1, b2⟩ := h.2 p (by omega)
    rw [fX12_readsOn_0, h.1, h8, if_neg (nI_ge (by omega) (by omega))]
    refine Ev.k (ib_n (by omega) (by omega)) ?_
    rw [ix_n (by omega), b1, l_32, iEQ (by omega) (by omega), l_10, iEQ (by omega) (by omega)]
    have go : isBl (B p) = true → Ev (fX12_readsOn_39 (fX12_readsOn_0 f) g) (fun g' => RTk (tk0 B N (rnR B isBl (d + 1) p)) g' ∧ fM lxI [] g g') := by
      intro hb
      unfold fX12_readsOn_39
      rw [h8, nI_1, bnd_e, rnR_1 hb]
      have f1 : fM lxI [] g (sI g 8 (nI (p + 1))) := (fM.refl g).sI (by decide)
      exact (ih (p + 1) f _ (by omega) (by omega) (h.keep f1 (by decide) (by decide)) rfl).mono (fun z hz => ⟨hz.1, f1.trans hz.2⟩)
    by_cases c1 : B p = 32
    · rw [if_pos c1]
      exact go (decide_eq_true (Or.inl c1))
    · rw [if_neg c1]
      refine Ev.k (ib_n (by omega) (by omega)) ?_
      by_cases c2 : B p = 10
      · rw [if_pos c2]
        exact go (decide_eq_true (Or.inr c2))
      · rw [if_neg c2]
        have e : rnR B isBl (d + 1) p = p := if_neg (by rw [show isBl (B p) = false from decide_eq_false (fun z => z.elim c1 c2)]; decide)
        rw [e]
        exact read52 hN (by omega) h h8
theorem reads_eq (hN : N ≤ 900) {p : Nat} (hp : p ≤ N) (h : MB B N g) (h8 : g.1 8 = nI p) : Ev (fX12_readsOn g) (fun g' => RTk (tok B N p) g' ∧ fM lxI [] g g') := read_lp hN (N - p) p fuel g (by omega) (by unfold fuel; omega) h h8
end
