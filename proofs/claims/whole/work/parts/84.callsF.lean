/-! ===== trays; told deeds; sessions ===== -/
abbrev AT : Type := Bool × Nat × Nat × (Nat → Int64)
def MT (t : AT) (i : Nat) (g : MS) : Prop := (t.1 = false ∧ g.2.1 45 i = -1) ∨ (t.1 = true ∧ t.2.1 ≤ 3 ∧ t.2.2.1 ≤ 30 ∧ g.2.1 45 i = nI t.2.1 ∧ g.2.1 46 i = nI t.2.2.1 ∧ ∀ k, k < 30 → g.2.2 (30 * i + k) = t.2.2.2 k)
def CT (t : AT) (i : Nat) (g : CS) : Prop := (t.1 = false ∧ g.1 (50 + i) 0 = -1) ∨ (t.1 = true ∧ t.2.1 ≤ 3 ∧ t.2.2.1 ≤ 30 ∧ g.1 (50 + i) 0 = nI t.2.2.1 ∧ g.1 (50 + i) 1 = nI t.2.1 ∧ ∀ k, k < 30 → g.2.2.1 (60 + i) k = t.2.2.2 k)
theorem MT.keep {t : AT} {i : Nat} {g g' : MS} (h : MT t i g) (k : kpM g g') : MT t i g' := by
  unfold MT
  rw [k.2.1.2.2.2.1, k.2.1.2.2.2.2, k.2.2]
  exact h
theorem CT.keep {t : AT} {i : Nat} {g g' : CS} {oi : List (Nat × Nat)} {la ll : List Nat} (h : CT t i g) (hf : fC oi la ll g g') (h0 : (50 + i, 0) ∉ oi) (h1 : (50 + i, 1) ∉ oi) (hl : 60 + i ∉ ll) : CT t i g' := by
  unfold CT
  rw [hf.i _ _ h0, hf.i _ _ h1, hf.2.2.1 _ hl]
  exact h
/-- what a tray's number lacks: 1 no such one, 2 missing, 0 nothing -/
def trF (tr : Nat → AT) (x : Int32) : Nat := if 0 ≤ x.toInt ∧ x.toInt ≤ 3 then (if (tr x.toNatClampNeg).1 then 0 else 2) else 1
theorem trF_0 {tr : Nat → AT} {x : Int32} (h : trF tr x = 0) : ∃ i, i < 4 ∧ x = nI i ∧ (tr i).1 = true := by
  unfold trF at h
  split at h
  · rename_i h1
    obtain ⟨i, hi, rfl⟩ := nI_of (x := x) (by rw [fa_lt]; have e : (0 : Int32).toInt = 0 := rfl; omega)
    rw [n_toInt hi] at h1
    rw [nI_clamp hi] at h
    refine ⟨i, by omega, rfl, ?_⟩
    cases hh : (tr i).1 with
    | true => rfl
    | false => rw [hh] at h; exact absurd h (by simp)
  · exact absurd h (by simp)
theorem trF_le (tr : Nat → AT) (x : Int32) : trF tr x ≤ 2 := by
  unfold trF
  split
  · split <;> omega
  · omega
theorem trayFault_eq {tr : Nat → AT} {g : MS} (hT : ∀ i, i < 4 → MT (tr i) i g) (x : Int32) : fX12_trayFault g x = some (nI (trF tr x), g) := by
  have e3 : (3 : Int64).toInt = 3 := rfl
  have e0 : (0 : Int64).toInt = 0 := rfl
  unfold fX12_trayFault fX12_isTray trF
  by_cases h : 0 ≤ x.toInt ∧ x.toInt ≤ 3
  · rw [within_y (by rw [i64, e0]; exact h.1) (by rw [i64, e3]; exact h.2), bndv_s, chk_tt (by decide), bndv_s, if_neg (by decide), if_pos h]
    obtain ⟨i, hi, rfl⟩ := nI_of (x := x) (by rw [fa_lt]; have e : (0 : Int32).toInt = 0 := rfl; omega)
    rw [n_toInt hi] at h
    rw [nI_clamp hi, chk_tt (ib_n (by omega) (by omega)), ix_n (by omega)]
    rcases hT i (by omega) with ⟨h1, h2⟩ | ⟨h1, h2, h3, h4, h5, h6⟩
    · rw [h2, h1, if_pos rfl, if_neg (by decide)]; rfl
    · rw [h4, h1, if_neg (nI_nm1 (by omega)), if_pos rfl]; rfl
  · rw [within_n (by rw [i64]; exact h), bndv_s, chk_tt (by decide), bndv_s, if_pos rfl, if_neg h]; rfl
/-- the kind of throw of a tray's number on the class's side -/
def trX (n : Nat) : Nat := if n = 1 then 2 else 3
theorem okT_b : ∀ i, i < 4 → okTb (50 + i) = true := by decide
theorem needTray_eq {tr : Nat → AT} {P : PL} {g : CS} (hT : ∀ i, i < 4 → CT (tr i) i g) (x : Int32) : fX11_needTray P g x = some (if trF tr x = 0 then Sum.inr (50 + x.toNatClampNeg) else Sum.inl (trX (trF tr x)), g) := by
  have e4 : (4 : Int32).toInt = 4 := rfl
  have e0 : (0 : Int32).toInt = 0 := rfl
  unfold fX11_needTray
  by_cases h : 0 ≤ x.toInt ∧ x.toInt ≤ 3
  · rw [if_neg (by rw [fa_lt, e0]; omega), if_pos (by rw [fa_lt, e4]; omega)]
    have ht : trF tr x = if (tr x.toNatClampNeg).1 then 0 else 2 := by unfold trF; rw [if_pos h]
    rw [ht]
    obtain ⟨i, hi, rfl⟩ := nI_of (x := x) (by rw [fa_lt]; omega)
    rw [n_toInt hi] at h
    rw [nI_clamp hi, chk_tt (ib_n (by omega) (by omega)), ix_n (by omega), bnd_e, chk_tt (okT_b i (by omega))]
    rcases hT i (by omega) with ⟨h1, h2⟩ | ⟨h1, h2, h3, h4, h5, h6⟩
    · rw [h2, h1, if_pos rfl]; rfl
    · rw [h4, h1, if_neg (nI_nm1 (by omega))]; rfl
  · have ht : trF tr x = 1 := by unfold trF; rw [if_neg h]
    rw [ht]
    by_cases h1 : x < 0
    · rw [if_pos h1]; rfl
    · rw [if_neg h1, if_neg (by rw [fa_lt, e4]; rw [fa_lt, e0] at h1; omega)]; rfl
theorem get_eq {t : AT} {i : Nat} {P : PL} {g : CS} (hT : CT t i g) (ht : t.1 = true) {k : Nat} (hk : k < 30) : fX9_get P g (50 + i) (nI k) = some (t.2.2.2 k, g) := by
  unfold fX9_get
  rcases hT with ⟨h1, h2⟩ | ⟨h1, h2, h3, h4, h5, h6⟩
  · rw [h1] at ht; exact absurd ht (by decide)
  · rw [if_neg (nI_pos (by omega)), if_neg (show ¬ (30 : Int32) ≤ nI k from nI_ge (b := 30) hk (by omega)), chk_tt (ib_n hk (by omega)), ix_n (by omega), show 50 + i + 10 = 60 + i by omega, h6 k hk]
theorem MT.on {t : AT} {i : Nat} {g : MS} (h : MT t i g) (ht : t.1 = true) : t.2.1 ≤ 3 ∧ t.2.2.1 ≤ 30 ∧ g.2.1 45 i = nI t.2.1 ∧ g.2.1 46 i = nI t.2.2.1 ∧ ∀ k, k < 30 → g.2.2 (30 * i + k) = t.2.2.2 k := by
  rcases h with ⟨h1, h2⟩ | h
  · rw [h1] at ht; exact absurd ht (by decide)
  · exact h.2
theorem CT.on {t : AT} {i : Nat} {g : CS} (h : CT t i g) (ht : t.1 = true) : t.2.1 ≤ 3 ∧ t.2.2.1 ≤ 30 ∧ g.1 (50 + i) 0 = nI t.2.2.1 ∧ g.1 (50 + i) 1 = nI t.2.1 ∧ ∀ k, k < 30 → g.2.2.1 (60 + i) k = t.2.2.2 k := by
  rcases h with ⟨h1, h2⟩ | h
  · rw [h1] at ht; exact absurd ht (by decide)
  · exact h.2
/-! perform -/
def pfA (f : Nat → Int64) : Nat → Nat → AQ → Nat × AQ
  | 0, k, q => (k, q)
  | d + 1, k, q => if (toldA (qB q) (f k)).1 = 0 then pfA f d (k + 1) (doA q (toldA (qB q) (f k)).2) else (k, q)
theorem pfA_wf (f : Nat → Int64) : ∀ d k (q : AQ), wfQ q → wfQ (pfA f d k q).2 ∧ (pfA f d k q).1 ≤ k + d
  | 0, k, q, h => ⟨h, Nat.le_refl _⟩
  | d + 1, k, q, h => by
    unfold pfA
    split
    · have hh := toldA_wf h.1 (f k)
      have := pfA_wf f d (k + 1) _ (wfQ_do h hh.1 hh.2)
      exact ⟨this.1, by omega⟩
    · exact ⟨h, by show k ≤ k + (d + 1); omega⟩
theorem mPerf_lp {t : AT} {i : Nat} (hi : i < 4) (ht : t.1 = true) : ∀ d k f (q : AQ) (g : MS), k + d = t.2.2.1 → d < f → wfQ q → KQ q (g.2.1 0) → MT t i g → Ev (fX12_perform_20 f g (nI i) (nI k)) (fun z => z.1 = nI (pfA t.2.2.2 d k q).1 ∧ KQ (pfA t.2.2.2 d k q).2 (z.2.2.1 0) ∧ fM [] [0, 19, 20, 21, 22, 23] g z.2) := by
  intro d
  induction d with
  | zero =>
    intro k f q g hk hf hq hK hT
    obtain ⟨f, rfl⟩ : ∃ f', f = f' + 1 := ⟨f - 1, by omega⟩
    obtain ⟨t1, t2, t3, t4, t5⟩ := hT.on ht
    rw [fX12_perform_20]
    refine Ev.k (ib_n (by omega) (by omega)) ?_
    rw [ix_n (by omega), t4, if_pos (nI_le (by omega) (by omega))]
    exact ev_some.mpr ⟨rfl, hK, fM.refl g⟩
  | succ d ih =>
    intro k f q g hk hf hq hK hT
    obtain ⟨f, rfl⟩ : ∃ f', f = f' + 1 := ⟨f - 1, by omega⟩
    obtain ⟨t1, t2, t3, t4, t5⟩ := hT.on ht
    rw [fX12_perform_20]
    refine Ev.k (ib_n (by omega) (by omega)) ?_
    rw [ix_n (by omega), t4, if_neg (nI_ge (by omega) (by omega)), l_30, pk_mul, nI_add]
    refine Ev.k (ib_n (by omega) (by omega)) ?_
    rw [ix_n (by omega), t5 k (by omega), whyTold_eq hq.1 hK.1, bndc_s]
    unfold pfA
    have hh := toldA_wf hq.1 (t.2.2.2 k)
    by_cases h0 : (toldA (qB q) (t.2.2.2 k)).1 = 0
    · rw [h0, if_pos n00, if_pos rfl]
      refine Ev.v (keeps_eq hq hK) ?_
      rintro g1 ⟨k1, f1⟩
      refine Ev.k (ib_n (by omega) (by omega)) ?_
      rw [f1.2.2, t5 k (by omega)]
      refine Ev.v (does_eq hq.1 (kB k1) h0) ?_
      intro g2 d2
      rw [nI_1, bnd_e]
      have fr : fM [] [0, 19, 20, 21, 22, 23] g g2 := (f1.mono (by decide) (by decide)).trans d2.2.2
      refine (ih (k + 1) f _ g2 (by omega) (by omega) (wfQ_do hq hh.1 hh.2) (k1.deed hh.2 d2) (hT.keep (kpM.of fr (by decide) (by decide)))).mono ?_
      rintro z ⟨z1, z2, z3⟩
      exact ⟨z1, z2, fr.trans z3⟩
    · rw [if_neg (nn_ne (toldA_le _ _) h0), if_neg h0]
      exact ev_some.mpr ⟨rfl, hK, fM.refl g⟩
theorem mPerform_eq {q : AQ} {g : MS} {tr : Nat → AT} (hq : wfQ q) (hK : KQ q (g.2.1 0)) (hT : ∀ i, i < 4 → MT (tr i) i g) {i : Nat} (hi : i < 4) (ht : (tr i).1 = true) : Ev (fX12_perform g (nI i)) (fun z => z.1 = nI (pfA (tr i).2.2.2 (tr i).2.2.1 0 q).1 ∧ MRes (pfA (tr i).2.2.2 (tr i).2.2.1 0 q).2 0 g z.2) := by
  have h0 : trF tr (nI i) = 0 := by unfold trF; rw [n_toInt (by omega), if_pos (by omega), nI_clamp (by omega), ht, if_pos rfl]
  have ts := ((hT i hi).on ht).2.1
  unfold fX12_perform
  rw [trayFault_eq hT, bndc_s, h0, bnd_e, if_pos (show (sI g 4 (nI 0)).1 4 ≤ 0 from (by decide : (0 : Int32) ≤ 0))]
  refine (mPerf_lp hi ht (tr i).2.2.1 0 fuel q (sI g 4 (nI 0)) (by omega) (by unfold fuel; omega) hq hK ((hT i hi).keep (kpM.th g _))).mono ?_
  rintro z ⟨z1, z2, z3⟩
  exact ⟨z1, z2, by rw [z3.1 4 (by decide)]; rfl, (kpM.th g _).trans (kpM.of z3 (by decide) (by decide))⟩
theorem nI_nle0 {n : Nat} (h : 1 ≤ n) (h2 : n ≤ 1000) : ¬ nI n ≤ 0 := nI_ge (a := 0) (by omega) (by omega)
theorem mPerform_no {q : AQ} {g : MS} {tr : Nat → AT} (hK : KQ q (g.2.1 0)) (hT : ∀ i, i < 4 → MT (tr i) i g) {x : Int32} (h : trF tr x ≠ 0) : Ev (fX12_perform g x) (fun z => MRes q (trF tr x) g z.2) := by
  have := trF_le tr x
  unfold fX12_perform
  rw [trayFault_eq hT, bndc_s, bnd_e, if_neg (show ¬ (sI g 4 (nI (trF tr x))).1 4 ≤ 0 from nI_nle0 (by omega) (by omega))]
  exact ev_some.mpr (MRes.fail hK _)
theorem cPerf_lp {t : AT} {i : Nat} {P : PL} (hi : i < 4) (ht : t.1 = true) : ∀ d k f (q : AQ) (g : CS), k + d = t.2.2.1 → d < f → wfQ q → SQ q P g 30 → CT t i g → Ev (fX11_perform_8 P f g (50 + i) (nI k)) (fun z => z.1 = Sum.inr (nI (pfA t.2.2.2 d k q).1) ∧ ∃ j, j ≤ d ∧ (j = 0 → (pfA t.2.2.2 d k q).2 = q) ∧ LV (pfA t.2.2.2 d k q).2 j P g z.2) := by
  intro d
  induction d with
  | zero =>
    intro k f q g hk hf hq hS hT
    obtain ⟨f, rfl⟩ : ∃ f', f = f' + 1 := ⟨f - 1, by omega⟩
    obtain ⟨t1, t2, t3, t4, t5⟩ := hT.on ht
    rw [fX11_perform_8, t3, if_pos (nI_le (by omega) (by omega))]
    exact ev_some.mpr ⟨rfl, 0, Nat.le_refl 0, (fun _ => rfl), LV.refl hS⟩
  | succ d ih =>
    intro k f q g hk hf hq hS hT
    obtain ⟨f, rfl⟩ : ∃ f', f = f' + 1 := ⟨f - 1, by omega⟩
    obtain ⟨t1, t2, t3, t4, t5⟩ := hT.on ht
    rw [fX11_perform_8, t3, if_neg (nI_ge (by omega) (by omega)), get_eq hT ht (by omega), bndc_s]
    unfold pfA
    have hh := toldA_wf hq.1 (t.2.2.2 k)
    refine Ev.c (cEnact_eq okS30 hq hS (t.2.2.2 k)) ?_
    intro r g2 hR
    have r1 : r = nI (toldA (qB q) (t.2.2.2 k)).1 := hR.1
    by_cases h0 : (toldA (qB q) (t.2.2.2 k)).1 = 0
    · rw [r1, h0, if_pos n00, if_pos rfl, nI_1, bnd_e]
      have D := hR.2.2 h0
      have L1 := LV.deed D
      refine (ih (k + 1) f _ g2 (by omega) (by omega) (wfQ_do hq hh.1 hh.2) D.1 (hT.keep D.2.2 ?_ ?_ ?_)).mono ?_
      · intro h; simp at h <;> omega
      · intro h; simp at h <;> omega
      · intro h; simp at h <;> omega
      · rintro z ⟨z1, j, z2, -, z3⟩
        exact ⟨z1, 1 + j, by omega, (fun e => absurd e (by omega)), L1.trans z3⟩
    · rw [r1, if_neg (nn_ne (toldA_le _ _) h0), if_neg h0]
      have e : g2 = g := hR.2.1 h0
      rw [e]
      exact ev_some.mpr ⟨rfl, 0, by omega, (fun _ => rfl), LV.refl hS⟩
theorem needTray_y {tr : Nat → AT} {P : PL} {g : CS} (hT : ∀ i, i < 4 → CT (tr i) i g) {i : Nat} (hi : i < 4) (ht : (tr i).1 = true) : fX11_needTray P g (nI i) = some (Sum.inr (50 + i), g) := by
  have h0 : trF tr (nI i) = 0 := by unfold trF; rw [n_toInt (by omega), if_pos (by omega), nI_clamp (by omega), ht, if_pos rfl]
  rw [needTray_eq hT, if_pos h0, nI_clamp (by omega)]
theorem needTray_n {tr : Nat → AT} {P : PL} {g : CS} (hT : ∀ i, i < 4 → CT (tr i) i g) {x : Int32} (h : trF tr x ≠ 0) : fX11_needTray P g x = some (Sum.inl (trX (trF tr x)), g) := by
  rw [needTray_eq hT, if_neg h]
theorem bxr {ρ τ σ : Type} {r : ρ} {s : σ} {k : ρ → σ → Option ((Nat ⊕ τ) × σ)} : bndx (some (Sum.inr r, s)) k = k r s := rfl
theorem bxl {ρ τ σ : Type} {n : Nat} {s : σ} {k : ρ → σ → Option ((Nat ⊕ τ) × σ)} : bndx (some (Sum.inl n, s)) k = some (Sum.inl n, s) := rfl
theorem cPerform_eq {q : AQ} {P : PL} {g : CS} {tr : Nat → AT} (hq : wfQ q) (hS : SQ q P g 30) (hT : ∀ i, i < 4 → CT (tr i) i g) {i : Nat} (hi : i < 4) (ht : (tr i).1 = true) : Ev (fX11_perform P g (nI i)) (fun z => z.1 = Sum.inr (nI (pfA (tr i).2.2.2 (tr i).2.2.1 0 q).1) ∧ ∃ j, j ≤ 30 ∧ (j = 0 → (pfA (tr i).2.2.2 (tr i).2.2.1 0 q).2 = q) ∧ LV (pfA (tr i).2.2.2 (tr i).2.2.1 0 q).2 j P g z.2) := by
  have ts := ((hT i hi).on ht).2.1
  unfold fX11_perform
  rw [needTray_y hT hi ht, bxr]
  refine Ev.k (okT_b i hi) ((cPerf_lp hi ht (tr i).2.2.1 0 fuel q g (by omega) (by unfold fuel; omega) hq hS (hT i hi)).mono ?_)
  rintro z ⟨z1, j, z2, z3, z4⟩
  exact ⟨z1, j, by omega, z3, z4⟩
theorem cPerform_no {P : PL} {g : CS} {tr : Nat → AT} (hT : ∀ i, i < 4 → CT (tr i) i g) {x : Int32} (h : trF tr x ≠ 0) : fX11_perform P g x = some (Sum.inl (trX (trF tr x)), g) := by
  unfold fX11_perform
  rw [needTray_n hT h, bxl]
/-! judge -/
def jdA (f : Nat → Int64) : Nat → Nat → AB → Nat × Nat × AB
  | 0, _, b => (0, 0, b)
  | d + 1, k, b => if (toldA b (f k)).1 = 0 then jdA f d (k + 1) (toldA b (f k)).2 else (k + 1, (toldA b (f k)).1, b)
def jdAns (j : Nat × Nat × AB) (w : Int32) : Int32 := if w = 0 then pm j.1 else if w = 1 then nI j.2.1 else if w = 2 then pm (chA j.2.2 (bA j.2.2)) else nI (bS j.2.2)
theorem jdA_wf (f : Nat → Int64) : ∀ d k {b : AB}, wfB b → wfB (jdA f d k b).2.2 ∧ bN (jdA f d k b).2.2 = bN b ∧ (jdA f d k b).1 ≤ k + d
  | 0, k, b, h => ⟨h, rfl, Nat.zero_le _⟩
  | d + 1, k, b, h => by
    unfold jdA
    split
    · have hh := toldA_wf h (f k)
      have := jdA_wf f d (k + 1) hh.1
      exact ⟨this.1, this.2.1.trans hh.2, by omega⟩
    · exact ⟨h, rfl, by show k + 1 ≤ k + (d + 1); omega⟩
theorem aside_lp (k0 : Nat → Int32) : ∀ d y f (g : MS), y + d = 13 → d < f → g.2.1 0 = k0 → (∀ i, i < y → g.2.1 24 i = k0 (6 + i)) → Ev (fX12_putsAside_2 f g (nI y)) (fun g' => (∀ i, i < 13 → g'.2.1 24 i = k0 (6 + i)) ∧ fM [] [24] g g') := by
  intro d
  induction d with
  | zero =>
    intro y f g hy hf h0 h
    obtain ⟨f, rfl⟩ : ∃ f', f = f' + 1 := ⟨f - 1, by omega⟩
    have hy : y = 13 := hy
    subst hy
    rw [fX12_putsAside_2, if_pos (by decide)]
    exact ev_some.mpr ⟨h, fM.refl g⟩
  | succ d ih =>
    intro y f g hy hf h0 h
    obtain ⟨f, rfl⟩ : ∃ f', f = f' + 1 := ⟨f - 1, by omega⟩
    rw [fX12_putsAside_2, if_neg (show ¬ (13 : Int32) ≤ nI y from nI_ge (b := 13) (by omega) (by omega)), l_6, nI_add]
    refine Ev.k (ib_n (by omega) (by omega)) (Ev.k (ib_n (by omega) (by omega)) ?_)
    rw [bnd_e, nI_1, bnd_e, ix_n (by omega), ix_n (by omega)]
    refine (ih (y + 1) f (sA g 24 y (g.2.1 0 (6 + y))) (by omega) (by omega) h0 (fun i hi => ?_)).mono ?_
    · show upd (g.2.1 24) y (g.2.1 0 (6 + y)) i = _
      rw [upd_j]
      by_cases e : i = y
      · rw [if_pos e, h0, e]
      · rw [if_neg e]; exact h i (by omega)
    · rintro z ⟨z1, z2⟩
      exact ⟨z1, ((fM.refl g).sA (by decide)).trans z2⟩
theorem back_lp (k0 : Nat → Int32) : ∀ d y f (g : MS), y + d = 13 → d < f → (∀ i, i < 13 → g.2.1 24 i = k0 (6 + i)) → (∀ i, (i < 6 + y ∨ 19 ≤ i) → g.2.1 0 i = k0 i) → Ev (fX12_putsBack_2 f g (nI y)) (fun g' => g'.2.1 0 = k0 ∧ fM [] [0] g g') := by
  intro d
  induction d with
  | zero =>
    intro y f g hy hf h24 h
    obtain ⟨f, rfl⟩ : ∃ f', f = f' + 1 := ⟨f - 1, by omega⟩
    have hy : y = 13 := hy
    subst hy
    rw [fX12_putsBack_2, if_pos (by decide)]
    exact ev_some.mpr ⟨funext (fun i => h i (by omega)), fM.refl g⟩
  | succ d ih =>
    intro y f g hy hf h24 h
    obtain ⟨f, rfl⟩ : ∃ f', f = f' + 1 := ⟨f - 1, by omega⟩
    rw [fX12_putsBack_2, if_neg (show ¬ (13 : Int32) ≤ nI y from nI_ge (b := 13) (by omega) (by omega)), l_6, nI_add]
    refine Ev.k (ib_n (by omega) (by omega)) (Ev.k (ib_n (by omega) (by omega)) ?_)
    rw [bnd_e, nI_1, bnd_e, ix_n (by omega), ix_n (by omega), h24 y (by omega)]
    refine (ih (y + 1) f (sA g 0 (6 + y) (k0 (6 + y))) (by omega) (by omega) h24 (fun i hi => ?_)).mono ?_
    · show upd (g.2.1 0) (6 + y) (k0 (6 + y)) i = _
      rw [upd_j]
      by_cases e : i = 6 + y
      · rw [if_pos e, e]
      · rw [if_neg e]; exact h i (by omega)
    · rintro z ⟨z1, z2⟩
      exact ⟨z1, ((fM.refl g).sA (by decide)).trans z2⟩
theorem mJudge_end {b0 b : AB} {k0 : Nat → Int32} {g : MS} {pl why : Nat} (hw : wfB b) (hK : KB b (g.2.1 0)) (h24 : ∀ i, i < 13 → g.2.1 24 i = k0 (6 + i)) (h0 : ∀ i, (i < 6 ∨ 19 ≤ i) → g.2.1 0 i = k0 i) (w : Int32) : Ev (fX12_judge_122 g w (pm pl) (nI why)) (fun z => z.1 = jdAns (pl, why, b) w ∧ z.2.2.1 0 = k0 ∧ fM [] [0, 19, 20, 21, 22, 23, 24] g z.2) := by
  unfold fX12_judge_122
  refine Ev.c (chairNow_eq hw hK) ?_
  rintro r g1 ⟨r1, -, -, r2⟩
  dsimp only at r1
  subst r1
  refine Ev.k (by decide) ?_
  have e18 : g1.2.1 0 (ix (18 : Int32)) = nI (bS b) := by
    show g1.2.1 0 18 = _
    rw [r2.row 0 (by decide)]; exact hK.2.1
  rw [bnd_e, e18]
  unfold fX12_putsBack
  refine Ev.v (back_lp k0 13 0 fuel g1 (by omega) (by unfold fuel; omega) (by rw [r2.row 24 (by decide)]; exact h24) (fun i hi => by rw [r2.row 0 (by decide)]; exact h0 i (by omega))) ?_
  rintro g2 ⟨s1, s2⟩
  have fr : fM [] [0, 19, 20, 21, 22, 23, 24] g g2 := (r2.mono (by decide) (by decide)).trans (s2.mono (by decide) (by decide))
  unfold jdAns
  by_cases w0 : w = 0
  · rw [if_pos w0, if_pos w0]; exact ev_some.mpr ⟨rfl, s1, fr⟩
  · rw [if_neg w0, if_neg w0]
    by_cases w1 : w = 1
    · rw [if_pos w1, if_pos w1]; exact ev_some.mpr ⟨rfl, s1, fr⟩
    · rw [if_neg w1, if_neg w1]
      by_cases w2 : w = 2
      · rw [if_pos w2, if_pos w2]; exact ev_some.mpr ⟨rfl, s1, fr⟩
      · rw [if_neg w2, if_neg w2]; exact ev_some.mpr ⟨rfl, s1, fr⟩
theorem mJudge_lp {t : AT} {i : Nat} (hi : i < 4) (ht : t.1 = true) (k0 : Nat → Int32) (w : Int32) : ∀ d k f (b : AB) (g : MS), k + d = t.2.2.1 → d + 1 < f → wfB b → KB b (g.2.1 0) → MT t i g → (∀ i, i < 13 → g.2.1 24 i = k0 (6 + i)) → (∀ i, (i < 6 ∨ 19 ≤ i) → g.2.1 0 i = k0 i) → Ev (fX12_judge_54 f g (nI i) w (-1) (0 : Int32) (nI k)) (fun z => z.1 = jdAns (jdA t.2.2.2 d k b) w ∧ z.2.2.1 0 = k0 ∧ fM [] [0, 19, 20, 21, 22, 23, 24] g z.2) := by
  intro d
  induction d with
  | zero =>
    intro k f b g hk hf hw hK hT h24 h0
    obtain ⟨f, rfl⟩ : ∃ f', f = f' + 1 := ⟨f - 1, by omega⟩
    obtain ⟨t1, t2, t3, t4, t5⟩ := hT.on ht
    rw [fX12_judge_54]
    refine Ev.k (ib_n (by omega) (by omega)) ?_
    rw [ix_n (by omega), t4, if_pos (nI_le (by omega) (by omega))]
    exact mJudge_end (b0 := b) (pl := 0) (why := 0) hw hK h24 h0 w
  | succ d ih =>
    intro k f b g hk hf hw hK hT h24 h0
    obtain ⟨f, rfl⟩ : ∃ f', f = f' + 1 := ⟨f - 1, by omega⟩
    obtain ⟨t1, t2, t3, t4, t5⟩ := hT.on ht
    rw [fX12_judge_54]
    refine Ev.k (ib_n (by omega) (by omega)) ?_
    rw [ix_n (by omega), t4, if_neg (nI_ge (by omega) (by omega)), if_pos rfl, l_30, pk_mul, nI_add]
    refine Ev.k (ib_n (by omega) (by omega)) ?_
    rw [ix_n (by omega), t5 k (by omega), whyTold_eq hw hK, bndc_s]
    unfold jdA
    have hh := toldA_wf hw (t.2.2.2 k)
    by_cases e0 : (toldA b (t.2.2.2 k)).1 = 0
    · rw [e0, if_pos n00, if_pos rfl]
      refine Ev.k (ib_n (by omega) (by omega)) ?_
      rw [t5 k (by omega)]
      refine Ev.v (does_eq hw hK e0) ?_
      intro g2 d2
      rw [nI_1, bnd_e]
      refine (ih (k + 1) f _ g2 (by omega) (by omega) hh.1 d2.1 (hT.keep (kpM.of d2.2.2 (by decide) (by decide))) (by rw [d2.2.2.row 24 (by decide)]; exact h24) (fun i hi => (d2.2.1 i hi).trans (h0 i hi))).mono ?_
      rintro z ⟨z1, z2, z3⟩
      exact ⟨z1, z2, (d2.2.2.mono (by decide) (by decide)).trans z3⟩
    · rw [if_neg (nn_ne (toldA_le _ _) e0), if_neg e0, nI_1, bnd_e]
      obtain ⟨f, rfl⟩ : ∃ f', f = f' + 1 := ⟨f - 1, by omega⟩
      rw [fX12_judge_54]
      refine Ev.k (ib_n (by omega) (by omega)) ?_
      have fin := mJudge_end (b0 := b) (pl := k + 1) (why := (toldA b (t.2.2.2 k)).1) hw hK h24 h0 w
      rw [pm_s] at fin
      split
      · exact fin
      · rw [if_neg (nI_nm1 (by omega))]
        exact fin
theorem mJudge_eq {q : AQ} {g : MS} {tr : Nat → AT} (hq : wfQ q) (hK : KQ q (g.2.1 0)) (hT : ∀ i, i < 4 → MT (tr i) i g) {i : Nat} (hi : i < 4) (ht : (tr i).1 = true) {w : Int32} (hw : 0 ≤ w.toInt ∧ w.toInt ≤ 3) : Ev (fX12_judge g (nI i) w) (fun z => z.1 = jdAns (jdA (tr i).2.2.2 (tr i).2.2.1 0 (qB q)) w ∧ MRes q 0 g z.2) := by
  have h0 : trF tr (nI i) = 0 := by unfold trF; rw [n_toInt (by omega), if_pos (by omega), nI_clamp (by omega), ht, if_pos rfl]
  have ts := ((hT i hi).on ht).2.1
  have e3 : (3 : Int64).toInt = 3 := rfl
  have e0 : (0 : Int64).toInt = 0 := rfl
  unfold fX12_judge
  rw [trayFault_eq hT, bndc_s, h0, bnd_e, if_pos (show (sI g 4 (nI 0)).1 4 = 0 from rfl), within_y (by rw [i64, e0]; exact hw.1) (by rw [i64, e3]; exact hw.2), bndv_s, if_neg (by decide)]
  unfold fX12_judge_33 fX12_putsAside
  rw [if_pos (show (sI g 4 (nI 0)).1 4 ≤ 0 from (by decide : (0 : Int32) ≤ 0))]
  refine Ev.v (aside_lp (g.2.1 0) 13 0 fuel (sI g 4 (nI 0)) (by omega) (by unfold fuel; omega) rfl (fun i hi => absurd hi (Nat.not_lt_zero i))) ?_
  rintro g1 ⟨a1, a2⟩
  have er : g1.2.1 0 = g.2.1 0 := a2.row 0 (by decide)
  refine (mJudge_lp hi ht (g.2.1 0) w (tr i).2.2.1 0 fuel (qB q) g1 (by omega) (by unfold fuel; omega) hq.1 (by rw [er]; exact hK.1) (((hT i hi).keep (kpM.th g _)).keep (kpM.of a2 (by decide) (by decide))) a1 (fun i _ => by rw [er])).mono ?_
  rintro z ⟨z1, z2, z3⟩
  refine ⟨z1, by rw [z2]; exact hK, ?_, ?_⟩
  · rw [z3.1 4 (by decide), a2.1 4 (by decide)]; rfl
  · exact ((kpM.th g _).trans (kpM.of a2 (by decide) (by decide))).trans (kpM.of z3 (by decide) (by decide))
theorem mJudge_no {q : AQ} {g : MS} {tr : Nat → AT} (hK : KQ q (g.2.1 0)) (hT : ∀ i, i < 4 → MT (tr i) i g) {x w : Int32} (h : trF tr x ≠ 0 ∨ ¬ (0 ≤ w.toInt ∧ w.toInt ≤ 3)) : Ev (fX12_judge g x w) (fun z => MRes q (if trF tr x = 0 then 3 else trF tr x) g z.2) := by
  have := trF_le tr x
  unfold fX12_judge
  rw [trayFault_eq hT, bndc_s, bnd_e]
  by_cases h0 : trF tr x = 0
  · rw [h0, if_pos (show (sI g 4 (nI 0)).1 4 = 0 from rfl), within_n (by rw [i64]; exact h.resolve_left (fun z => z h0)), bndv_s, if_pos rfl, bnd_e, if_pos rfl]
    unfold fX12_judge_33
    rw [if_neg (show ¬ (sI (sI g 4 (nI 0)) 4 (3 : Int32)).1 4 ≤ 0 from (by decide : ¬ (3 : Int32) ≤ 0))]
    exact ev_some.mpr ⟨hK, rfl, (kpM.th g _).trans (kpM.th _ _)⟩
  · rw [if_neg (show ¬ (sI g 4 (nI (trF tr x))).1 4 = 0 from nn_ne this h0), if_neg h0]
    unfold fX12_judge_33
    rw [if_neg (show ¬ (sI g 4 (nI (trF tr x))).1 4 ≤ 0 from nI_nle0 (by omega) (by omega))]
    exact ev_some.mpr (MRes.fail hK _)
/-- what the trial of judge may touch -/
abbrev jC : List (Nat × Nat) := [(31, 1), (31, 2), (31, 3), (31, 4), (31, 5), (31, 6), (31, 7), (10, 1)]
def fJ (g g' : CS) : Prop := (∀ o k, (o, k) ∉ jC → g'.1 o k = g.1 o k) ∧ (∀ a, a ∉ [11] → g'.2.1 a = g.2.1 a) ∧ (∀ a, a ∉ [41] → g'.2.2.1 a = g.2.2.1 a) ∧ (∀ o, o ≠ 31 → g'.2.2.2 o = g.2.2.2 o)
theorem fJ.of {g g' : CS} (h : fC jC [11] [41] g g') : fJ g g' := ⟨h.1, h.2.1, h.2.2.1, fun o _ => by rw [h.2.2.2]⟩
theorem fJ.trans {g g' g'' : CS} (h : fJ g g') (h2 : fJ g' g'') : fJ g g'' := ⟨fun o k hk => (h2.1 o k hk).trans (h.1 o k hk), fun a ha => (h2.2.1 a ha).trans (h.2.1 a ha), fun a ha => (h2.2.2.1 a ha).trans (h.2.2.1 a ha), fun o ho => (h2.2.2.2 o ho).trans (h.2.2.2 o ho)⟩
theorem CT.keepJ {t : AT} {i : Nat} {g g' : CS} (hi : i < 4) (h : CT t i g) (hf : fJ g g') : CT t i g' := by
  unfold CT
  rw [hf.1 _ _ (by intro h; simp at h <;> omega), hf.1 _ _ (by intro h; simp at h <;> omega), hf.2.2.1 _ (by intro h; simp at h <;> omega)]
  exact h
/-- a state becomes another -/
def fB (o : Nat) (g g' : CS) : Prop := (∀ p k, (p ≠ o ∨ k = 0 ∨ 8 ≤ k) → g'.1 p k = g.1 p k) ∧ g'.2.1 = g.2.1 ∧ (∀ a, a ≠ o + 10 → g'.2.2.1 a = g.2.2.1 a) ∧ (∀ p, p ≠ o → g'.2.2.2 p = g.2.2.2 p) ∧ (∀ k, (k < 8 ∨ 10 < k) → g'.2.2.2 o k = g.2.2.2 o k)
theorem tF_1 (g : CS) (o k w : Nat) : (tF g o k w).1 = g.1 := rfl
theorem tF_2 (g : CS) (o k w : Nat) : (tF g o k w).2.1 = g.2.1 := rfl
theorem tF_3 (g : CS) (o k w : Nat) : (tF g o k w).2.2.1 = g.2.2.1 := rfl
theorem tF_4 (g : CS) (o k w p j : Nat) : (tF g o k w).2.2.2 p j = if p = o then (if j = k then w else g.2.2.2 o j) else g.2.2.2 p j := by
  show (if p = o then (fun j => if j = k then w else g.2.2.2 o j) else g.2.2.2 p) j = _
  split <;> rfl
theorem tC_1 (g : CS) (a c sp dp n : Nat) : (tC g a c sp dp n).1 = g.1 := rfl
theorem tC_2 (g : CS) (a c sp dp n : Nat) : (tC g a c sp dp n).2.1 = g.2.1 := rfl
theorem tC_4 (g : CS) (a c sp dp n : Nat) : (tC g a c sp dp n).2.2.2 = g.2.2.2 := rfl
theorem become_eq {P : PL} {g : CS} {o p : Nat} {q : AQ} (hop : o ≠ p) (hD : qD q ≤ 10) (hS : SQ q P g p) : Ev (fX6_become P g o p) (fun g' => SQ q P g' o ∧ g'.1 o 7 = g.1 o 7 + 1 ∧ fB o g g') := by
  have hpo : p ≠ o := fun e => hop e.symm
  unfold fX6_become
  simp only [bnd_e]
  refine Ev.k (by decide) ?_
  have x0 : ix (0 : Int32) = 0 := rfl
  have x10 : ix (10 : Int32) = 10 := rfl
  rw [x0, x10]
  obtain ⟨⟨h1, h2, h3, h4, h5, h6, h7⟩, h8, h9, h10⟩ := hS
  refine ev_some.mpr ⟨⟨⟨?_, ?_, ?_, ?_, ?_, ?_, ?_⟩, ?_, ?_, fun j hj => ?_⟩, ?_, ⟨fun r k hk => ?_, rfl, fun a ha => ?_, fun r hr => ?_, fun k hk => ?_⟩⟩
  · simp only [tI_1, tF_1, tC_1, tI_2, if_pos, if_neg hop, if_neg hpo, if_true, reduceIte]
    simpa using h1
  · simp only [tI_1, tF_1, tC_1, tI_2, if_pos, if_neg hop, if_neg hpo, if_true, reduceIte]
    simpa using h2
  · simp only [tI_1, tF_1, tC_1, tI_2, if_pos, if_neg hop, if_neg hpo, if_true, reduceIte]
    simpa using h3
  · simp only [tI_1, tF_1, tC_1, tI_2, if_pos, if_neg hop, if_neg hpo, if_true, reduceIte]
    simpa using h4
  · simp only [tF_4, tC_4, tI_2, tF_1, if_neg hop, if_neg hpo, if_true, reduceIte]
    simpa using h5
  · simp only [tF_4, tC_4, tI_2, tF_1, if_neg hop, if_neg hpo, if_true, reduceIte]
    simpa using h6
  · simp only [tF_4, tC_4, tI_2, tF_1, if_neg hop, if_neg hpo, if_true, reduceIte]
    simpa using h7
  · simp only [tI_1, tF_1, tC_1, tI_2, if_pos, if_neg hop, if_neg hpo, if_true, reduceIte]
    simpa using h8
  · simp only [tI_1, tF_1, tC_1, tI_2, if_pos, if_neg hop, if_neg hpo, if_true, reduceIte]
    simpa using h9
  · rw [tI_2, tC_3, if_pos rfl, pk_cpy_in (Nat.zero_le j) (by omega), Nat.zero_add, Nat.sub_zero]
    exact h10 j hj
  · simp only [tI_1, tF_1, tC_1, if_true, reduceIte]
    simp
  · by_cases e : r = o
    · subst e
      have hk : k = 0 ∨ 8 ≤ k := hk.resolve_left (fun z => z rfl)
      simp only [tI_1, tF_1, tC_1, if_true, reduceIte]
      repeat rw [if_neg (by omega)]
    · simp only [tI_1, tF_1, tC_1, if_neg e]
  · show (tC _ (p + 10) (o + 10) 0 0 10).2.2.1 a = _
    rw [tC_3, if_neg ha]
    rfl
  · funext k
    simp only [tI_2, tC_4, tF_4, if_neg hr]
  · simp only [tI_2, tC_4, tF_4, if_true, reduceIte]
    repeat rw [if_neg (by omega)]
theorem cJudge_end {P : PL} {g : CS} {b : AB} {pl why : Nat} (hw : wfB b) (hS : SB b P g 31) (w : Int32) : fX11_judge_93 P g w (nI why) (pm pl) = some (Sum.inr (jdAns (pl, why, b) w), g) := by
  unfold fX11_judge_93 jdAns
  by_cases w0 : w = 0
  · rw [if_pos w0, if_pos w0]
  · rw [if_neg w0, if_neg w0]
    by_cases w1 : w = 1
    · rw [if_pos w1, if_pos w1]
    · rw [if_neg w1, if_neg w1]
      by_cases w2 : w = 2
      · rw [if_pos w2, if_pos w2, hS.2.1, chairOf_eq hw hw.2.2.1 hS, bndc_s]
      · rw [if_neg w2, if_neg w2, hS.2.2.2.1]
theorem cJudge_lp {t : AT} {i : Nat} {P : PL} (hi : i < 4) (ht : t.1 = true) (w : Int32) : ∀ d k f (q : AQ) (g : CS), k + d = t.2.2.1 → d + 1 < f → wfQ q → SQ q P g 31 → CT t i g → Ev (fX11_judge_45 P f g w (50 + i) (0 : Int32) (-1) (nI k)) (fun z => z.1 = Sum.inr (jdAns (jdA t.2.2.2 d k (qB q)) w) ∧ fJ g z.2 ∧ z.2.2.2.2 = g.2.2.2) := by
  intro d
  induction d with
  | zero =>
    intro k f q g hk hf hq hS hT
    obtain ⟨f, rfl⟩ : ∃ f', f = f' + 1 := ⟨f - 1, by omega⟩
    obtain ⟨t1, t2, t3, t4, t5⟩ := hT.on ht
    rw [fX11_judge_45, t3, if_pos (nI_le (by omega) (by omega))]
    have := cJudge_end (pl := 0) (why := 0) hq.1 hS.1 w
    exact Ev.of this ⟨rfl, fJ.of (fC.refl g), rfl⟩
  | succ d ih =>
    intro k f q g hk hf hq hS hT
    obtain ⟨f, rfl⟩ : ∃ f', f = f' + 1 := ⟨f - 1, by omega⟩
    obtain ⟨t1, t2, t3, t4, t5⟩ := hT.on ht
    rw [fX11_judge_45, t3, if_neg (nI_ge (by omega) (by omega)), if_pos rfl, get_eq hT ht (by omega), bndc_s]
    unfold jdA
    have hh := toldA_wf hq.1 (t.2.2.2 k)
    refine Ev.c (cEnact_eq okS31 hq hS (t.2.2.2 k)) ?_
    intro r g2 hR
    have r1 : r = nI (toldA (qB q) (t.2.2.2 k)).1 := hR.1
    by_cases h0 : (toldA (qB q) (t.2.2.2 k)).1 = 0
    · rw [r1, h0, if_pos n00, if_pos rfl, nI_1, bnd_e]
      have D := hR.2.2 h0
      have F := fJ.of (D.2.2.mono (by decide) (by decide) (by decide))
      refine (ih (k + 1) f _ g2 (by omega) (by omega) (wfQ_do hq hh.1 hh.2) D.1 (hT.keepJ hi F)).mono ?_
      rintro z ⟨z1, z2, z3⟩
      exact ⟨z1, F.trans z2, z3.trans D.2.2.2.2.2⟩
    · rw [r1, if_neg (nn_ne (toldA_le _ _) h0), if_neg h0, nI_1, bnd_e]
      have e : g2 = g := hR.2.1 h0
      rw [e]
      obtain ⟨f, rfl⟩ : ∃ f', f = f' + 1 := ⟨f - 1, by omega⟩
      have fin := cJudge_end (P := P) (g := g) (pl := k + 1) (why := (toldA (qB q) (t.2.2.2 k)).1) hq.1 hS.1 w
      rw [pm_s] at fin
      rw [fX11_judge_45]
      split
      · exact Ev.of fin ⟨rfl, fJ.of (fC.refl g), rfl⟩
      · rw [if_neg (nn_ne (toldA_le _ _) h0)]
        exact Ev.of fin ⟨rfl, fJ.of (fC.refl g), rfl⟩
theorem cJudge_eq {q : AQ} {P : PL} {g : CS} {tr : Nat → AT} (hq : wfQ q) (hS : SQ q P g 30) (hT : ∀ i, i < 4 → CT (tr i) i g) {i : Nat} (hi : i < 4) (ht : (tr i).1 = true) {w : Int32} (hw : 0 ≤ w.toInt ∧ w.toInt ≤ 3) : Ev (fX11_judge P g (nI i) w) (fun z => z.1 = Sum.inr (jdAns (jdA (tr i).2.2.2 (tr i).2.2.1 0 (qB q)) w) ∧ fJ g z.2 ∧ (∀ k, k = 8 ∨ k = 9 ∨ k = 10 → z.2.2.2.2 31 k = g.2.2.2 30 k)) := by
  have ts := ((hT i hi).on ht).2.1
  have e3 : (3 : Int32).toInt = 3 := rfl
  have e0 : (0 : Int32).toInt = 0 := rfl
  unfold fX11_judge
  rw [needTray_y hT hi ht, bxr]
  refine Ev.k (okT_b i hi) ?_
  rw [if_neg (by rw [fa_lt, e0]; omega), if_pos (by rw [fa_le, e3]; omega)]
  have hb := become_eq (P := P) (g := g) (o := 31) (p := 30) (by decide) hq.2.2.1 hS
  have hlaw : Ev (fX6_become P g 31 30) (fun g' => ∀ k, k = 8 ∨ k = 9 ∨ k = 10 → g'.2.2.2 31 k = g.2.2.2 30 k) := by
    unfold fX6_become
    simp only [bnd_e]
    refine Ev.k (by decide) (ev_some.mpr ?_)
    rintro k (rfl | rfl | rfl) <;> simp [tF_4, tC_4, tI_2]
  obtain ⟨g1, hg1, s1, s2, s3⟩ := hb
  have hl : ∀ k, k = 8 ∨ k = 9 ∨ k = 10 → g1.2.2.2 31 k = g.2.2.2 30 k := by
    obtain ⟨g1', h1, h2⟩ := hlaw
    rw [hg1] at h1
    cases Option.some.inj h1
    exact h2
  rw [hg1, bndv_s]
  have F : fJ g g1 := ⟨fun o k hk => s3.1 o k (by simp at hk; omega), fun a _ => by rw [s3.2.1], fun a ha => s3.2.2.1 a (by simp at ha; omega), s3.2.2.2.1⟩
  refine (cJudge_lp hi ht w (tr i).2.2.1 0 fuel q g1 (by omega) (by unfold fuel; omega) hq s1 ((hT i hi).keepJ hi F)).mono ?_
  rintro z ⟨z1, z2, z3⟩
  exact ⟨z1, F.trans z2, fun k hk => by rw [z3]; exact hl k hk⟩
theorem cJudge_no {P : PL} {g : CS} {tr : Nat → AT} (hT : ∀ i, i < 4 → CT (tr i) i g) {x w : Int32} (h : trF tr x ≠ 0 ∨ ¬ (0 ≤ w.toInt ∧ w.toInt ≤ 3)) : fX11_judge P g x w = some (Sum.inl (if trF tr x = 0 then 1 else trX (trF tr x)), g) := by
  have e3 : (3 : Int32).toInt = 3 := rfl
  have e0 : (0 : Int32).toInt = 0 := rfl
  unfold fX11_judge
  by_cases h0 : trF tr x = 0
  · obtain ⟨i, hi, rfl, ht⟩ := trF_0 h0
    have h := h.resolve_left (fun z => z h0)
    rw [needTray_y hT hi ht, bxr, chk_tt (okT_b i hi), if_pos h0]
    by_cases h1 : w < 0
    · rw [if_pos h1]
    · rw [if_neg h1, if_neg (by rw [fa_le, e3]; rw [fa_lt, e0] at h1; omega)]
  · rw [needTray_n hT h0, bxl, if_neg h0]
/-! sessions -/
def drw (x : Int32) : Int32 := (1103515245 : Int32) * x + (12345 : Int32)
def hiN (x : Int32) : Nat := (jush x (16 : Int32)).toNatClampNeg
theorem hi_eq (x : Int32) : jush x (16 : Int32) = nI (hiN x) ∧ hiN x < 65536 := by
  obtain ⟨n, hn, rfl⟩ := wb_of32 x
  have e : jush (nI n) (16 : Int32) = nI (n / 65536) := jush_n (k := 16) (by omega) hn
  unfold hiN
  rw [e, nI_clamp (by omega)]
  exact ⟨rfl, by omega⟩
theorem hi_rem (x : Int32) {m : Nat} (h0 : 0 < m) (hm : m < 100) : jrem (jush x (16 : Int32)) (nI m) = nI (hiN x % m) := by
  have := hi_eq x
  rw [this.1, jr_n (by omega) h0 (by omega)]
def seV (x : Int32) : Int32 × Int32 :=
  if hiN (drw x) % 5 = 0 then (-1, drw x)
  else if hiN (drw x) % 5 = 4 then (nI (200 + hiN (drw (drw x)) % 6), drw (drw x))
  else if hiN (drw x) % 5 = 3 then (nI (101 + 10 * (hiN (drw (drw x)) % 6) + hiN (drw (drw (drw x))) % 9), drw (drw (drw x)))
  else (nI (1 + 10 * (hiN (drw (drw x)) % 6) + hiN (drw (drw (drw x))) % 5), drw (drw (drw x)))
def seL : Nat → AQ → Int32 → Nat × AQ
  | 0, q, _ => (0, q)
  | d + 1, q, x => ((if (toldA (qB q) (seV x).1.toInt64).1 = 0 then 1 else 0) + (seL d (ddA q (toldA (qB q) (seV x).1.toInt64)) (seV x).2).1, (seL d (ddA q (toldA (qB q) (seV x).1.toInt64)) (seV x).2).2)
theorem seL_wf : ∀ d (q : AQ) (x : Int32), wfQ q → wfQ (seL d q x).2 ∧ (seL d q x).1 ≤ d
  | 0, q, x, h => ⟨h, Nat.le_refl 0⟩
  | d + 1, q, x, h => by
    have ih := seL_wf d (ddA q (toldA (qB q) (seV x).1.toInt64)) (seV x).2 (wfQ_dd h (toldA_wf h.1 _))
    refine ⟨ih.1, ?_⟩
    show (if (toldA (qB q) (seV x).1.toInt64).1 = 0 then 1 else 0) + _ ≤ d + 1
    have := ih.2
    split <;> omega
theorem seV_dom (x : Int32) : (seV x).1 = -1 ∨ ∃ n, n < 300 ∧ (seV x).1 = nI n := by
  unfold seV
  repeat' split
  · exact Or.inl rfl
  · exact Or.inr ⟨_, by omega, rfl⟩
  · exact Or.inr ⟨_, by omega, rfl⟩
  · exact Or.inr ⟨_, by omega, rfl⟩
theorem draw_eq {g : MS} {m : Nat} (h0 : 0 < m) (hm : m < 100) : fX12_draw g (nI m) = some (nI (hiN (drw (g.1 25)) % m), sI g 25 (drw (g.1 25))) := by
  unfold fX12_draw
  rw [bnd_e, chk_tt (nz_n h0 (by omega))]
  have e : (sI g 25 ((1103515245 : Int32) * g.1 25 + (12345 : Int32))).1 25 = drw (g.1 25) := rfl
  rw [e, hi_rem _ h0 hm]
  rfl
theorem t64 {v : Int32} (h : v = -1 ∨ ∃ n, n < 300 ∧ v = nI n) : v.toInt64.toInt32 = v := by
  rcases h with rfl | ⟨n, hn, rfl⟩
  · rfl
  · rw [nI_l (by omega), lN_i]
theorem mSes_step {q : AQ} {g : MS} (hq : wfQ q) (hK : KQ q (g.2.1 0)) {v : Int32} (hv : v = -1 ∨ ∃ n, n < 300 ∧ v = nI n) (k33 : MS → Int32 → Int32 → Int32 → Option (Int32 × MS)) {n k c : Nat} {Q : Int32 × MS → Prop}
    (go : ∀ g' : MS, KQ (ddA q (toldA (qB q) v.toInt64)) (g'.2.1 0) → fM [] [0, 19, 20, 21, 22, 23] g g' → Ev (k33 g' (nI n) (nI ((if (toldA (qB q) v.toInt64).1 = 0 then 1 else 0) + c)) (nI (k + 1))) Q) : Ev (fX12_session_67 k33 g (nI n) (nI c) (nI k) v) Q := by
  unfold fX12_session_67
  rw [whyTold_eq hq.1 hK.1, bndc_s]
  have hh := toldA_wf hq.1 v.toInt64
  by_cases h0 : (toldA (qB q) v.toInt64).1 = 0
  · rw [h0, if_pos n00]
    refine Ev.v (keeps_eq hq hK) ?_
    rintro g1 ⟨k1, f1⟩
    have dd := does_eq hq.1 (kB k1) h0
    rw [t64 hv] at dd
    refine Ev.v dd ?_
    intro g2 d2
    rw [nI_1, nI_1, bnd_e, bnd_e]
    have := go g2 (by unfold ddA; rw [if_pos h0]; exact k1.deed hh.2 d2) ((f1.mono (by decide) (by decide)).trans d2.2.2)
    rw [if_pos h0, Nat.add_comm] at this
    exact this
  · rw [if_neg (nn_ne (toldA_le _ _) h0), nI_1, bnd_e]
    have := go g (by unfold ddA; rw [if_neg h0]; exact hK) (fM.refl g)
    rw [if_neg h0, Nat.zero_add] at this
    exact this
theorem mSes_lp (n : Nat) (hn : n ≤ 30) : ∀ d k f c (q : AQ) (g : MS), k + d = n → d < f → c + d ≤ 100 → wfQ q → KQ q (g.2.1 0) → Ev (fX12_session_33 f g (nI n) (nI c) (nI k)) (fun z => z.1 = nI (c + (seL d q (g.1 25)).1) ∧ KQ (seL d q (g.1 25)).2 (z.2.2.1 0) ∧ fM [25] [0, 19, 20, 21, 22, 23] g z.2) := by
  intro d
  induction d with
  | zero =>
    intro k f c q g hk hf hc hq hK
    obtain ⟨f, rfl⟩ : ∃ f', f = f' + 1 := ⟨f - 1, by omega⟩
    rw [fX12_session_33, if_pos (nI_le (by omega) (by omega))]
    exact ev_some.mpr ⟨rfl, hK, fM.refl g⟩
  | succ d ih =>
    intro k f c q g hk hf hc hq hK
    obtain ⟨f, rfl⟩ : ∃ f', f = f' + 1 := ⟨f - 1, by omega⟩
    rw [fX12_session_33, if_neg (nI_ge (by omega) (by omega)), l_5, draw_eq (by omega) (by omega), bndc_s, i0 (by omega)]
    have fin : ∀ (g1 : MS) (v : Int32), (seV (g.1 25)) = (v, g1.1 25) → KQ q (g1.2.1 0) → fM [25] [0, 19, 20, 21, 22, 23] g g1 → Ev (fX12_session_67 (fX12_session_33 f) g1 (nI n) (nI c) (nI k) v) (fun z => z.1 = nI (c + (seL (d + 1) q (g.1 25)).1) ∧ KQ (seL (d + 1) q (g.1 25)).2 (z.2.2.1 0) ∧ fM [25] [0, 19, 20, 21, 22, 23] g z.2) := by
      intro g1 v hv hK1 f1
      have hd := seV_dom (g.1 25)
      rw [hv] at hd
      refine mSes_step hq hK1 hd (fX12_session_33 f) ?_
      intro g2 hK2 f2
      have hh := toldA_wf hq.1 v.toInt64
      have e25 : g2.1 25 = g1.1 25 := f2.1 25 (by decide)
      refine (ih (k + 1) f _ _ g2 (by omega) (by omega) (by split <;> omega) (wfQ_dd hq hh) hK2).mono ?_
      rintro z ⟨z1, z2, z3⟩
      rw [e25] at z1 z2
      refine ⟨?_, ?_, f1.trans ((f2.mono (by decide) (by decide)).trans z3)⟩
      · rw [z1]
        show _ = nI (c + ((if (toldA (qB q) (seV (g.1 25)).1.toInt64).1 = 0 then 1 else 0) + (seL d (ddA q (toldA (qB q) (seV (g.1 25)).1.toInt64)) (seV (g.1 25)).2).1))
        rw [hv]
        congr 1
        rw [Nat.add_comm _ c, Nat.add_assoc]
      · show KQ (seL d (ddA q (toldA (qB q) (seV (g.1 25)).1.toInt64)) (seV (g.1 25)).2).2 _
        rw [hv]
        exact z2
    by_cases h5 : hiN (drw (g.1 25)) % 5 = 0
    · rw [if_pos h5]
      exact fin _ _ (by unfold seV; rw [if_pos h5]; rfl) hK ((fM.refl g).sI (by decide))
    · rw [if_neg h5, l_6, draw_eq (by omega) (by omega), bndc_s]
      have e1 : (sI g 25 (drw (g.1 25))).1 25 = drw (g.1 25) := rfl
      rw [e1]
      unfold fX12_drawn
      have h5l : hiN (drw (g.1 25)) % 5 < 5 := Nat.mod_lt _ (by omega)
      rw [l_4, l_3, iEQ (by omega) (by omega), iEQ (by omega) (by omega)]
      by_cases h4 : hiN (drw (g.1 25)) % 5 = 4
      · rw [if_pos h4, bndc_s, l_200, nI_add]
        exact fin _ _ (by unfold seV; rw [if_neg h5, if_pos h4]; rfl) hK (((fM.refl g).sI (by decide)).sI (by decide))
      · rw [if_neg h4]
        have e2 : (sI (sI g 25 (drw (g.1 25))) 25 (drw (drw (g.1 25)))).1 25 = drw (drw (g.1 25)) := rfl
        by_cases h3 : hiN (drw (g.1 25)) % 5 = 3
        · rw [if_pos h3, l_9, draw_eq (by omega) (by omega), bndc_s, bndc_s, e2, l_101, l_10, pk_mul, nI_add, nI_add]
          exact fin _ _ (by unfold seV; rw [if_neg h5, if_neg h4, if_pos h3]; rfl) hK ((((fM.refl g).sI (by decide)).sI (by decide)).sI (by decide))
        · rw [if_neg h3, l_5, draw_eq (by omega) (by omega), bndc_s, bndc_s, e2, l_1, l_10, pk_mul, nI_add, nI_add]
          exact fin _ _ (by unfold seV; rw [if_neg h5, if_neg h4, if_neg h3]; rfl) hK ((((fM.refl g).sI (by decide)).sI (by decide)).sI (by decide))
theorem mSession_eq {q : AQ} {g : MS} (hq : wfQ q) (hK : KQ q (g.2.1 0)) {n : Nat} (h1 : 1 ≤ n) (h30 : n ≤ 30) (x : Int32) : Ev (fX12_session g x (nI n)) (fun z => z.1 = nI (seL n q x).1 ∧ MRes (seL n q x).2 0 g z.2) := by
  have e1 : (1 : Int64).toInt = 1 := rfl
  have e3 : (30 : Int64).toInt = 30 := rfl
  unfold fX12_session
  rw [bnd_e, within_y (by rw [i64, n_toInt (by omega), e1]; omega) (by rw [i64, n_toInt (by omega), e3]; omega), bndv_s, if_neg (by decide), bnd_e]
  refine (mSes_lp n h30 n 0 fuel 0 q (sI (sI g 4 0) 25 x) (by omega) (by unfold fuel; omega) (by omega) hq hK).mono ?_
  rintro z ⟨z1, z2, z3⟩
  have ex : (sI (sI g 4 0) 25 x).1 25 = x := rfl
  rw [ex] at z1 z2
  refine ⟨by rw [z1, Nat.zero_add], z2, ?_, ?_⟩
  · rw [z3.1 4 (by decide)]; rfl
  · exact ((kpM.th g 0).trans (kpM.of (li := [25]) (la := []) ((fM.refl _).sI (by decide)) (by decide) (by decide))).trans (kpM.of z3 (by decide) (by decide))
theorem mSession_no {q : AQ} {g : MS} (hK : KQ q (g.2.1 0)) {y : Int32} (h : ¬ (1 ≤ y.toInt ∧ y.toInt ≤ 30)) (x : Int32) : Ev (fX12_session g x y) (fun z => MRes q 1 g z.2) := by
  unfold fX12_session fX12_fails
  rw [bnd_e, within_n (by rw [i64]; exact h), bndv_s, if_pos rfl, bnd_e, bndc_s]
  exact ev_some.mpr ⟨hK, rfl, (kpM.th g 0).trans (kpM.th _ _)⟩
section
variable {q : AQ} {P : PL} {g : CS}
theorem told_t {b : AB} {m d : Nat} (hm : m < 6) (hd : d < 5) : toldA b (nI (1 + 10 * m + d)).toInt64 = trN b m (1 + d) := by
  unfold toldA toldN
  rw [nI_l (by omega), lN_I (by omega), if_neg (by omega), if_neg (by omega), if_neg (by omega), Int.toNat_natCast, if_pos (by omega), show (1 + 10 * m + d) / 10 = m by omega, show (1 + 10 * m + d) % 10 = 1 + d by omega]
theorem told_w {b : AB} {m d : Nat} (hm : m < 6) (hd : d < 9) : toldA b (nI (101 + 10 * m + d)).toInt64 = weN b m (1 + d) := by
  unfold toldA toldN
  rw [nI_l (by omega), lN_I (by omega), if_neg (by omega), if_neg (by omega), if_neg (by omega), Int.toNat_natCast, if_neg (by omega), if_pos (by omega), show (101 + 10 * m + d - 100) / 10 = m by omega, show (101 + 10 * m + d) % 10 = 1 + d by omega]
theorem told_s {b : AB} {m : Nat} (hm : m < 6) : toldA b (nI (200 + m)).toInt64 = stN b m := by
  unfold toldA toldN
  rw [nI_l (by omega), lN_I (by omega), if_neg (by omega), if_neg (by omega), if_neg (by omega), Int.toNat_natCast, if_neg (by omega), if_neg (by omega), if_pos (by omega), show 200 + m - 200 = m by omega]
theorem cSes_lp (n : Nat) (hn : n ≤ 30) : ∀ d k f c (q : AQ) (x : Int32) (g : CS), k + d = n → d < f → c + d ≤ 100 → wfQ q → SQ q P g 30 → Ev (fX11_session_29 P f g (nI n) x (nI c) (nI k)) (fun z => z.1 = Sum.inr (nI (c + (seL d q x).1)) ∧ ∃ j, j ≤ d ∧ (j = 0 → (seL d q x).2 = q) ∧ LV (seL d q x).2 j P g z.2) := by
  intro d
  induction d with
  | zero =>
    intro k f c q x g hk hf hc hq hS
    obtain ⟨f, rfl⟩ : ∃ f', f = f' + 1 := ⟨f - 1, by omega⟩
    rw [fX11_session_29, if_pos (nI_le (by omega) (by omega))]
    exact ev_some.mpr ⟨rfl, 0, Nat.le_refl 0, (fun _ => rfl), LV.refl hS⟩
  | succ d ih =>
    intro k f c q x g hk hf hc hq hS
    obtain ⟨f, rfl⟩ : ∃ f', f = f' + 1 := ⟨f - 1, by omega⟩
    -- behind the draws
    have fin : ∀ (s m a : Int32) (v x' : Int32), seV x = (v, x') → Ev (fX11_enactDrawn P g s m a) (DR q (toldA (qB q) v.toInt64) P g 30) → Ev (fX11_session_111 P (fX11_session_29 P f) g (nI n) x' (nI c) (nI k) s m a) (fun z => z.1 = Sum.inr (nI (c + (seL (d + 1) q x).1)) ∧ ∃ j, j ≤ d + 1 ∧ (j = 0 → (seL (d + 1) q x).2 = q) ∧ LV (seL (d + 1) q x).2 j P g z.2) := by
      intro s m a v x' hv hR
      have eS : seL (d + 1) q x = ((if (toldA (qB q) v.toInt64).1 = 0 then 1 else 0) + (seL d (ddA q (toldA (qB q) v.toInt64)) x').1, (seL d (ddA q (toldA (qB q) v.toInt64)) x').2) := by
        show ((if (toldA (qB q) (seV x).1.toInt64).1 = 0 then 1 else 0) + (seL d (ddA q (toldA (qB q) (seV x).1.toInt64)) (seV x).2).1, (seL d (ddA q (toldA (qB q) (seV x).1.toInt64)) (seV x).2).2) = _
        rw [hv]
      rw [eS]
      unfold fX11_session_111
      refine Ev.c hR ?_
      intro r g2 hD
      obtain ⟨r1, hL⟩ := lvDR hS hD
      dsimp only at r1 hL
      have hh := toldA_wf hq.1 v.toInt64
      by_cases h0 : (toldA (qB q) v.toInt64).1 = 0
      · rw [r1, h0, if_pos n00, if_pos rfl, nI_1, nI_1, bnd_e, bnd_e]
        rw [if_pos h0] at hL
        refine (ih (k + 1) f (c + 1) _ x' g2 (by omega) (by omega) (by omega) (wfQ_dd hq hh) hL.1).mono ?_
        rintro z ⟨z1, j, z2, -, z3⟩
        exact ⟨by rw [z1, Nat.add_assoc], 1 + j, by omega, (fun e => absurd e (by omega)), hL.trans z3⟩
      · rw [r1, if_neg (nn_ne (toldA_le _ _) h0), if_neg h0, nI_1, bnd_e]
        rw [if_neg h0] at hL
        refine (ih (k + 1) f c _ x' g2 (by omega) (by omega) (by omega) (wfQ_dd hq hh) hL.1).mono ?_
        rintro z ⟨z1, j, z2, z4, z3⟩
        exact ⟨by rw [z1, Nat.zero_add], 0 + j, by omega, (fun e => (z4 (by omega)).trans (if_neg h0)), hL.trans z3⟩
    have dr : ∀ y : Int32, fX11_drawnFrom y = some (drw y) := fun y => rfl
    rw [fX11_session_29, if_neg (nI_ge (by omega) (by omega)), dr, bndv_s, l_5]
    refine Ev.k (by decide) ?_
    rw [hi_rem _ (by omega) (by omega), bnd_e, i0 (by omega)]
    have h5l : hiN (drw x) % 5 < 5 := Nat.mod_lt _ (by omega)
    by_cases h5 : hiN (drw x) % 5 = 0
    · rw [if_pos h5, h5]
      unfold fX11_session_73
      rw [if_pos (by decide)]
      refine fin _ _ _ (-1) _ (by unfold seV; rw [if_pos h5]) ?_
      unfold fX11_enactDrawn
      rw [if_pos (by decide), bndc_id]
      exact cEnact_eq okS30 hq hS (-1)
    · rw [if_neg h5, dr, bndv_s, l_6]
      refine Ev.k (by decide) ?_
      rw [hi_rem _ (by omega) (by omega), bnd_e]
      have h6l : hiN (drw (drw x)) % 6 < 6 := Nat.mod_lt _ (by omega)
      unfold fX11_session_73
      rw [if_neg (show ¬ nI (hiN (drw x) % 5) < (1 : Int32) from nI_nlt (b := 1) (by omega) (by omega)), l_3, iLT (by omega) (by omega)]
      by_cases h4 : hiN (drw x) % 5 = 4
      · rw [if_pos (by omega), h4]
        refine fin _ _ _ _ _ (by unfold seV; rw [if_neg h5, if_pos h4]) ?_
        unfold fX11_enactDrawn
        rw [if_neg (by decide), if_neg (by decide), if_pos (by decide), bndc_id, told_s h6l]
        exact cStick_eq okS30 hq hS (by omega)
      · rw [if_neg (by omega), dr, bndv_s, iEQ (by omega) (by omega)]
        by_cases h3 : hiN (drw x) % 5 = 3
        · rw [if_pos h3, h3]
          have h9l : hiN (drw (drw (drw x))) % 9 < 9 := Nat.mod_lt _ (by omega)
          unfold fX11_session_107
          rw [l_9]
          refine Ev.k (by decide) ?_
          rw [hi_rem _ (by omega) (by omega), l_1, nI_add, bnd_e]
          refine fin _ _ _ _ _ (by unfold seV; rw [if_neg h5, if_neg h4, if_pos h3]) ?_
          unfold fX11_enactDrawn
          rw [if_neg (by decide), if_pos (by decide), bndc_id, told_w h6l h9l]
          exact cWeigh_eq okS30 hq hS (by omega) (by omega)
        · rw [if_neg h3]
          have h9l : hiN (drw (drw (drw x))) % 5 < 5 := Nat.mod_lt _ (by omega)
          unfold fX11_session_107
          refine Ev.k (by decide) ?_
          rw [l_5, hi_rem _ (by omega) (by omega), l_1, nI_add, bnd_e]
          refine fin _ _ _ _ _ (by unfold seV; rw [if_neg h5, if_neg h4, if_neg h3]) ?_
          unfold fX11_enactDrawn fX11_enactDrawn_66
          rw [if_neg (by rw [l_0, nI_eq (by omega) (by omega)]; exact h5), if_neg (by rw [l_3, nI_eq (by omega) (by omega)]; exact h3), if_neg (by rw [l_4, nI_eq (by omega) (by omega)]; exact h4), bndc_id, told_t h6l h9l]
          exact cTurn_eq okS30 hq hS (by omega) (by omega)
theorem cSession_eq (hq : wfQ q) (hS : SQ q P g 30) {n : Nat} (h1 : 1 ≤ n) (h30 : n ≤ 30) (x : Int32) : Ev (fX11_session P g x (nI n)) (fun z => z.1 = Sum.inr (nI (seL n q x).1) ∧ ∃ j, j ≤ 30 ∧ (j = 0 → (seL n q x).2 = q) ∧ LV (seL n q x).2 j P g z.2) := by
  unfold fX11_session
  rw [if_neg (show ¬ nI n < (1 : Int32) from nI_nlt (b := 1) h1 (by omega)), if_pos (show nI n ≤ (30 : Int32) from nI_le (b := 30) h30 (by omega))]
  refine (cSes_lp n h30 n 0 fuel 0 q x g (by omega) (by unfold fuel; omega) (by omega) hq hS).mono ?_
  rintro z ⟨z1, j, z2, z3, z4⟩
  exact ⟨by rw [z1, Nat.zero_add], j, by omega, z3, z4⟩
theorem cSession_no {y : Int32} (h : ¬ (1 ≤ y.toInt ∧ y.toInt ≤ 30)) (x : Int32) : fX11_session P g x y = some (Sum.inl 1, g) := by
  have e1 : (1 : Int32).toInt = 1 := rfl
  have e3 : (30 : Int32).toInt = 30 := rfl
  unfold fX11_session
  by_cases h1 : y < (1 : Int32)
  · rw [if_pos h1]
  · rw [if_neg h1, if_neg (by rw [fa_le, e3]; rw [fa_lt, e1] at h1; omega)]
end
