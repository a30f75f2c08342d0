/-! ===== the reference goes through all rows ===== -/
def RI (b : AB) (g : MS) : Prop := KB b (g.2.1 0) ∧ (∀ m, m < bN b → g.2.1 27 m = nI (bs (alA b m) (bN b))) ∧ (∀ m, m < bN b → g.2.1 28 m = nI (prA b m))
def NR (n : Nat) (v : Nat → Nat) (g : MS) : Prop := ∀ j, j < n → g.2.1 26 j = nI (v j)
theorem RI.keep {b : AB} {g g' : MS} {li la : List Nat} (h : RI b g) (f : fM li la g g') (ha : 0 ∉ la ∧ 27 ∉ la ∧ 28 ∉ la) : RI b g' := by
  unfold RI
  rw [f.row 0 ha.1, f.row 27 ha.2.1, f.row 28 ha.2.2]
  exact h
theorem NR.keep {n : Nat} {v : Nat → Nat} {g g' : MS} {li la : List Nat} (h : NR n v g) (f : fM li la g g') (ha : 26 ∉ la) : NR n v g' := by
  unfold NR
  rw [f.row 26 ha]
  exact h
section
variable {b : AB} {g : MS} {v a : Nat → Nat}
theorem along_lp (hw : wfB b) : ∀ d k f (g : MS), k + d = bN b → d < f → KB b (g.2.1 0) → (∀ m, m < k → g.2.1 27 m = nI (bs (alA b m) (bN b))) → (∀ m, m < k → g.2.1 28 m = nI (prA b m)) → Ev (fX12_laysAlong_2 f g (nI k)) (fun g' => RI b g' ∧ fM [] [19, 20, 27, 28] g g') := by
  have hn := hw.2.1
  intro d
  induction d with
  | zero =>
    intro k f g hk hf hK h1 h2
    obtain ⟨f, rfl⟩ : ∃ f', f = f' + 1 := ⟨f - 1, by omega⟩
    have hk : k = bN b := hk
    subst hk
    rw [fX12_laysAlong_2, size_eq hK, bndc_s, if_pos (nI_le (by omega) (by omega))]
    exact ev_some.mpr ⟨⟨hK, h1, h2⟩, fM.refl g⟩
  | succ d ih =>
    intro k f g hk hf hK h1 h2
    obtain ⟨f, rfl⟩ : ∃ f', f = f' + 1 := ⟨f - 1, by omega⟩
    rw [fX12_laysAlong_2, size_eq hK, bndc_s, if_neg (nI_ge (by omega) (by omega))]
    refine Ev.c (draggedBy_eq hw hK (show k < bN b by omega)) ?_
    rintro r g1 ⟨r1, r2⟩
    dsimp only at r1
    subst r1
    refine Ev.k (ib_n (by omega) (by omega)) ?_
    rw [bnd_e, ix_n (by omega)]
    have f1 : fM [] [19, 20, 27, 28] g (sA g1 27 k (nI (bs (alA b k) (bN b)))) := (r2.mono (by decide) (by decide)).sA (by decide)
    refine Ev.c (notchCosts_eq hw (by rw [f1.row 0 (by decide)]; exact hK) (show k < bN b by omega)) ?_
    rintro r g2 ⟨s1, s2⟩
    dsimp only at s1
    subst s1
    refine Ev.k (ib_n (by omega) (by omega)) ?_
    rw [bnd_e, nI_1, bnd_e]
    have f2 : fM [] [19, 20, 27, 28] g (sA g2 28 k (nI (prA b k))) := (f1.trans (s2.mono (by decide) (by decide))).sA (by decide)
    have e27 : g2.2.1 27 = upd (g1.2.1 27) k (nI (bs (alA b k) (bN b))) := s2.row 27 (by decide)
    have e28 : g2.2.1 28 = g.2.1 28 := (s2.row 28 (by decide)).trans (r2.row 28 (by decide))
    refine (ih (k + 1) f (sA g2 28 k (nI (prA b k))) (by omega) (by omega) (by rw [f2.row 0 (by decide)]; exact hK) (fun m hm => ?_) (fun m hm => ?_)).mono ?_
    · show g2.2.1 27 m = _
      rw [e27, upd_j]
      by_cases e : m = k
      · rw [if_pos e, e]
      · rw [if_neg e, r2.row 27 (by decide)]; exact h1 m (by omega)
    · show upd (g2.2.1 28) k _ m = _
      rw [upd_j]
      by_cases e : m = k
      · rw [if_pos e, e]
      · rw [if_neg e, e28]; exact h2 m (by omega)
    · rintro z ⟨z1, z2⟩
      exact ⟨z1, f2.trans z2⟩
theorem along_eq (hw : wfB b) (hK : KB b (g.2.1 0)) : Ev (fX12_laysAlong g) (fun g' => RI b g' ∧ fM [] [19, 20, 27, 28] g g') := by
  have hn := hw.2.1
  exact along_lp hw (bN b) 0 fuel g (by omega) (by unfold fuel; omega) hK (fun m hm => absurd hm (Nat.not_lt_zero m)) (fun m hm => absurd hm (Nat.not_lt_zero m))
def bhP (b : AB) (v : Nat → Nat) (m : Nat) : Nat → Nat := fun j => (bA b j + fb_sm (fun i => if alA b i j = true ∧ j < bN b then v i else 0) m) % bN b
theorem bhP_lt (hw : wfB b) (m j : Nat) : bhP b v m j < bN b := Nat.mod_lt _ (by have := hw.1; omega)
theorem bhP_succ (m j : Nat) : bhP b v (m + 1) j = (bhP b v m j + (if alA b m j = true ∧ j < bN b then v m else 0)) % bN b := by
  unfold bhP
  rw [Nat.mod_add_mod, fb_sm_succ, Nat.add_assoc]
theorem beh_in (hw : wfB b) (hv : ∀ j, j < bN b → v j ≤ 1000) (k6 : MS → Int32 → Option MS) {m : Nat} (hm : m < bN b) {Q : MS → Prop} : ∀ d k f (g : MS), k + d = bN b → d < f → RI b g → NR (bN b) v g → (∀ j, j < bN b → g.2.1 21 j = nI (if j < k then bhP b v (m + 1) j else bhP b v m j)) →
    (∀ g' : MS, (∀ j, j < bN b → g'.2.1 21 j = nI (bhP b v (m + 1) j)) → fM [] [21] g g' → Ev (k6 g' (nI (m + 1))) Q) → Ev (fX12_aimsBehind_16 k6 f g (nI m) (nI k)) Q := by
  have hn := hw.2.1
  have hn2 := hw.1
  intro d
  induction d with
  | zero =>
    intro k f g hk hf hR hN h kk
    obtain ⟨f, rfl⟩ : ∃ f', f = f' + 1 := ⟨f - 1, by omega⟩
    rw [fX12_aimsBehind_16, size_eq hR.1, bndc_s, if_pos (nI_le (by omega) (by omega)), nI_1, bnd_e]
    exact kk g (fun j hj => by rw [h j hj, if_pos (by omega)]) (fM.refl g)
  | succ d ih =>
    intro k f g hk hf hR hN h kk
    obtain ⟨f, rfl⟩ : ∃ f', f = f' + 1 := ⟨f - 1, by omega⟩
    have hlt := bs_lt (alA b m) (bN b)
    have hp : (2 : Nat) ^ bN b ≤ 2 ^ 6 := Nat.pow_le_pow_right (by omega) hn
    have hvm := hv m hm
    have hb := bhP_lt (v := v) hw m k
    rw [fX12_aimsBehind_16, size_eq hR.1, bndc_s, if_neg (nI_ge (by omega) (by omega))]
    refine Ev.k (ib_n (by omega) (by omega)) ?_
    rw [ix_n (by omega), hR.2.1 m hm, has_eq _ (by omega) k (by omega), bndv_s, bs_tb, decide_eq_true (show k < bN b by omega), Bool.true_and]
    have ek : g.2.1 21 k = nI (bhP b v m k) := by rw [h k (by omega), if_neg (Nat.lt_irrefl k)]
    have key : ∀ (g1 : MS), (∀ j, j < bN b → g1.2.1 21 j = if j = k then nI (bhP b v (m + 1) k) else g.2.1 21 j) → ∀ j, j < bN b → g1.2.1 21 j = nI (if j < k + 1 then bhP b v (m + 1) j else bhP b v m j) := fun g1 hg j hj => by
      rw [hg j hj]
      by_cases e : j = k
      · rw [if_pos e, if_pos (by omega), e]
      · rw [if_neg e, h j hj]
        by_cases e2 : j < k
        · rw [if_pos e2, if_pos (by omega)]
        · rw [if_neg e2, if_neg (by omega)]
    cases hal : alA b m k with
    | false =>
      rw [if_pos (show nI false.toNat = 0 from rfl), nI_1, bnd_e]
      refine ih (k + 1) f g (by omega) (by omega) hR hN (key g (fun j hj => ?_)) kk
      by_cases e : j = k
      · rw [if_pos e, e, ek, bhP_succ, if_neg (by rw [hal]; simp), Nat.add_zero, Nat.mod_eq_of_lt hb]
      · rw [if_neg e]
    | true =>
      rw [if_neg (show ¬ nI true.toNat = 0 by decide)]
      refine Ev.k (ib_n (by omega) (by omega)) (Ev.k (ib_n (by omega) (by omega)) ?_)
      rw [size_eq hR.1, bndc_s]
      refine Ev.k (nz_n (by omega) (by omega)) (Ev.k (ib_n (by omega) (by omega)) ?_)
      rw [bnd_e, nI_1, bnd_e, ix_n (by omega), ek, hN m hm, nI_add, jr_n (by omega) (by omega) (by omega)]
      have f1 : fM [] [21] g (sA g 21 k (nI ((bhP b v m k + v m) % bN b))) := (fM.refl g).sA (by decide)
      refine ih (k + 1) f _ (by omega) (by omega) (hR.keep f1 (by decide)) (hN.keep f1 (by decide)) (key _ (fun j hj => ?_)) (fun g' h1 h2 => kk g' h1 (f1.trans h2))
      show upd (g.2.1 21) k _ j = _
      rw [upd_j]
      by_cases e : j = k
      · rw [if_pos e, if_pos e, bhP_succ, if_pos ⟨hal, by omega⟩]
      · rw [if_neg e, if_neg e]
theorem beh_lp (hw : wfB b) (hv : ∀ j, j < bN b → v j ≤ 1000) : ∀ d m f (g : MS), m + d = bN b → d < f → RI b g → NR (bN b) v g → (∀ j, j < bN b → g.2.1 21 j = nI (bhP b v m j)) → Ev (fX12_aimsBehind_6 f g (nI m)) (fun g' => AR (bN b) (bhA b v) g' ∧ fM [] [21] g g') := by
  have hn := hw.2.1
  intro d
  induction d with
  | zero =>
    intro m f g hm hf hR hN h
    obtain ⟨f, rfl⟩ : ∃ f', f = f' + 1 := ⟨f - 1, by omega⟩
    have hm : m = bN b := hm
    subst hm
    rw [fX12_aimsBehind_6, size_eq hR.1, bndc_s, if_pos (nI_le (by omega) (by omega))]
    exact ev_some.mpr ⟨h, fM.refl g⟩
  | succ d ih =>
    intro m f g hm hf hR hN h
    obtain ⟨f, rfl⟩ : ∃ f', f = f' + 1 := ⟨f - 1, by omega⟩
    rw [fX12_aimsBehind_6, size_eq hR.1, bndc_s, if_neg (nI_ge (by omega) (by omega))]
    refine beh_in hw hv (fX12_aimsBehind_6 f) (show m < bN b by omega) (bN b) 0 fuel g (by omega) (by unfold fuel; omega) hR hN (fun j hj => by rw [h j hj, if_neg (Nat.not_lt_zero j)]) (fun g' h1 h2 => ?_)
    refine (ih (m + 1) f g' (by omega) (by omega) (hR.keep h2 (by decide)) (hN.keep h2 (by decide)) h1).mono ?_
    rintro z ⟨z1, z2⟩
    exact ⟨z1, h2.trans z2⟩
theorem behind_eq (hw : wfB b) (hv : ∀ j, j < bN b → v j ≤ 1000) (hR : RI b g) (hN : NR (bN b) v g) : Ev (fX12_aimsBehind g) (fun g' => AR (bN b) (bhA b v) g' ∧ fM [] [21] g g') := by
  have hn := hw.2.1
  unfold fX12_aimsBehind
  refine Ev.v (aimsNow_eq hw hR.1) ?_
  rintro g1 ⟨h1, h2⟩
  refine (beh_lp hw hv (bN b) 0 fuel g1 (by omega) (by unfold fuel; omega) (hR.keep h2 (by decide)) (hN.keep h2 (by decide)) (fun j hj => ?_)).mono ?_
  · rw [h1 j hj]
    show _ = nI ((bA b j + 0) % bN b)
    rw [Nat.add_zero, Nat.mod_eq_of_lt (hw.2.2.1 j (by omega)).1]
  · rintro z ⟨z1, z2⟩
    exact ⟨z1, h2.trans z2⟩
theorem costOf_lp (hw : wfB b) (hR : RI b g) (hN : NR (bN b) v g) : ∀ d k f, k + d = bN b → d < f → fX12_costOf_4 f g (nI (fb_sm (fun m => prA b m * v m) k)) (nI k) = some (nI (csA b v), g) := by
  have hn := hw.2.1
  intro d
  induction d with
  | zero =>
    intro k f hk hf
    obtain ⟨f, rfl⟩ : ∃ f', f = f' + 1 := ⟨f - 1, by omega⟩
    have hk : k = bN b := hk
    subst hk
    rw [fX12_costOf_4, size_eq hR.1, bndc_s, if_pos (nI_le (by omega) (by omega))]
    rfl
  | succ d ih =>
    intro k f hk hf
    obtain ⟨f, rfl⟩ : ∃ f', f = f' + 1 := ⟨f - 1, by omega⟩
    rw [fX12_costOf_4, size_eq hR.1, bndc_s, if_neg (nI_ge (by omega) (by omega)), chk_tt (ib_n (by omega) (by omega)), chk_tt (ib_n (by omega) (by omega)), ix_n (by omega), hR.2.2 k (by omega), hN k (by omega), pk_mul, nI_add, bnd_e, nI_1, bnd_e]
    exact ih (k + 1) f (by omega) (by omega)
theorem costOf_eq (hw : wfB b) (hR : RI b g) (hN : NR (bN b) v g) : fX12_costOf g = some (nI (csA b v), g) := by
  have hn := hw.2.1
  exact costOf_lp hw hR hN (bN b) 0 fuel (by omega) (by unfold fuel; omega)
theorem keepsRow_lp (hw : wfB b) : ∀ d k f (g : MS), k + d = 6 → d < f → KB b (g.2.1 0) → NR (bN b) v g → (∀ j, j < k → g.2.1 29 j = if j < bN b then nI (v j) else -1) → Ev (fX12_keepsRow_10 f g (nI k)) (fun g' => (∀ j, j < 6 → g'.2.1 29 j = if j < bN b then nI (v j) else -1) ∧ fM [] [29] g g') := by
  have hn := hw.2.1
  intro d
  induction d with
  | zero =>
    intro k f g hk hf hK hN h
    obtain ⟨f, rfl⟩ : ∃ f', f = f' + 1 := ⟨f - 1, by omega⟩
    have hk : k = 6 := hk
    subst hk
    rw [fX12_keepsRow_10, if_pos (by decide)]
    exact ev_some.mpr ⟨h, fM.refl g⟩
  | succ d ih =>
    intro k f g hk hf hK hN h
    obtain ⟨f, rfl⟩ : ∃ f', f = f' + 1 := ⟨f - 1, by omega⟩
    rw [fX12_keepsRow_10, if_neg (show ¬ (6 : Int32) ≤ nI k from nI_ge (b := 6) (by omega) (by omega)), size_eq hK, bndc_s, iLE (by omega) (by omega)]
    have fin : ∀ x : Int32, x = (if k < bN b then nI (v k) else -1) → Ev (fX12_keepsRow_10 f (sA g 29 k x) (nI (k + 1))) (fun g' => (∀ j, j < 6 → g'.2.1 29 j = if j < bN b then nI (v j) else -1) ∧ fM [] [29] g g') := by
      intro x hx
      have f1 : fM [] [29] g (sA g 29 k x) := (fM.refl g).sA (by decide)
      refine (ih (k + 1) f (sA g 29 k x) (by omega) (by omega) hK (hN.keep f1 (by decide)) (fun j hj => ?_)).mono ?_
      · show upd (g.2.1 29) k x j = _
        rw [upd_j]
        by_cases e : j = k
        · rw [if_pos e, e, hx]
        · rw [if_neg e]; exact h j (by omega)
      · rintro z ⟨z1, z2⟩
        exact ⟨z1, f1.trans z2⟩
    by_cases h1 : bN b ≤ k
    · rw [if_pos h1]
      refine Ev.k (ib_n (by omega) (by omega)) ?_
      rw [bnd_e, nI_1, bnd_e, ix_n (by omega)]
      exact fin _ (by rw [if_neg (by omega)])
    · rw [if_neg h1]
      refine Ev.k (ib_n (by omega) (by omega)) (Ev.k (ib_n (by omega) (by omega)) ?_)
      rw [bnd_e, nI_1, bnd_e, ix_n (by omega), hN k (by omega)]
      exact fin _ (by rw [if_pos (by omega)])
def BR (b : AB) (v : Nat → Nat) (g : MS) : Prop := g.1 36 = nI (csA b v) ∧ ∀ j, j < 6 → g.2.1 29 j = if j < bN b then nI (v j) else -1
theorem keepsRow_eq (hw : wfB b) (hR : RI b g) (hN : NR (bN b) v g) : Ev (fX12_keepsRow g) (fun g' => BR b v g' ∧ fM [36] [29] g g') := by
  have hn := hw.2.1
  unfold fX12_keepsRow
  rw [costOf_eq hw hR hN, bndc_s, bnd_e]
  refine (keepsRow_lp hw 6 0 fuel (sI g 36 (nI (csA b v))) (by omega) (by unfold fuel; omega) hR.1 hN (fun j hj => absurd hj (Nat.not_lt_zero j))).mono ?_
  rintro z ⟨z1, z2⟩
  exact ⟨⟨by rw [z2.1 36 (by decide)]; rfl, z1⟩, ((fM.refl g).sI (by decide)).trans (z2.mono (by decide) (by decide))⟩
/-- a look's number -/
def lcA (a : Nat → Nat) (n : Nat) : Nat := lpf (fun j c => 6 * c + a j) n 0
theorem lcA_lt {n : Nat} {a : Nat → Nat} : ∀ k, k ≤ n → (∀ j, j < n → a j < 6) → lcA a k < 6 ^ k
  | 0, _, _ => by show 0 < 1; omega
  | k + 1, hk, h => by
    have ih := lcA_lt k (by omega) h
    have := h k (by omega)
    show 6 * lcA a k + a k < 6 ^ (k + 1)
    rw [Nat.pow_succ]
    omega
theorem lcA_inj {a c : Nat → Nat} : ∀ k, (∀ j, j < k → a j < 6 ∧ c j < 6) → (lcA a k = lcA c k ↔ ∀ j, j < k → a j = c j)
  | 0, _ => ⟨fun _ j hj => absurd hj (Nat.not_lt_zero j), fun _ => rfl⟩
  | k + 1, h => by
    have ih := lcA_inj k (fun j hj => h j (by omega))
    have h1 := h k (by omega)
    show 6 * lcA a k + a k = 6 * lcA c k + c k ↔ _
    constructor
    · intro e j hj
      have e1 : lcA a k = lcA c k := by omega
      by_cases q : j = k
      · rw [q]; omega
      · exact ih.mp e1 j (by omega)
    · intro e
      have e1 := ih.mpr (fun j hj => e j (by omega))
      have e2 := e k (by omega)
      omega
theorem lookCode_lp (hw : wfB b) (hK : KB b (g.2.1 0)) (ha : lk (bN b) a) (hA : AR (bN b) a g) : ∀ d k f, k + d = bN b → d < f → fX12_lookCode_4 f g (nI (lcA a k)) (nI k) = some (nI (lcA a (bN b)), g) := by
  have hn := hw.2.1
  intro d
  induction d with
  | zero =>
    intro k f hk hf
    obtain ⟨f, rfl⟩ : ∃ f', f = f' + 1 := ⟨f - 1, by omega⟩
    have hk : k = bN b := hk
    subst hk
    rw [fX12_lookCode_4, size_eq hK, bndc_s, if_pos (nI_le (by omega) (by omega))]
  | succ d ih =>
    intro k f hk hf
    obtain ⟨f, rfl⟩ : ∃ f', f = f' + 1 := ⟨f - 1, by omega⟩
    rw [fX12_lookCode_4, size_eq hK, bndc_s, if_neg (nI_ge (by omega) (by omega)), chk_tt (ib_n (by omega) (by omega)), ix_n (by omega), hA k (by omega), l_6, pk_mul, nI_add, bnd_e, nI_1, bnd_e]
    exact ih (k + 1) f (by omega) (by omega)
theorem lookCode_eq (hw : wfB b) (hK : KB b (g.2.1 0)) (ha : lk (bN b) a) (hA : AR (bN b) a g) : fX12_lookCode g = some (nI (lcA a (bN b)), g) := by
  have hn := hw.2.1
  exact lookCode_lp hw hK ha hA (bN b) 0 fuel (by omega) (by unfold fuel; omega)
theorem lc_lt (hw : wfB b) (ha : lk (bN b) a) : lcA a (bN b) < 46656 := by
  have hn := hw.2.1
  have h1 := lcA_lt (a := a) (bN b) (Nat.le_refl _) (fun j hj => by have := (ha j (by omega)).1; omega)
  have h2 : (6 : Nat) ^ bN b ≤ 6 ^ 6 := Nat.pow_le_pow_right (by omega) hn
  omega
def asB (b : AB) (a : Nat → Nat) : Bool := decide (∀ j, j < bN b → a j = bA b j)
theorem isAsNow_lp (hw : wfB b) (hK : KB b (g.2.1 0)) (ha : lk (bN b) a) (hA : AR (bN b) a g) : ∀ d k f, k + d = bN b → d < f → (∀ j, j < k → a j = bA b j) → fX12_isAsNow_2 f g (nI k) = some (nI (asB b a).toNat, g) := by
  have hn := hw.2.1
  intro d
  induction d with
  | zero =>
    intro k f hk hf h
    obtain ⟨f, rfl⟩ : ∃ f', f = f' + 1 := ⟨f - 1, by omega⟩
    have hk : k = bN b := hk
    subst hk
    rw [fX12_isAsNow_2, size_eq hK, bndc_s, if_pos (nI_le (by omega) (by omega))]
    unfold asB
    rw [decide_eq_true h]
    rfl
  | succ d ih =>
    intro k f hk hf h
    obtain ⟨f, rfl⟩ : ∃ f', f = f' + 1 := ⟨f - 1, by omega⟩
    have h1 := (ha k (by omega)).1
    have h2 := (hw.2.2.1 k (by omega)).1
    rw [fX12_isAsNow_2, size_eq hK, bndc_s, if_neg (nI_ge (by omega) (by omega)), l_6, nI_add, chk_tt (ib_n (by omega) (by omega)), chk_tt (ib_n (by omega) (by omega)), ix_n (by omega), ix_n (by omega), hA k (by omega), hK.2.2.1 k (by omega), iEQ (by omega) (by omega)]
    by_cases e : a k = bA b k
    · rw [if_pos e, nI_1, bnd_e]
      exact ih (k + 1) f (by omega) (by omega) (fun j hj => by
        by_cases q : j = k
        · rw [q]; exact e
        · exact h j (by omega))
    · rw [if_neg e]
      unfold asB
      rw [decide_eq_false (fun z => e (z k (by omega)))]
      rfl
theorem isAsNow_eq (hw : wfB b) (hK : KB b (g.2.1 0)) (ha : lk (bN b) a) (hA : AR (bN b) a g) : fX12_isAsNow g = some (nI (asB b a).toNat, g) := by
  have hn := hw.2.1
  exact isAsNow_lp hw hK ha hA (bN b) 0 fuel (by omega) (by unfold fuel; omega) (fun j hj => absurd hj (Nat.not_lt_zero j))
/-- it looks as told -/
def soB (n : Nat) (f : Nat → Int64) (a : Nat → Nat) : Bool := decide (∀ j, j < n → f j = -1 ∨ f j = lN (a j))
theorem looksSo_lp {t : AT} {i : Nat} (hi : i < 4) (ht : t.1 = true) (hw : wfB b) (hK : KB b (g.2.1 0)) (hT : MT t i g) (ha : lk (bN b) a) (hA : AR (bN b) a g) : ∀ d k f, k + d = bN b → d < f → (∀ j, j < k → t.2.2.2 j = -1 ∨ t.2.2.2 j = lN (a j)) → fX12_looksSo_2 f g (nI i) (nI k) = some (nI (soB (bN b) t.2.2.2 a).toNat, g) := by
  have hn := hw.2.1
  obtain ⟨t1, t2, t3, t4, t5⟩ := hT.on ht
  intro d
  induction d with
  | zero =>
    intro k f hk hf h
    obtain ⟨f, rfl⟩ : ∃ f', f = f' + 1 := ⟨f - 1, by omega⟩
    have hk : k = bN b := hk
    subst hk
    rw [fX12_looksSo_2, size_eq hK, bndc_s, if_pos (nI_le (by omega) (by omega))]
    unfold soB
    rw [decide_eq_true h]
    rfl
  | succ d ih =>
    intro k f hk hf h
    obtain ⟨f, rfl⟩ : ∃ f', f = f' + 1 := ⟨f - 1, by omega⟩
    have h1 := (ha k (by omega)).1
    have go : (t.2.2.2 k = -1 ∨ t.2.2.2 k = lN (a k)) → fX12_looksSo_2 f g (nI i) (nI (k + 1)) = some (nI (soB (bN b) t.2.2.2 a).toNat, g) := fun e => ih (k + 1) f (by omega) (by omega) (fun j hj => by
        by_cases q : j = k
        · rw [q]; exact e
        · exact h j (by omega))
    rw [fX12_looksSo_2, size_eq hK, bndc_s, if_neg (nI_ge (by omega) (by omega)), l_30, pk_mul, nI_add, chk_tt (ib_n (by omega) (by omega)), ix_n (by omega), t5 k (by omega)]
    simp only [lg_cmp_eq]
    by_cases e : t.2.2.2 k = -1
    · rw [if_pos e, nI_1, bnd_e]
      exact go (Or.inl e)
    · rw [if_neg e, chk_tt (ib_n (by omega) (by omega)), chk_tt (ib_n (by omega) (by omega)), ix_n (by omega), hA k (by omega), nI_l (by omega)]
      by_cases e2 : t.2.2.2 k = lN (a k)
      · rw [if_pos e2, nI_1, bnd_e]
        exact go (Or.inr e2)
      · rw [if_neg e2]
        unfold soB
        rw [decide_eq_false (fun z => (z k (by omega)).elim e e2)]
        rfl
theorem looksSo_eq {t : AT} {i : Nat} (hi : i < 4) (ht : t.1 = true) (hw : wfB b) (hK : KB b (g.2.1 0)) (hT : MT t i g) (ha : lk (bN b) a) (hA : AR (bN b) a g) : fX12_looksSo g (nI i) = some (nI (soB (bN b) t.2.2.2 a).toNat, g) := by
  have hn := hw.2.1
  exact looksSo_lp hi ht hw hK hT ha hA (bN b) 0 fuel (by omega) (by unfold fuel; omega) (fun j hj => absurd hj (Nat.not_lt_zero j))
end
/-! the way itself -/
section
variable {α : Type} {b : AB} {step : (Nat → Nat) → α → α} {R : α → MS → Prop}
theorem rows_in (hw : wfB b) (hRs : ∀ a g i x, R a g → R a (sA g 26 i x)) {F : Nat → α → α} {m K : Nat} (hm : m < bN b) (hK1 : 1 ≤ K) (hK6 : K ≤ 6) (v : Nat → Nat) (r : MS → Int32 → Option MS) (a0 : α)
    (hr : ∀ k a g, k < K → R a g → (∀ j, j < m + 1 → g.2.1 26 j = nI (upN v m k j)) → Ev (r g (nI (m + 1))) (fun g' => R (F k a) g' ∧ (∀ j, j < m + 1 → g'.2.1 26 j = nI (upN v m k j)))) :
    ∀ d k f (g : MS), k + d = K → d < f → R (lpf F k a0) g → (∀ j, j < m → g.2.1 26 j = nI (v j)) → Ev (fX12_goesRows_34 r f g (nI m) (nI (K - 1)) (nI k)) (fun g' => R (lpf F K a0) g' ∧ (∀ j, j < m → g'.2.1 26 j = nI (v j))) := by
  have hn := hw.2.1
  intro d
  induction d with
  | zero =>
    intro k f g hk hf hR hN
    obtain ⟨f, rfl⟩ : ∃ f', f = f' + 1 := ⟨f - 1, by omega⟩
    have hk : k = K := hk
    subst hk
    rw [fX12_goesRows_34, if_pos (nI_lt (by omega) (by omega))]
    refine Ev.k (ib_n (by omega) (by omega)) ?_
    rw [bnd_e, ix_n (by omega)]
    refine ev_some.mpr ⟨hRs _ _ _ _ hR, fun j hj => ?_⟩
    show upd (g.2.1 26) m 0 j = _
    rw [upd_j, if_neg (by omega)]
    exact hN j hj
  | succ d ih =>
    intro k f g hk hf hR hN
    obtain ⟨f, rfl⟩ : ∃ f', f = f' + 1 := ⟨f - 1, by omega⟩
    rw [fX12_goesRows_34, if_neg (nI_nlt (by omega) (by omega))]
    refine Ev.k (ib_n (by omega) (by omega)) ?_
    rw [bnd_e, ix_n (by omega), nI_1]
    refine Ev.v (hr k _ (sA g 26 m (nI k)) (by omega) (hRs _ _ _ _ hR) (fun j hj => ?_)) ?_
    · show upd (g.2.1 26) m (nI k) j = _
      rw [upd_j]
      unfold upN
      by_cases e : j = m
      · rw [if_pos e, if_pos e]
      · rw [if_neg e, if_neg e]; exact hN j (by omega)
    · rintro g1 ⟨h1, h2⟩
      rw [nI_1, bnd_e]
      refine ih (k + 1) f g1 (by omega) (by omega) h1 (fun j hj => ?_)
      rw [h2 j (by omega)]
      unfold upN
      rw [if_neg (by omega)]
theorem rows_lp (hw : wfB b) (hRK : ∀ a g, R a g → KB b (g.2.1 0)) (hRs : ∀ a g i x, R a g → R a (sA g 26 i x))
    (hleaf : ∀ v a g, (∀ j, j < bN b → v j < bN b) → R a g → NR (bN b) v g → Ev (fX12_sees g) (fun g' => R (step v a) g' ∧ g'.2.1 26 = g.2.1 26)) :
    ∀ d D v a (g : MS), d ≤ bN b → d < D → (∀ j, j + d < bN b → v j < bN b) → R a g → (∀ j, j + d < bN b → g.2.1 26 j = nI (v j)) → Ev (fX12_goesRowsD D g (nI (bN b - d))) (fun g' => R (grF b step d v a) g' ∧ (∀ j, j + d < bN b → g'.2.1 26 j = nI (v j))) := by
  have hn := hw.2.1
  have hn2 := hw.1
  intro d
  induction d with
  | zero =>
    intro D v a g hd hD hv hR hN
    obtain ⟨D, rfl⟩ : ∃ D', D = D' + 1 := ⟨D - 1, by omega⟩
    rw [fX12_goesRowsD, fX12_goesRowsB, size_eq (hRK a g hR), bndc_s, Nat.sub_zero, if_pos rfl]
    refine Ev.v (hleaf v a g (fun j hj => hv j (by omega)) hR (fun j hj => hN j (by omega))) ?_
    rintro g1 ⟨h1, h2⟩
    exact ev_some.mpr ⟨h1, fun j hj => by rw [h2]; exact hN j hj⟩
  | succ d ih =>
    intro D v a g hd hD hv hR hN
    obtain ⟨D, rfl⟩ : ∃ D', D = D' + 1 := ⟨D - 1, by omega⟩
    have hm : bN b - (d + 1) < bN b := by omega
    have em : bN b - (d + 1) + 1 = bN b - d := by omega
    rw [fX12_goesRowsD, fX12_goesRowsB, size_eq (hRK a g hR), bndc_s, if_neg (by rw [nI_eq (by omega) (by omega)]; omega), isStuck_eq hw (hRK a g hR) (by omega), bndc_s]
    have fin : ∀ K, 1 ≤ K → K ≤ bN b → Ev (fX12_goesRows_31 (fX12_goesRowsD D) g (nI (bN b - (d + 1))) (nI (K - 1))) (fun g' => R (lpf (fun k y => grF b step d (upN v (bN b - (d + 1)) k) y) K a) g' ∧ (∀ j, j + (d + 1) < bN b → g'.2.1 26 j = nI (v j))) := by
      intro K hK1 hKn
      unfold fX12_goesRows_31
      refine (rows_in hw hRs (F := fun k y => grF b step d (upN v (bN b - (d + 1)) k) y) hm hK1 (by omega) v (fX12_goesRowsD D) a (fun k a1 g1 hk hR1 hN1 => ?_) K 0 fuel g (by omega) (by unfold fuel; omega) hR (fun j hj => hN j (by omega))).mono ?_
      · rw [em]
        refine (ih D (upN v (bN b - (d + 1)) k) a1 g1 (by omega) (by omega) (fun j hj => ?_) hR1 (fun j hj => hN1 j (by omega))).mono ?_
        · unfold upN
          split
          · omega
          · exact hv j (by omega)
        · rintro z ⟨z1, z2⟩
          exact ⟨z1, fun j hj => z2 j (by omega)⟩
      · rintro z ⟨z1, z2⟩
        exact ⟨z1, fun j hj => z2 j (by omega)⟩
    unfold grF
    cases hst : stk b (bN b - (d + 1)) with
    | true =>
      rw [if_neg (show ¬ nI true.toNat = 0 by decide), if_pos rfl]
      exact fin 1 (by omega) (by omega)
    | false =>
      rw [if_pos (show nI false.toNat = 0 from rfl), size_eq (hRK a g hR), bndc_s, if_neg (by decide), l_1, pk_sub (by omega)]
      exact fin (bN b) (by omega) (by omega)
theorem rows_eq (hw : wfB b) (hs : ∀ v w a, (∀ j, j < bN b → v j = w j) → step v a = step w a) (hRK : ∀ a g, R a g → KB b (g.2.1 0)) (hRs : ∀ a g i x, R a g → R a (sA g 26 i x))
    (hleaf : ∀ v a g, (∀ j, j < bN b → v j < bN b) → R a g → NR (bN b) v g → Ev (fX12_sees g) (fun g' => R (step v a) g' ∧ g'.2.1 26 = g.2.1 26)) {a : α} {g : MS} (hR : R a g) : Ev (fX12_goesRows g (0 : Int32)) (fun g' => R (lpf (fun i y => step (rwA b i) y) (nR b) a) g') := by
  have hn := hw.2.1
  unfold fX12_goesRows
  have h := rows_lp hw hRK hRs hleaf (bN b) 12 (fun _ => 0) a g (Nat.le_refl _) (by omega) (fun j hj => absurd hj (by omega)) hR (fun j hj => absurd hj (by omega))
  rw [Nat.sub_self] at h
  refine h.mono ?_
  rintro z ⟨z1, -⟩
  rw [gr_eq hw step hs (bN b) _ a (Nat.le_refl _)] at z1
  have e : lpf (fun i y => step (mixR b (bN b) (fun _ => 0) i) y) (bN b ^ fD b (bN b)) a = lpf (fun i y => step (rwA b i) y) (nR b) a := lpf_cong (fun k y _ => hs _ _ _ (fun j hj => by unfold mixR; rw [if_neg (by omega)]))
  rw [e] at z1
  exact z1
end
