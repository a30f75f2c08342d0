/-! ===== first ones, k-th ones, greatest ones ===== -/
def mxF (c : Nat → Nat) : Nat → Nat
  | 0 => 0
  | k + 1 => if mxF c k < c k then c k else mxF c k
theorem mxF_s (c : Nat → Nat) (k : Nat) : mxF c (k + 1) = if mxF c k < c k then c k else mxF c k := rfl
theorem mxF_ge (c : Nat → Nat) : ∀ k j, j < k → c j ≤ mxF c k
  | 0, j, h => absurd h (Nat.not_lt_zero j)
  | k + 1, j, h => by
    rw [mxF_s]
    by_cases e : j = k
    · subst e
      split <;> omega
    · have := mxF_ge c k j (by omega)
      split <;> omega
theorem mxF_at (c : Nat → Nat) : ∀ k, mxF c k = 0 ∨ ∃ j, j < k ∧ mxF c k = c j
  | 0 => Or.inl rfl
  | k + 1 => by
    rw [mxF_s]
    split
    · exact Or.inr ⟨k, by omega, rfl⟩
    · rcases mxF_at c k with h | ⟨j, h1, h2⟩
      · exact Or.inl h
      · exact Or.inr ⟨j, by omega, h2⟩
theorem mxF_le {c : Nat → Nat} {B : Nat} : ∀ k, (∀ j, j < k → c j ≤ B) → mxF c k ≤ B
  | 0, _ => Nat.zero_le _
  | k + 1, h => by
    have := mxF_le k (fun j hj => h j (by omega))
    have := h k (by omega)
    rw [mxF_s]
    split <;> omega
def fiF (p : Nat → Bool) : Nat → Nat
  | 0 => 0
  | k + 1 => if fiF p k = 0 ∧ p k = true then k + 1 else fiF p k
theorem fiF_s (p : Nat → Bool) (k : Nat) : fiF p (k + 1) = if fiF p k = 0 ∧ p k = true then k + 1 else fiF p k := rfl
theorem fiF_0 {p : Nat → Bool} : ∀ N, (∀ u, u < N → p u = false) → fiF p N = 0
  | 0, _ => rfl
  | N + 1, h => by
    rw [fiF_s, if_neg (fun z => by rw [h N (by omega)] at z; exact absurd z.2 (by decide))]
    exact fiF_0 N (fun u hu => h u (by omega))
theorem fiF_at {p : Nat → Bool} {v : Nat} (hv : p v = true) (h : ∀ u, u < v → p u = false) : ∀ N, v < N → fiF p N = v + 1
  | 0, hN => absurd hN (Nat.not_lt_zero v)
  | N + 1, hN => by
    rw [fiF_s]
    by_cases e : v = N
    · subst e
      rw [if_pos ⟨fiF_0 v h, hv⟩]
    · have ih := fiF_at hv h N (by omega)
      rw [if_neg (by rw [ih]; omega), ih]
def ktF (p : Nat → Bool) (i : Nat) : Nat → Nat
  | 0 => 0
  | k + 1 => if p k = true ∧ fb_ct p k = i then k + 1 else ktF p i k
theorem ktF_s (p : Nat → Bool) (i k : Nat) : ktF p i (k + 1) = if p k = true ∧ fb_ct p k = i then k + 1 else ktF p i k := rfl
theorem ktF_at {p : Nat → Bool} {i u : Nat} (hu : p u = true) (hi : fb_ct p u = i) : ∀ N, u < N → ktF p i N = u + 1
  | 0, hN => absurd hN (Nat.not_lt_zero u)
  | N + 1, hN => by
    rw [ktF_s]
    by_cases e : u = N
    · subst e
      rw [if_pos ⟨hu, hi⟩]
    · rw [if_neg (fun z => e (fb_ct_kth_one hu z.1 (hi.trans z.2.symm)))]
      exact ktF_at hu hi N (by omega)
theorem ktF_0 {p : Nat → Bool} {i : Nat} : ∀ N, fb_ct p N ≤ i → ktF p i N = 0
  | 0, _ => rfl
  | N + 1, h => by
    rw [ktF_s]
    rw [fb_ct_succ] at h
    rw [if_neg (fun z => by rw [z.1, if_pos rfl] at h; omega)]
    exact ktF_0 N (by omega)
theorem ct_lt {p : Nat → Bool} {u v : Nat} (hu : p u = true) (h : u < v) : fb_ct p u < fb_ct p v := by
  have := fb_ct_mono p (show u + 1 ≤ v by omega)
  rw [fb_ct_succ, hu, if_pos rfl] at this
  omega
theorem ct_skip {p : Nat → Bool} {a c : Nat} (h : a ≤ c) (hz : ∀ v, a ≤ v → v < c → p v = false) : fb_ct p c = fb_ct p a := by
  obtain ⟨d, rfl⟩ : ∃ d, c = a + d := ⟨c - a, by omega⟩
  rw [fb_ct_split, fb_ct_zero.mpr (fun k hk => hz (a + k) (by omega) (by omega)), Nat.add_zero]
theorem jmax_n {i j : Nat} (hi : i < 2 ^ 31) (hj : j < 2 ^ 31) : jmax (nI i) (nI j) = nI (if i < j then j else i) := by
  unfold jmax
  rw [iLT hi hj]
  split <;> rfl
/-- both ways to the most alike -/
theorem alike_ub (w : Nat → Nat) (x : Nat) : ∀ N, fb_ct (fun i => decide (w i = x)) N ≤ mxF (fun k => fb_ct (fun i => decide (w i = w k)) (k + 1)) N
  | 0 => Nat.le_refl _
  | N + 1 => by
    have ih := alike_ub w x N
    rw [mxF_s]
    by_cases e : w N = x
    · subst e
      split <;> omega
    · rw [ct_n (decide_eq_false e)]
      split <;> omega
theorem alike_eq (w : Nat → Nat) (N : Nat) : mxF (fun k => fb_ct (fun i => decide (w i = w k)) (k + 1)) N = mxF (fun k => fb_ct (fun i => decide (w i = w k)) N) N := by
  refine Nat.le_antisymm ?_ ?_
  · rcases mxF_at (fun k => fb_ct (fun i => decide (w i = w k)) (k + 1)) N with h | ⟨j, h1, h2⟩
    · rw [h]; exact Nat.zero_le _
    · rw [h2]
      refine Nat.le_trans ?_ (mxF_ge (fun k => fb_ct (fun i => decide (w i = w k)) N) N j h1)
      exact fb_ct_mono _ (by omega)
  · rcases mxF_at (fun k => fb_ct (fun i => decide (w i = w k)) N) N with h | ⟨j, h1, h2⟩
    · rw [h]; exact Nat.zero_le _
    · rw [h2]
      exact alike_ub w (w j) N
/-! ===== one turn of one member, told as ten times it and the notches ===== -/
def okV (b : AB) (v : Nat) : Bool := decide ((trN b (v / 10) (v % 10)).1 = 0)
def laV (b : AB) (v : Nat) : Nat → Nat := bhA b (upN (fun _ => 0) (v / 10) (v % 10))
section
variable {b : AB}
theorem okV_iff (v : Nat) : okV b v = true ↔ v / 10 < bN b ∧ 1 ≤ v % 10 ∧ v % 10 < bN b ∧ stk b (v / 10) = false := by
  refine ⟨fun h => ?_, fun ⟨h1, h2, h3, h4⟩ => ?_⟩
  · have := trN_0 (of_decide_eq_true h)
    exact ⟨this.1, this.2.1, this.2.2.1, this.2.2.2.1⟩
  · refine decide_eq_true ?_
    unfold trN
    rw [if_pos ⟨h1, h2, h3⟩, h4, if_neg (by decide)]
theorem okV_no {v : Nat} (h : ¬ (v / 10 < bN b ∧ 1 ≤ v % 10 ∧ v % 10 < bN b ∧ stk b (v / 10) = false)) : okV b v = false := by
  cases e : okV b v with
  | false => rfl
  | true => exact absurd ((okV_iff v).mp e) h
theorem okV_bd (hw : wfB b) : ∀ v, fb_ct (okV b) v ≤ (bN b - 1) * (v / 10) + (if v % 10 - 1 ≤ bN b - 1 then v % 10 - 1 else bN b - 1)
  | 0 => Nat.zero_le _
  | v + 1 => by
    have ih := okV_bd hw v
    have hn := hw.2.1
    have hn1 := hw.1
    rw [fb_ct_succ]
    cases h : okV b v with
    | true =>
      obtain ⟨h1, h2, h3, -⟩ := (okV_iff v).mp h
      rw [if_pos rfl]
      rw [if_pos (by omega)] at ih
      rw [show (v + 1) / 10 = v / 10 by omega, show (v + 1) % 10 = v % 10 + 1 by omega, if_pos (by omega)]
      omega
    | false =>
      rw [if_neg (by decide)]
      by_cases e : v % 10 = 9
      · rw [show (v + 1) / 10 = v / 10 + 1 by omega, show (v + 1) % 10 = 0 by omega, Nat.mul_add, Nat.mul_one]
        split at ih <;> split <;> omega
      · rw [show (v + 1) / 10 = v / 10 by omega, show (v + 1) % 10 = v % 10 + 1 by omega]
        split at ih <;> split <;> omega
theorem ok_lt30 (hw : wfB b) {S : Nat → Bool} (hS : ∀ v, S v = true → okV b v = true) {v : Nat} (h : okV b v = true) : fb_ct S v < 30 := by
  have h0 := fb_ct_sub (n := v) (fun k _ => hS k)
  have hb := okV_bd hw v
  have hn := hw.2.1
  obtain ⟨h1, h2, h3, -⟩ := (okV_iff v).mp h
  rw [if_pos (by omega)] at hb
  have h5 : (bN b - 1) * (v / 10) ≤ 5 * (v / 10) := Nat.mul_le_mul_right _ (by omega)
  omega
theorem ok_le30 (hw : wfB b) {S : Nat → Bool} (hS : ∀ v, S v = true → okV b v = true) : fb_ct S (10 * bN b) ≤ 30 := by
  have h0 := fb_ct_sub (n := 10 * bN b) (fun k _ => hS k)
  have hb := okV_bd hw (10 * bN b)
  have hn := hw.2.1
  rw [show 10 * bN b / 10 = bN b by omega, show 10 * bN b % 10 = 0 by omega, if_pos (by omega)] at hb
  have h5 : (bN b - 1) * bN b ≤ 5 * 6 := Nat.mul_le_mul (by omega) hn
  omega
theorem ok_next {m : Nat} {c : Nat} (hc : c ≤ 10) (h : bN b ≤ c ∨ stk b m = true ∨ bN b ≤ m) (v : Nat) (h1 : 10 * m + c ≤ v) (h2 : v < 10 * (m + 1)) : okV b v = false := okV_no (fun z => by
  have e : v / 10 = m := by omega
  rw [e] at z
  rcases h with q | q | q
  · omega
  · rw [q] at z; exact absurd z.2.2.2 (by decide)
  · omega)
theorem laV_lk (hw : wfB b) (v : Nat) : lk (bN b) (laV b v) := bhA_lk hw _
theorem laV_0 (hw : wfB b) (m : Nat) {j : Nat} (hj : j < 6) : laV b (10 * m) j = bA b j := by
  have h := hw.2.2.1 j hj
  have z : ∀ k, upN (fun _ => 0) (10 * m / 10) 0 k = 0 := fun k => by unfold upN; split <;> rfl
  unfold laV bhA
  rw [show 10 * m % 10 = 0 by omega, fb_sm_cong (g := fun _ => 0) (fun k _ => by rw [z k]; split <;> rfl), fb_sm_const, Nat.mul_zero, Nat.add_zero, Nat.mod_eq_of_lt h.1]
theorem laV_up (hw : wfB b) {m k : Nat} (hm : m < bN b) (hk : k + 1 < 10) (j : Nat) : laV b (10 * m + (k + 1)) j = (laV b (10 * m + k) j + (if alA b m j = true ∧ j < bN b then 1 else 0)) % bN b := by
  unfold laV
  rw [show (10 * m + (k + 1)) / 10 = m by omega, show (10 * m + (k + 1)) % 10 = k + 1 by omega, show (10 * m + k) / 10 = m by omega, show (10 * m + k) % 10 = k by omega]
  have e : upN (fun _ => 0) m (k + 1) = upN (upN (fun _ => 0) m k) m (k + 1) := by
    funext i
    unfold upN
    split <;> rfl
  rw [e]
  exact bhA_up hw hm (Or.inl (by unfold upN; rw [if_pos rfl])) j
end
/-! ===== the reference's list ===== -/
section
variable {b : AB} {g : MS}
theorem beh1_lp (hw : wfB b) {m k : Nat} (hm : m < bN b) (hk : k < bN b) : ∀ d y f (g : MS), y + d = bN b → d < f → RI b g → (∀ j, j < y → g.2.1 26 j = nI (upN (fun _ => 0) m k j)) → Ev (fX12_aimsBehindOne_2 f g (nI m) (nI k) (nI y)) (fun g' => AR (bN b) (bhA b (upN (fun _ => 0) m k)) g' ∧ fM [] [21, 26] g g') := by
  have hn := hw.2.1
  intro d
  induction d with
  | zero =>
    intro y f g hy hf hR h
    obtain ⟨f, rfl⟩ : ∃ f', f = f' + 1 := ⟨f - 1, by omega⟩
    have hy : y = bN b := hy
    subst hy
    rw [fX12_aimsBehindOne_2, size_eq hR.1, bndc_s, if_pos (nI_le (by omega) (by omega))]
    refine Ev.v (behind_eq hw (v := upN (fun _ => 0) m k) (fun j _ => by show (if j = m then k else 0) ≤ 1000; split <;> omega) hR h) ?_
    rintro g1 ⟨h1, h2⟩
    refine Ev.k (ib_n (by omega) (by omega)) ?_
    rw [bnd_e]
    exact ev_some.mpr ⟨h1, (h2.mono (by decide) (by decide)).sA (by decide)⟩
  | succ d ih =>
    intro y f g hy hf hR h
    obtain ⟨f, rfl⟩ : ∃ f', f = f' + 1 := ⟨f - 1, by omega⟩
    rw [fX12_aimsBehindOne_2, size_eq hR.1, bndc_s, if_neg (nI_ge (by omega) (by omega)), iEQ (by omega) (by omega)]
    have fin : ∀ x : Nat, x = upN (fun _ => 0) m k y → Ev (fX12_aimsBehindOne_2 f (sA g 26 y (nI x)) (nI m) (nI k) (nI (y + 1))) (fun g' => AR (bN b) (bhA b (upN (fun _ => 0) m k)) g' ∧ fM [] [21, 26] g g') := by
      intro x hx
      have f1 : fM [] [21, 26] g (sA g 26 y (nI x)) := (fM.refl g).sA (by decide)
      refine (ih (y + 1) f (sA g 26 y (nI x)) (by omega) (by omega) (hR.keep f1 (by decide)) (fun j hj => ?_)).mono ?_
      · show upd (g.2.1 26) y (nI x) j = _
        rw [upd_j]
        by_cases e : j = y
        · rw [if_pos e, e, hx]
        · rw [if_neg e]; exact h j (by omega)
      · rintro z ⟨z1, z2⟩
        exact ⟨z1, f1.trans z2⟩
    by_cases e : y = m
    · rw [if_pos e]
      refine Ev.k (ib_n (by omega) (by omega)) ?_
      rw [bnd_e, nI_1, bnd_e, ix_n (by omega)]
      exact fin k (by unfold upN; rw [if_pos e])
    · rw [if_neg e]
      refine Ev.k (ib_n (by omega) (by omega)) ?_
      rw [bnd_e, nI_1, bnd_e, ix_n (by omega)]
      exact fin 0 (by unfold upN; rw [if_neg e])
theorem beh1_eq (hw : wfB b) {m k : Nat} (hm : m < bN b) (hk : k < bN b) (hR : RI b g) : Ev (fX12_aimsBehindOne g (nI m) (nI k)) (fun g' => AR (bN b) (bhA b (upN (fun _ => 0) m k)) g' ∧ fM [] [21, 26] g g') := by
  have hn := hw.2.1
  exact beh1_lp hw hm hk (bN b) 0 fuel g (by omega) (by unfold fuel; omega) hR (fun j hj => absurd hj (Nat.not_lt_zero j))
theorem ten_div {v : Nat} (hv : v < 1000) : nI v / (10 : Int32) = nI (v / 10) := by rw [l_10, pk_div (by omega) (by omega) (by omega)]
theorem ten_rem {v : Nat} (hv : v < 1000) : jrem (nI v) (10 : Int32) = nI (v % 10) := by rw [l_10, jr_n (by omega) (by omega) (by omega)]
theorem why10 (hw : wfB b) (hK : KB b (g.2.1 0)) {v : Nat} (hv : v < 1000) : fX12_whyTurn g ((nI v / (10 : Int32)).toInt64) ((jrem (nI v) (10 : Int32)).toInt64) = some (nI (trN b (v / 10) (v % 10)).1, g) := by
  rw [ten_div hv, ten_rem hv, nI_l (by omega), nI_l (by omega), whyTurn_eq hw hK (by omega) (by omega)]
def MLs (b : AB) (S : Nat → Bool) (v : Nat) (g : MS) : Prop := g.1 44 = nI (fb_ct S v) ∧ ∀ u, u < v → S u = true → g.2.1 42 (fb_ct S u) = nI u ∧ ∀ m, m < bN b → g.2.1 43 (6 * fb_ct S u + m) = nI (laV b u m)
theorem MLs.no {S : Nat → Bool} {v : Nat} (h : MLs b S v g) (hv : S v = false) : MLs b S (v + 1) g := ⟨by rw [ct_n hv]; exact h.1, fun u hu hS => h.2 u (by
  by_cases e : u = v
  · rw [e, hv] at hS; exact absurd hS (by decide)
  · omega) hS⟩
theorem MLs.keep {S : Nat → Bool} {v : Nat} {g' : MS} {li la : List Nat} (h : MLs b S v g) (f : fM li la g g') (h1 : 44 ∉ li) (h2 : 42 ∉ la) (h3 : 43 ∉ la) : MLs b S v g' := ⟨by rw [f.1 44 h1]; exact h.1, fun u hu hS => by rw [f.row 42 h2, f.row 43 h3]; exact h.2 u hu hS⟩
theorem seen77 (hw : wfB b) {a : Nat → Nat} {c : Nat} (hc : c < 30) {k11 : MS → Int32 → Int32 → Option MS} {y1 y2 : Int32} {Q : MS → Prop} (g0 : MS) (kk : ∀ g' : MS, g'.1 44 = nI (c + 1) → (∀ j, j < bN b → g'.2.1 43 (6 * c + j) = nI (a j)) → (∀ i, i < 6 * c → g'.2.1 43 i = g0.2.1 43 i) → fM [44] [43] g0 g' → Ev (k11 g' y1 (y2 + 1)) Q) : ∀ d y f (g : MS), y + d = bN b → d < f → KB b (g.2.1 0) → AR (bN b) a g → g.1 44 = nI c → (∀ j, j < y → g.2.1 43 (6 * c + j) = nI (a j)) → (∀ i, i < 6 * c → g.2.1 43 i = g0.2.1 43 i) → fM [44] [43] g0 g → Ev (fX12_laysSeen_77 k11 f g y1 y2 (nI y)) Q := by
  have hn := hw.2.1
  intro d
  induction d with
  | zero =>
    intro y f g hy hf hK hA h44 h1 h2 hF
    obtain ⟨f, rfl⟩ : ∃ f', f = f' + 1 := ⟨f - 1, by omega⟩
    have hy : y = bN b := hy
    subst hy
    rw [fX12_laysSeen_77, size_eq hK, bndc_s, if_pos (nI_le (by omega) (by omega)), bnd_e, bnd_e, h44, nI_1]
    exact kk _ rfl h1 h2 (hF.sI (by decide))
  | succ d ih =>
    intro y f g hy hf hK hA h44 h1 h2 hF
    obtain ⟨f, rfl⟩ : ∃ f', f = f' + 1 := ⟨f - 1, by omega⟩
    rw [fX12_laysSeen_77, size_eq hK, bndc_s, if_neg (nI_ge (by omega) (by omega)), h44, l_6, pk_mul, nI_add]
    refine Ev.k (ib_n (by omega) (by omega)) (Ev.k (ib_n (by omega) (by omega)) ?_)
    rw [bnd_e, nI_1, bnd_e, ix_n (by omega), ix_n (by omega), hA y (by omega)]
    refine ih (y + 1) f _ (by omega) (by omega) hK hA h44 (fun j hj => ?_) (fun i hi => ?_) (hF.sA (by decide))
    · show upd (g.2.1 43) (6 * c + y) _ (6 * c + j) = _
      rw [upd_j]
      by_cases e : j = y
      · rw [if_pos (by omega), e]
      · rw [if_neg (by omega)]; exact h1 j (by omega)
    · show upd (g.2.1 43) (6 * c + y) _ i = _
      rw [upd_j, if_neg (by omega)]
      exact h2 i hi
abbrev seL1 : List Nat := [19, 20, 21, 26, 27, 28, 42, 43]
theorem seen11 (hw : wfB b) {t : AT} {i : Nat} (hi : i < 4) (ht : t.1 = true) {S : Nat → Bool} (hS : S = fun v => okV b v && soB (bN b) t.2.2.2 (laV b v)) : ∀ d v f (g : MS), v + d = 10 * bN b → d < f → RI b g → MT t i g → MLs b S v g → Ev (fX12_laysSeen_11 f g (nI i) (nI v)) (fun g' => MLs b S (10 * bN b) g' ∧ fM [44] seL1 g g') := by
  have hn := hw.2.1
  have hSo : ∀ v, S v = true → okV b v = true := fun v h => by rw [hS] at h; exact (Bool.and_eq_true_iff.mp h).1
  intro d
  induction d with
  | zero =>
    intro v f g hv hf hR hT hL
    obtain ⟨f, rfl⟩ : ∃ f', f = f' + 1 := ⟨f - 1, by omega⟩
    have hv : v = 10 * bN b := hv
    subst hv
    rw [fX12_laysSeen_11, size_eq hR.1, bndc_s, l_10, pk_mul, if_pos (nI_le (by omega) (by omega))]
    exact ev_some.mpr ⟨hL, fM.refl g⟩
  | succ d ih =>
    intro v f g hv hf hR hT hL
    obtain ⟨f, rfl⟩ : ∃ f', f = f' + 1 := ⟨f - 1, by omega⟩
    rw [fX12_laysSeen_11, size_eq hR.1, bndc_s, show (10 : Int32) * nI (bN b) = nI (10 * bN b) by rw [l_10, pk_mul], if_neg (nI_ge (by omega) (by omega))]
    refine Ev.k (by decide) (Ev.k (by decide) ?_)
    rw [why10 hw hR.1 (by omega), bndc_s]
    have hle := trN_le b (v / 10) (v % 10)
    cases hok : okV b v with
    | false =>
      have h0 : ¬ (trN b (v / 10) (v % 10)).1 = 0 := of_decide_eq_false hok
      rw [if_neg (nI_ne0 (by omega) (by omega)), nI_1, bnd_e]
      exact ih (v + 1) f g (by omega) (by omega) hR hT (hL.no (by rw [hS]; show (okV b v && _) = false; rw [hok, Bool.false_and]))
    | true =>
      have h0 : (trN b (v / 10) (v % 10)).1 = 0 := of_decide_eq_true hok
      obtain ⟨o1, o2, o3, o4⟩ := (okV_iff v).mp hok
      rw [h0, if_pos (show nI 0 = (0 : Int32) from rfl)]
      refine Ev.k (by decide) (Ev.k (by decide) ?_)
      rw [ten_div (by omega), ten_rem (by omega)]
      refine Ev.v (beh1_eq hw o1 o3 hR) ?_
      rintro g1 ⟨h1, f1⟩
      have hR1 := hR.keep f1 (by decide)
      have hT1 := hT.keep (kpM.of f1 (by decide) (by decide))
      rw [looksSo_eq hi ht hw hR1.1 hT1 (laV_lk hw v) h1, bndc_s]
      have hL1 := hL.keep f1 (by decide) (by decide) (by decide)
      cases hso : soB (bN b) t.2.2.2 (laV b v) with
      | false =>
        rw [if_pos (show nI false.toNat = 0 from rfl), nI_1, bnd_e]
        refine (ih (v + 1) f g1 (by omega) (by omega) hR1 hT1 (hL1.no (by rw [hS]; show (okV b v && soB (bN b) t.2.2.2 (laV b v)) = false; rw [hso, Bool.and_false]))).mono ?_
        rintro z ⟨z1, z2⟩
        exact ⟨z1, (f1.mono (by decide) (by decide)).trans z2⟩
      | true =>
        have hSv : S v = true := by rw [hS]; show (okV b v && soB (bN b) t.2.2.2 (laV b v)) = true; rw [hok, hso]; rfl
        have hc := ok_lt30 hw hSo hok
        rw [if_neg (show ¬ nI true.toNat = 0 by decide), hL1.1]
        refine Ev.k (ib_n hc (by omega)) ?_
        rw [bnd_e, ix_n (by omega)]
        have f2 : fM [] [42] g1 (sA g1 42 (fb_ct S v) (nI v)) := (fM.refl g1).sA (by decide)
        refine seen77 hw hc (a := laV b v) (sA g1 42 (fb_ct S v) (nI v)) (fun g' a1 a2 a3 a4 => ?_) (bN b) 0 fuel _ (by omega) (by unfold fuel; omega) hR1.1 h1 hL1.1 (fun j hj => absurd hj (Nat.not_lt_zero j)) (fun _ _ => rfl) (fM.refl _)
        have F : fM [44] seL1 g g' := ((f1.mono (by decide) (by decide)).trans (f2.mono (by decide) (by decide))).trans (a4.mono (by decide) (by decide))
        have hR2 := hR1.keep (f2.mono (li2 := [44]) (la2 := [42, 43]) (by decide) (by decide) |>.trans (a4.mono (by decide) (by decide))) (by decide)
        have hT2 := hT1.keep (kpM.of (f2.mono (li2 := [44]) (la2 := [42, 43]) (by decide) (by decide) |>.trans (a4.mono (by decide) (by decide))) (by decide) (by decide))
        rw [nI_1]
        refine (ih (v + 1) f g' (by omega) (by omega) hR2 hT2 ⟨by rw [ct_y hSv]; exact a1, fun u hu hSu => ?_⟩).mono ?_
        · have e42 : g'.2.1 42 = upd (g1.2.1 42) (fb_ct S v) (nI v) := a4.row 42 (by decide)
          by_cases e : u = v
          · subst e
            rw [e42, upd_j, if_pos rfl]
            exact ⟨rfl, a2⟩
          · have hlt := ct_lt hSu (show u < v by omega)
            obtain ⟨b1, b2⟩ := hL1.2 u (by omega) hSu
            rw [e42, upd_j, if_neg (by omega)]
            exact ⟨b1, fun m hm => by rw [a3 _ (by omega)]; exact b2 m hm⟩
        · rintro z ⟨z1, z2⟩
          exact ⟨z1, F.trans z2⟩
theorem seen_eq (hw : wfB b) {t : AT} {i : Nat} (hi : i < 4) (ht : t.1 = true) (hK : KB b (g.2.1 0)) (hT : MT t i g) : Ev (fX12_laysSeen g (nI i)) (fun g' => MLs b (fun v => okV b v && soB (bN b) t.2.2.2 (laV b v)) (10 * bN b) g' ∧ fM [44] seL1 g g') := by
  have hn := hw.2.1
  unfold fX12_laysSeen
  rw [bnd_e]
  have f0 : fM [44] [] g (sI g 44 0) := (fM.refl g).sI (by decide)
  refine Ev.v (along_eq hw (g := sI g 44 0) hK) ?_
  rintro g1 ⟨h1, f1⟩
  have F : fM [44] seL1 g g1 := (f0.mono (by decide) (by decide)).trans (f1.mono (by decide) (by decide))
  refine (seen11 hw hi ht rfl (10 * bN b) 0 fuel g1 (by omega) (by unfold fuel; omega) h1 (hT.keep (kpM.of F (by decide) (by decide))) ⟨by rw [f1.1 44 (by decide)]; rfl, fun u hu => absurd hu (Nat.not_lt_zero u)⟩).mono ?_
  rintro z ⟨z1, z2⟩
  exact ⟨z1, F.trans z2⟩
end
/-! ===== the reference's answers from its list ===== -/
def soV (b : AB) (t : AT) (v : Nat) : Bool := okV b v && soB (bN b) t.2.2.2 (laV b v)
def seN (b : AB) (S : Nat → Bool) : Nat := fb_ct S (10 * bN b)
/-- the aim of m behind the i-th of the list -/
def wS (b : AB) (S : Nat → Bool) (m i : Nat) : Nat := laV b (ktF S i (10 * bN b) - 1) m
def mostA (b : AB) (S : Nat → Bool) (m : Nat) : Nat := mxF (fun k => fb_ct (fun i => decide (wS b S m i = wS b S m k)) (seN b S)) (seN b S)
theorem mostA_le (b : AB) (S : Nat → Bool) (m : Nat) : mostA b S m ≤ seN b S := mxF_le _ (fun _ _ => fb_ct_le _ _)
def askA (b : AB) (S : Nat → Bool) (t : AT) : Nat := if seN b S = 0 then 0 else bstF (fun m => decide (t.2.2.2 m = -1)) (mostA b S) (bN b)
section
variable {b : AB} {g : MS} {S : Nat → Bool}
theorem kt_ex {i : Nat} (hi : i < seN b S) : ∃ u, u < 10 * bN b ∧ S u = true ∧ fb_ct S u = i ∧ ktF S i (10 * bN b) = u + 1 := by
  obtain ⟨u, h1, h2, h3⟩ := fb_ct_kth hi
  exact ⟨u, h1, h2, h3, ktF_at h2 h3 _ h1⟩
theorem MLs.w (h : MLs b S (10 * bN b) g) {i m : Nat} (hi : i < seN b S) (hm : m < bN b) : g.2.1 43 (6 * i + m) = nI (wS b S m i) := by
  obtain ⟨u, h1, h2, h3, h4⟩ := kt_ex hi
  have := (h.2 u h1 h2).2 m hm
  unfold wS
  rw [h4, Nat.add_sub_cancel, ← this, h3]
theorem wS_lt (hw : wfB b) (m i : Nat) : wS b S m i < bN b := bh_lt hw _ _
theorem alike18 (hw : wfB b) (h30 : seN b S ≤ 30) (h : MLs b S (10 * bN b) g) {m y : Nat} (hm : m < bN b) (hy : y < seN b S) {k4 : MS → Int32 → Int32 → Int32 → Option (Int32 × MS)} {M : Nat} (hM : M ≤ 30) : ∀ d k f, k + d = seN b S → d < f → fX12_mostAlike_18 k4 f g (nI m) (nI M) (nI y) (nI (fb_ct (fun i => decide (wS b S m i = wS b S m y)) k)) (nI k) = k4 g (nI m) (nI (if M < fb_ct (fun i => decide (wS b S m i = wS b S m y)) (seN b S) then fb_ct (fun i => decide (wS b S m i = wS b S m y)) (seN b S) else M)) (nI (y + 1)) := by
  have hn := hw.2.1
  have h44 : g.1 44 = nI (seN b S) := h.1
  intro d
  induction d with
  | zero =>
    intro k f hk hf
    obtain ⟨f, rfl⟩ : ∃ f', f = f' + 1 := ⟨f - 1, by omega⟩
    have hk : k = seN b S := hk
    subst hk
    have := fb_ct_le (fun i => decide (wS b S m i = wS b S m y)) (seN b S)
    rw [fX12_mostAlike_18, h44, if_pos (nI_le (by omega) (by omega)), jmax_n (by omega) (by omega), bnd_e, nI_1, bnd_e]
  | succ d ih =>
    intro k f hk hf
    obtain ⟨f, rfl⟩ : ∃ f', f = f' + 1 := ⟨f - 1, by omega⟩
    have w1 := wS_lt (S := S) hw m k
    have w2 := wS_lt (S := S) hw m y
    have st := ih (k + 1) f (by omega) (by omega)
    rw [fX12_mostAlike_18, h44, if_neg (nI_ge (by omega) (by omega)), l_6, pk_mul, nI_add, pk_mul, nI_add, chk_tt (ib_n (by omega) (by omega)), chk_tt (ib_n (by omega) (by omega)), ix_n (by omega), ix_n (by omega), h.w (by omega) hm, h.w hy hm, iEQ (by omega) (by omega)]
    unfold fX12_mostAlike_60
    by_cases e : wS b S m k = wS b S m y
    · rw [if_pos e, nI_1, bnd_e, nI_1, bnd_e]
      rw [ct_y (p := fun i => decide (wS b S m i = wS b S m y)) (decide_eq_true e)] at st
      exact st
    · rw [if_neg e, Int32.add_zero, bnd_e, nI_1, bnd_e]
      rw [ct_n (p := fun i => decide (wS b S m i = wS b S m y)) (decide_eq_false e)] at st
      exact st
theorem alike4 (hw : wfB b) (h30 : seN b S ≤ 30) (h : MLs b S (10 * bN b) g) {m : Nat} (hm : m < bN b) : ∀ d k f, k + d = seN b S → d < f → fX12_mostAlike_4 f g (nI m) (nI (mxF (fun k => fb_ct (fun i => decide (wS b S m i = wS b S m k)) (seN b S)) k)) (nI k) = some (nI (mostA b S m), g) := by
  have h44 : g.1 44 = nI (seN b S) := h.1
  intro d
  induction d with
  | zero =>
    intro k f hk hf
    obtain ⟨f, rfl⟩ : ∃ f', f = f' + 1 := ⟨f - 1, by omega⟩
    have hk : k = seN b S := hk
    subst hk
    rw [fX12_mostAlike_4, h44, if_pos (nI_le (by omega) (by omega))]
    rfl
  | succ d ih =>
    intro k f hk hf
    obtain ⟨f, rfl⟩ : ∃ f', f = f' + 1 := ⟨f - 1, by omega⟩
    rw [fX12_mostAlike_4, h44, if_neg (nI_ge (by omega) (by omega))]
    have st := alike18 hw h30 h hm (y := k) (by omega) (k4 := fX12_mostAlike_4 f) (M := mxF (fun k => fb_ct (fun i => decide (wS b S m i = wS b S m k)) (seN b S)) k) (Nat.le_trans (mxF_le _ (fun _ _ => fb_ct_le _ _)) h30) (seN b S) 0 fuel (by omega) (by unfold fuel; omega)
    exact st.trans (ih (k + 1) f (by omega) (by omega))
theorem mAlike_eq (hw : wfB b) (h30 : seN b S ≤ 30) (h : MLs b S (10 * bN b) g) {m : Nat} (hm : m < bN b) : fX12_mostAlike g (nI m) = some (nI (mostA b S m), g) := alike4 hw h30 h hm (seN b S) 0 fuel (by omega) (by unfold fuel; omega)
theorem mAsk_lp (hw : wfB b) (hK : KB b (g.2.1 0)) (h30 : seN b S ≤ 30) (h : MLs b S (10 * bN b) g) {t : AT} {i : Nat} (hi : i < 4) (ht : t.1 = true) (hT : MT t i g) : ∀ d k f, k + d = bN b → d < f → (seN b S = 0 → k = 0) → fX12_ask_32 f g (nI i) (pm (bstF (fun m => decide (t.2.2.2 m = -1)) (mostA b S) k)) (if bstF (fun m => decide (t.2.2.2 m = -1)) (mostA b S) k = 0 then (536870912 : Int32) else nI (mostA b S (bstF (fun m => decide (t.2.2.2 m = -1)) (mostA b S) k - 1))) (nI k) = some (pm (askA b S t), g) := by
  have hn := hw.2.1
  have h44 : g.1 44 = nI (seN b S) := h.1
  obtain ⟨t1, t2, t3, t4, t5⟩ := hT.on ht
  intro d
  induction d with
  | zero =>
    intro k f hk hf h0
    obtain ⟨f, rfl⟩ : ∃ f', f = f' + 1 := ⟨f - 1, by omega⟩
    have hk : k = bN b := hk
    subst hk
    have hn1 := hw.1
    rw [fX12_ask_32, size_eq hK, bndc_s, if_pos (nI_le (by omega) (by omega))]
    unfold askA
    rw [if_neg (fun z => by have := h0 z; omega)]
  | succ d ih =>
    intro k f hk hf h0
    obtain ⟨f, rfl⟩ : ∃ f', f = f' + 1 := ⟨f - 1, by omega⟩
    rw [fX12_ask_32, size_eq hK, bndc_s, if_neg (nI_ge (by omega) (by omega)), h44]
    by_cases hz : seN b S = 0
    · have hk0 := h0 hz
      subst hk0
      rw [hz, if_pos (by decide)]
      unfold askA
      rw [if_pos hz]
      rfl
    · rw [if_neg (nI_nle0 (by omega) (by omega)), l_30, pk_mul, nI_add, chk_tt (ib_n (by omega) (by omega)), ix_n (by omega), t5 k (by omega)]
      have st := ih (k + 1) f (by omega) (by omega) (fun z => absurd z hz)
      by_cases e : t.2.2.2 k = -1
      · have hp : (fun m => decide (t.2.2.2 m = -1)) k = true := decide_eq_true e
        have hA := mostA_le b S k
        rw [if_pos (by rw [lg_cmp_eq]; exact e), mAlike_eq hw h30 h (by omega), bndc_s]
        by_cases c : bstF (fun m => decide (t.2.2.2 m = -1)) (mostA b S) k = 0
        · rw [if_pos c, if_pos (show nI (mostA b S k) < (536870912 : Int32) from nI_lt (b := 536870912) (by omega) (by omega)), mAlike_eq hw h30 h (by omega), bndc_s, nI_1, bnd_e]
          rw [bstF_y ⟨hp, Or.inl c⟩, if_neg (by omega), Nat.add_sub_cancel] at st
          exact st
        · have hA2 := mostA_le b S (bstF (fun m => decide (t.2.2.2 m = -1)) (mostA b S) k - 1)
          rw [if_neg c, iLT (by omega) (by omega)]
          by_cases c2 : mostA b S k < mostA b S (bstF (fun m => decide (t.2.2.2 m = -1)) (mostA b S) k - 1)
          · rw [if_pos c2, mAlike_eq hw h30 h (by omega), bndc_s, nI_1, bnd_e]
            rw [bstF_y ⟨hp, Or.inr c2⟩, if_neg (by omega), Nat.add_sub_cancel] at st
            exact st
          · rw [if_neg c2, nI_1, bnd_e]
            rw [bstF_n (fun z => z.2.elim c c2), if_neg c] at st
            exact st
      · rw [if_neg (by rw [lg_cmp_eq]; exact e), nI_1, bnd_e]
        rw [bstF_n (fun z => e (of_decide_eq_true z.1))] at st
        exact st
end
section
variable {q : AQ} {g : MS} {tr : Nat → AT}
theorem soV_ok {b : AB} {t : AT} (v : Nat) (h : soV b t v = true) : okV b v = true := (Bool.and_eq_true_iff.mp h).1
theorem mSeen_list (hq : wfQ q) (hK : KQ q (g.2.1 0)) (hT : ∀ i, i < 4 → MT (tr i) i g) {i : Nat} (hi : i < 4) (ht : (tr i).1 = true) : Ev (fX12_laysSeen (sI g 4 (nI 0)) (nI i)) (fun g' => MLs (qB q) (soV (qB q) (tr i)) (10 * bN (qB q)) g' ∧ MT (tr i) i g' ∧ MRes q 0 g g') := by
  refine (seen_eq hq.1 hi ht (g := sI g 4 (nI 0)) hK.1 ((hT i hi).keep (kpM.th g _))).mono ?_
  rintro z ⟨z1, z2⟩
  have k1 : kpM g z := (kpM.th g (nI 0)).trans (kpM.of z2 (by decide) (by decide))
  refine ⟨z1, (hT i hi).keep k1, ?_, ?_, k1⟩
  · rw [z2.row 0 (by decide)]; exact hK
  · rw [z2.1 4 (by decide)]; rfl
theorem mSeen_eq (hq : wfQ q) (hK : KQ q (g.2.1 0)) (hT : ∀ i, i < 4 → MT (tr i) i g) {i : Nat} (hi : i < 4) (ht : (tr i).1 = true) (hl : lkF tr (bN (qB q)) (nI i) = 0) : Ev (fX12_seen g (nI i)) (fun z => z.1 = nI (seN (qB q) (soV (qB q) (tr i))) ∧ MRes q 0 g z.2) := by
  unfold fX12_seen
  rw [lookF_eq hq.1 hK.1 hT, bndc_s, hl, bnd_e, if_pos (show (sI g 4 (nI 0)).1 4 ≤ 0 from (by decide : (0 : Int32) ≤ 0))]
  refine Ev.v (mSeen_list hq hK hT hi ht) ?_
  rintro g' ⟨r1, r2, r3⟩
  exact ev_some.mpr ⟨r1.1, r3⟩
theorem mSeen_no (hq : wfQ q) (hK : KQ q (g.2.1 0)) (hT : ∀ i, i < 4 → MT (tr i) i g) {x : Int32} (h : lkF tr (bN (qB q)) x ≠ 0) : Ev (fX12_seen g x) (fun z => MRes q (lkF tr (bN (qB q)) x) g z.2) := by
  have hle := lkF_le tr (bN (qB q)) x
  unfold fX12_seen
  rw [lookF_eq hq.1 hK.1 hT, bndc_s, bnd_e, if_neg (show ¬ (sI g 4 (nI (lkF tr (bN (qB q)) x))).1 4 ≤ 0 from nI_nle0 (by omega) (by omega))]
  exact ev_some.mpr (MRes.fail hK _)
/-- the k-th of the list, for any int that isn't below 0 -/
def satA (b : AB) (S : Nat → Bool) (y : Int32) : Int32 := pm (ktF S y.toNatClampNeg (10 * bN b))
theorem mSeenAt_eq (hq : wfQ q) (hK : KQ q (g.2.1 0)) (hT : ∀ i, i < 4 → MT (tr i) i g) {i : Nat} (hi : i < 4) (ht : (tr i).1 = true) (hl : lkF tr (bN (qB q)) (nI i) = 0) {y : Int32} (hy : 0 ≤ y) : Ev (fX12_seenAt g (nI i) y) (fun z => z.1 = satA (qB q) (soV (qB q) (tr i)) y ∧ MRes q 0 g z.2) := by
  have h30 := ok_le30 hq.1 (S := soV (qB q) (tr i)) soV_ok
  unfold fX12_seenAt fX12_seenAt_25
  rw [lookF_eq hq.1 hK.1 hT, bndc_s, hl, bnd_e, if_pos (show (sI g 4 (nI 0)).1 4 = 0 from rfl), if_pos hy, if_pos (show (sI g 4 (nI 0)).1 4 ≤ 0 from (by decide : (0 : Int32) ≤ 0))]
  refine Ev.v (mSeen_list hq hK hT hi ht) ?_
  rintro g' ⟨r1, r2, r3⟩
  obtain ⟨k, hk, rfl⟩ := nI_of (x := y) (fun z => by rw [fa_lt] at z; rw [fa_le] at hy; omega)
  unfold satA
  rw [r1.1, nI_clamp hk, iLE (by omega) hk]
  by_cases c : fb_ct (soV (qB q) (tr i)) (10 * bN (qB q)) ≤ k
  · rw [if_pos c, ktF_0 _ c]
    exact ev_some.mpr ⟨rfl, r3⟩
  · rw [if_neg c]
    obtain ⟨u, u1, u2, u3, u4⟩ := kt_ex (b := qB q) (S := soV (qB q) (tr i)) (i := k) (by unfold seN; omega)
    refine Ev.k (ib_n (by omega) (by omega)) (ev_some.mpr ⟨?_, r3⟩)
    rw [ix_n (by omega), u4, pm_s, ← (r1.2 u u1 u2).1, u3]
theorem mSeenAt_no (hq : wfQ q) (hK : KQ q (g.2.1 0)) (hT : ∀ i, i < 4 → MT (tr i) i g) {x y : Int32} (h : lkF tr (bN (qB q)) x ≠ 0 ∨ ¬ 0 ≤ y) : Ev (fX12_seenAt g x y) (fun z => MRes q (if lkF tr (bN (qB q)) x = 0 then 3 else lkF tr (bN (qB q)) x) g z.2) := by
  have hle := lkF_le tr (bN (qB q)) x
  unfold fX12_seenAt fX12_seenAt_25
  rw [lookF_eq hq.1 hK.1 hT, bndc_s, bnd_e]
  by_cases h0 : lkF tr (bN (qB q)) x = 0
  · rw [h0, if_pos (show (sI g 4 (nI 0)).1 4 = 0 from rfl), if_neg (h.resolve_left (fun z => z h0)), bnd_e, if_neg (show ¬ (sI (sI g 4 (nI 0)) 4 (3 : Int32)).1 4 ≤ 0 from (by decide : ¬ (3 : Int32) ≤ 0)), if_pos rfl]
    exact ev_some.mpr ⟨hK, rfl, (kpM.th g _).trans (kpM.th _ _)⟩
  · rw [if_neg (show ¬ (sI g 4 (nI (lkF tr (bN (qB q)) x))).1 4 = 0 from nI_ne0 (by omega) (by omega)), if_neg (show ¬ (sI g 4 (nI (lkF tr (bN (qB q)) x))).1 4 ≤ 0 from nI_nle0 (by omega) (by omega)), if_neg h0]
    exact ev_some.mpr (MRes.fail hK _)
theorem mAsk_eq (hq : wfQ q) (hK : KQ q (g.2.1 0)) (hT : ∀ i, i < 4 → MT (tr i) i g) {i : Nat} (hi : i < 4) (ht : (tr i).1 = true) (hl : lkF tr (bN (qB q)) (nI i) = 0) : Ev (fX12_ask g (nI i)) (fun z => z.1 = pm (askA (qB q) (soV (qB q) (tr i)) (tr i)) ∧ MRes q 0 g z.2) := by
  have hn := hq.1.2.1
  have h30 := ok_le30 hq.1 (S := soV (qB q) (tr i)) soV_ok
  unfold fX12_ask
  rw [lookF_eq hq.1 hK.1 hT, bndc_s, hl, bnd_e, if_pos (show (sI g 4 (nI 0)).1 4 ≤ 0 from (by decide : (0 : Int32) ≤ 0))]
  refine Ev.v (mSeen_list hq hK hT hi ht) ?_
  rintro g' ⟨r1, r2, r3⟩
  exact Ev.of (mAsk_lp hq.1 r3.1.1 h30 r1 hi ht r2 (bN (qB q)) 0 fuel (by omega) (by unfold fuel; omega) (fun _ => rfl)) ⟨rfl, r3⟩
theorem mAsk_no (hq : wfQ q) (hK : KQ q (g.2.1 0)) (hT : ∀ i, i < 4 → MT (tr i) i g) {x : Int32} (h : lkF tr (bN (qB q)) x ≠ 0) : Ev (fX12_ask g x) (fun z => MRes q (lkF tr (bN (qB q)) x) g z.2) := by
  have hle := lkF_le tr (bN (qB q)) x
  unfold fX12_ask
  rw [lookF_eq hq.1 hK.1 hT, bndc_s, bnd_e, if_neg (show ¬ (sI g 4 (nI (lkF tr (bN (qB q)) x))).1 4 ≤ 0 from nI_nle0 (by omega) (by omega))]
  exact ev_some.mpr (MRes.fail hK _)
/-- the first turn by which m has the chair -/
def mtV (b : AB) (m v : Nat) : Bool := okV b v && decide (chA b (laV b v) = m + 1)
def mtA (b : AB) (m : Nat) : Int32 := if chA b (bA b) = m + 1 then -1 else pm (fiF (mtV b m) (10 * bN b))
theorem mMot_lp {b : AB} (hw : wfB b) {m : Nat} (hm : m < 6) : ∀ d v f (g : MS), v + d = 10 * bN b → d < f → RI b g → (∀ u, u < v → mtV b m u = false) → Ev (fX12_motion_36 f g (nI m) (nI v)) (fun z => z.1 = pm (fiF (mtV b m) (10 * bN b)) ∧ fM [] [21, 22, 26] g z.2) := by
  have hn := hw.2.1
  intro d
  induction d with
  | zero =>
    intro v f g hv hf hR h
    obtain ⟨f, rfl⟩ : ∃ f', f = f' + 1 := ⟨f - 1, by omega⟩
    have hv : v = 10 * bN b := hv
    subst hv
    rw [fX12_motion_36, size_eq hR.1, bndc_s, l_10, pk_mul, if_pos (nI_le (by omega) (by omega))]
    exact ev_some.mpr ⟨by rw [fiF_0 _ h]; rfl, fM.refl g⟩
  | succ d ih =>
    intro v f g hv hf hR h
    obtain ⟨f, rfl⟩ : ∃ f', f = f' + 1 := ⟨f - 1, by omega⟩
    rw [fX12_motion_36, size_eq hR.1, bndc_s, show (10 : Int32) * nI (bN b) = nI (10 * bN b) by rw [l_10, pk_mul], if_neg (nI_ge (by omega) (by omega))]
    refine Ev.k (by decide) (Ev.k (by decide) ?_)
    rw [why10 hw hR.1 (by omega), bndc_s]
    have hle := trN_le b (v / 10) (v % 10)
    have next : ∀ g1 : MS, fM [] [21, 22, 26] g g1 → mtV b m v = false → Ev (fX12_motion_36 f g1 (nI m) (nI (v + 1))) (fun z => z.1 = pm (fiF (mtV b m) (10 * bN b)) ∧ fM [] [21, 22, 26] g z.2) := by
      intro g1 f1 hv0
      refine (ih (v + 1) f g1 (by omega) (by omega) (hR.keep f1 (by decide)) (fun u hu => ?_)).mono ?_
      · by_cases e : u = v
        · rw [e]; exact hv0
        · exact h u (by omega)
      · rintro z ⟨z1, z2⟩
        exact ⟨z1, f1.trans z2⟩
    cases hok : okV b v with
    | false =>
      have h0 : ¬ (trN b (v / 10) (v % 10)).1 = 0 := of_decide_eq_false hok
      rw [if_neg (nI_ne0 (by omega) (by omega)), nI_1, bnd_e]
      exact next g (fM.refl g) (by unfold mtV; rw [hok, Bool.false_and])
    | true =>
      have h0 : (trN b (v / 10) (v % 10)).1 = 0 := of_decide_eq_true hok
      obtain ⟨o1, o2, o3, o4⟩ := (okV_iff v).mp hok
      rw [h0, if_pos (show nI 0 = (0 : Int32) from rfl)]
      refine Ev.k (by decide) (Ev.k (by decide) ?_)
      rw [ten_div (by omega), ten_rem (by omega)]
      refine Ev.v (beh1_eq hw o1 o3 hR) ?_
      rintro g1 ⟨h1, f1⟩
      have hR1 := hR.keep f1 (by decide)
      refine Ev.c (chairBy_eq hw hR1.1 (laV_lk hw v) h1) ?_
      rintro r g2 ⟨q1, -, q3⟩
      dsimp only at q1
      have hc := chA_le hw (laV b v)
      have F : fM [] [21, 22, 26] g g2 := (f1.mono (by decide) (by decide)).trans (q3.mono (by decide) (by decide))
      rw [q1]
      by_cases c : chA b (laV b v) = m + 1
      · rw [if_pos (by rw [pm_eq (by omega) (by omega)]; exact c)]
        refine ev_some.mpr ⟨?_, F⟩
        rw [fiF_at (v := v) (by unfold mtV; rw [hok, decide_eq_true c]; rfl) h _ (by omega)]
        rfl
      · rw [if_neg (by rw [pm_eq (by omega) (by omega)]; exact c), nI_1, bnd_e]
        exact next g2 F (by unfold mtV; rw [decide_eq_false c, Bool.and_false])
theorem mMotion_eq (hq : wfQ q) (hK : KQ q (g.2.1 0)) {m : Nat} (hm : m < bN (qB q)) : Ev (fX12_motion g (nI m)) (fun z => z.1 = mtA (qB q) m ∧ MRes q 0 g z.2) := by
  have hn := hq.1.2.1
  unfold fX12_motion mtA
  rw [bnd_e, isM_yes (g := sI g 4 0) hq.1 hK.1 hm, bndc_s, if_neg (by decide)]
  refine Ev.c (chairNow_eq (g := sI g 4 0) hq.1 hK.1) ?_
  rintro r g1 ⟨q1, -, -, f1⟩
  dsimp only at q1 f1
  have hc := chA_le hq.1 (bA (qB q))
  have R1 : MRes q 0 g g1 := ⟨by rw [f1.row 0 (by decide)]; exact hK, by rw [f1.1 4 (by decide)]; rfl, (kpM.th g 0).trans (kpM.of f1 (by decide) (by decide))⟩
  rw [q1]
  by_cases c : chA (qB q) (bA (qB q)) = m + 1
  · rw [if_pos (by rw [pm_eq (by omega) (by omega)]; exact c), if_pos c]
    exact ev_some.mpr ⟨rfl, R1⟩
  · rw [if_neg (by rw [pm_eq (by omega) (by omega)]; exact c), if_neg c]
    refine Ev.v (along_eq hq.1 R1.1.1) ?_
    rintro g2 ⟨h2, f2⟩
    refine (mMot_lp hq.1 (by omega) (10 * bN (qB q)) 0 fuel g2 (by omega) (by unfold fuel; omega) h2 (fun u hu => absurd hu (Nat.not_lt_zero u))).mono ?_
    rintro z ⟨z1, z2⟩
    have F : fM [] [19, 20, 21, 22, 26, 27, 28] g1 z.2 := (f2.mono (by decide) (by decide)).trans (z2.mono (by decide) (by decide))
    exact ⟨z1, by rw [F.row 0 (by decide)]; exact R1.1, by rw [F.1 4 (by decide)]; exact R1.2.1, R1.2.2.trans (kpM.of F (by decide) (by decide))⟩
theorem mMotion_no (hq : wfQ q) (hK : KQ q (g.2.1 0)) {x : Int32} (h : ¬ mem (bN (qB q)) x) : Ev (fX12_motion g x) (fun z => MRes q 1 g z.2) := by
  unfold fX12_motion fX12_fails
  rw [bnd_e, isM_no (g := sI g 4 0) hq.1 hK.1 h, bndc_s, if_pos rfl, bnd_e, bndc_s]
  exact ev_some.mpr ⟨hK, rfl, (kpM.th g 0).trans (kpM.th _ _)⟩
end
