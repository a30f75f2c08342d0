/-! ===== shares and orders: Pascal ===== -/
def chB : Nat → Nat → Nat
  | _, 0 => 1
  | 0, _ + 1 => 0
  | l + 1, o + 1 => chB l o + chB l (o + 1)
theorem chB_0 (l : Nat) : chB l 0 = 1 := by cases l <;> rfl
theorem chB_s (l o : Nat) : chB (l + 1) (o + 1) = chB l o + chB l (o + 1) := rfl
theorem chB_out : ∀ l o, l < o → chB l o = 0
  | _, 0, h => absurd h (Nat.not_lt_zero _)
  | 0, o + 1, _ => rfl
  | l + 1, o + 1, h => by rw [chB_s, chB_out l o (by omega), chB_out l (o + 1) (by omega)]
theorem chB_next : ∀ l, l ≤ 6 → ∀ o, o ≤ 6 → o ≤ l → chB l o * (l - o) / (o + 1) = chB l (o + 1) ∧ chB l o ≤ 20 := by decide
theorem sm_shift (f : Nat → Nat) : ∀ k, fb_sm f (k + 1) = f 0 + fb_sm (fun o => f (o + 1)) k
  | 0 => by rw [fb_sm_succ]; exact Nat.add_comm _ _
  | k + 1 => by rw [fb_sm_succ, sm_shift f k, fb_sm_succ, Nat.add_assoc]
theorem sm_comm (F : Nat → Nat → Nat) (K : Nat) : ∀ n, fb_sm (fun i => fb_sm (fun o => F i o) K) n = fb_sm (fun o => fb_sm (fun i => F i o) n) K
  | 0 => by
    rw [fb_sm_cong (f := fun o => fb_sm (fun i => F i o) 0) (g := fun _ => 0) (fun _ _ => rfl), fb_sm_const, Nat.mul_zero]
    rfl
  | n + 1 => by
    rw [fb_sm_succ, sm_comm F K n, ← fb_sm_add]
    exact fb_sm_cong (fun o _ => rfl)
theorem pascal (T : Nat → Nat) (l : Nat) : fb_sm (fun o => chB l o * T (o + 1)) (l + 1) + fb_sm (fun o => chB l o * T o) (l + 1) = fb_sm (fun o => chB (l + 1) o * T o) (l + 2) := by
  have e1 : fb_sm (fun o => chB (l + 1) o * T o) (l + 2) = T 0 + (fb_sm (fun o => chB l o * T (o + 1)) (l + 1) + fb_sm (fun o => chB l (o + 1) * T (o + 1)) (l + 1)) := by
    rw [sm_shift, ← fb_sm_add, chB_0, Nat.one_mul]
    congr 1
    refine fb_sm_cong (fun o _ => ?_)
    show chB (l + 1) (o + 1) * T (o + 1) = chB l o * T (o + 1) + chB l (o + 1) * T (o + 1)
    rw [chB_s, Nat.add_mul]
  have e2 : fb_sm (fun o => chB l o * T o) (l + 1) = T 0 + fb_sm (fun o => chB l (o + 1) * T (o + 1)) l := by rw [sm_shift, chB_0, Nat.one_mul]
  have e3 : fb_sm (fun o => chB l (o + 1) * T (o + 1)) (l + 1) = fb_sm (fun o => chB l (o + 1) * T (o + 1)) l := by rw [fb_sm_succ, chB_out l (l + 1) (by omega), Nat.zero_mul, Nat.add_zero]
  rw [e1, e2, e3]
  omega
def addN (v : Nat → Nat) (m k : Nat) : Nat → Nat := fun j => if j = m then v j + k else v j
theorem addN_0 (v : Nat → Nat) (m : Nat) : addN v m 0 = v := by
  funext j
  unfold addN
  split <;> rfl
theorem addN_s (v : Nat → Nat) (m k : Nat) : addN (addN v m 1) m k = addN v m (k + 1) := by
  funext j
  unfold addN
  by_cases h : j = m
  · rw [if_pos h, if_pos h, if_pos h]; omega
  · rw [if_neg h, if_neg h, if_neg h]
theorem addN_c (v : Nat → Nat) {i m : Nat} (h : i ≠ m) (k : Nat) : addN (addN v i 1) m k = addN (addN v m k) i 1 := by
  funext j
  unfold addN
  by_cases h1 : j = m
  · rw [if_pos h1, if_neg (by omega), if_neg (by omega), if_pos h1]
  · rw [if_neg h1]
    by_cases h2 : j = i
    · rw [if_pos h2, if_pos h2, if_neg h1]
    · rw [if_neg h2, if_neg h2, if_neg h1]
/-- m has the chair behind these notches: 1 or 0 -/
def gsB (b : AB) (w : Nat) (v : Nat → Nat) : Nat := (decide (chA b (bhA b v) = w + 1)).toNat
/-- how many rows of l turns by a notch of free members from k on -/
def shS (b : AB) (w k : Nat) : Nat → (Nat → Nat) → Nat
  | 0, v => gsB b w v
  | l + 1, v => fb_sm (fun m => if k ≤ m ∧ stk b m = false then shS b w k l (addN v m 1) else 0) (bN b)
section
variable {b : AB} {w : Nat}
theorem shS_s (k l : Nat) (v : Nat → Nat) : shS b w k (l + 1) v = fb_sm (fun m => if k ≤ m ∧ stk b m = false then shS b w k l (addN v m 1) else 0) (bN b) := rfl
theorem shS_stuck {k : Nat} (h : stk b k = true) : ∀ l v, shS b w k l v = shS b w (k + 1) l v
  | 0, _ => rfl
  | l + 1, v => by
    rw [shS_s, shS_s]
    refine fb_sm_cong (fun m _ => ?_)
    show (if k ≤ m ∧ stk b m = false then shS b w k l (addN v m 1) else 0) = (if k + 1 ≤ m ∧ stk b m = false then shS b w (k + 1) l (addN v m 1) else 0)
    by_cases c : k + 1 ≤ m ∧ stk b m = false
    · rw [if_pos c, if_pos ⟨by omega, c.2⟩, shS_stuck h l]
    · rw [if_neg c, if_neg (fun z => c ⟨by
        by_cases e : m = k
        · rw [e, h] at z; exact absurd z.2 (by decide)
        · omega, z.2⟩)]
theorem shS_end (l : Nat) (v : Nat → Nat) : shS b w (bN b) (l + 1) v = 0 := by
  rw [shS_s, fb_sm_cong (g := fun _ => 0) (fun m hm => if_neg (fun z => by omega)), fb_sm_const, Nat.mul_zero]
theorem shS_le : ∀ l v, bN b ≤ 6 → ∀ k, shS b w k l v ≤ 6 ^ l
  | 0, v, _, _ => by
    show gsB b w v ≤ 1
    unfold gsB
    cases decide (chA b (bhA b v) = w + 1) <;> decide
  | l + 1, v, h, k => by
    rw [shS_s]
    have h1 : fb_sm (fun m => if k ≤ m ∧ stk b m = false then shS b w k l (addN v m 1) else 0) (bN b) ≤ fb_sm (fun _ => 6 ^ l) (bN b) := fb_sm_le (fun m _ => by
      show (if k ≤ m ∧ stk b m = false then shS b w k l (addN v m 1) else 0) ≤ 6 ^ l
      split
      · exact shS_le l _ h k
      · exact Nat.zero_le _)
    rw [fb_sm_const] at h1
    refine Nat.le_trans h1 ?_
    rw [Nat.pow_succ, Nat.mul_comm]
    exact Nat.mul_le_mul_left _ h
theorem bino {m : Nat} (hm : m < bN b) (hs : stk b m = false) : ∀ l v, shS b w m l v = fb_sm (fun o => chB l o * shS b w (m + 1) (l - o) (addN v m o)) (l + 1)
  | 0, v => by
    rw [fb_sm_succ, chB_0, Nat.one_mul, addN_0]
    exact (Nat.zero_add _).symm
  | l + 1, v => by
    have e0 : shS b w m (l + 1) v = shS b w m l (addN v m 1) + fb_sm (fun i => if m + 1 ≤ i ∧ stk b i = false then shS b w m l (addN v i 1) else 0) (bN b) := by
      rw [shS_s]
      have e : ∀ i, i < bN b → (if m ≤ i ∧ stk b i = false then shS b w m l (addN v i 1) else 0) = (if i = m then shS b w m l (addN v m 1) else 0) + (if m + 1 ≤ i ∧ stk b i = false then shS b w m l (addN v i 1) else 0) := by
        intro i _
        by_cases c : i = m
        · subst c
          rw [if_pos ⟨Nat.le_refl _, hs⟩, if_pos rfl, if_neg (fun z => by omega), Nat.add_zero]
        · rw [if_neg c, Nat.zero_add]
          by_cases c2 : m + 1 ≤ i ∧ stk b i = false
          · rw [if_pos c2, if_pos ⟨by omega, c2.2⟩]
          · rw [if_neg c2, if_neg (fun z => c2 ⟨by omega, z.2⟩)]
      rw [fb_sm_cong e, fb_sm_add, sm_one, if_pos hm]
    have e1 : shS b w m l (addN v m 1) = fb_sm (fun o => chB l o * (fun o => shS b w (m + 1) (l + 1 - o) (addN v m o)) (o + 1)) (l + 1) := by
      rw [bino hm hs l]
      refine fb_sm_cong (fun o _ => ?_)
      show chB l o * shS b w (m + 1) (l - o) (addN (addN v m 1) m o) = chB l o * shS b w (m + 1) (l + 1 - (o + 1)) (addN v m (o + 1))
      rw [addN_s, Nat.add_sub_add_right]
    have e2 : fb_sm (fun i => if m + 1 ≤ i ∧ stk b i = false then shS b w m l (addN v i 1) else 0) (bN b) = fb_sm (fun o => chB l o * (fun o => shS b w (m + 1) (l + 1 - o) (addN v m o)) o) (l + 1) := by
      have e : ∀ i, i < bN b → (if m + 1 ≤ i ∧ stk b i = false then shS b w m l (addN v i 1) else 0) = fb_sm (fun o => chB l o * (if m + 1 ≤ i ∧ stk b i = false then shS b w (m + 1) (l - o) (addN (addN v m o) i 1) else 0)) (l + 1) := by
        intro i _
        by_cases c : m + 1 ≤ i ∧ stk b i = false
        · rw [if_pos c, bino hm hs l]
          refine fb_sm_cong (fun o _ => ?_)
          show chB l o * shS b w (m + 1) (l - o) (addN (addN v i 1) m o) = chB l o * (if m + 1 ≤ i ∧ stk b i = false then shS b w (m + 1) (l - o) (addN (addN v m o) i 1) else 0)
          rw [if_pos c, addN_c v (by omega)]
        · rw [if_neg c, fb_sm_cong (g := fun _ => 0) (fun o _ => by rw [if_neg c, Nat.mul_zero]), fb_sm_const, Nat.mul_zero]
      rw [fb_sm_cong e, sm_comm]
      refine fb_sm_cong (fun o ho => ?_)
      show fb_sm (fun i => chB l o * (if m + 1 ≤ i ∧ stk b i = false then shS b w (m + 1) (l - o) (addN (addN v m o) i 1) else 0)) (bN b) = chB l o * shS b w (m + 1) (l + 1 - o) (addN v m o)
      rw [sm_mul, show l + 1 - o = l - o + 1 by omega, shS_s]
    rw [e0, e1, e2, pascal (fun o => shS b w (m + 1) (l + 1 - o) (addN v m o)) l]
end
/-! ===== the greatest common measure ===== -/
theorem common_eq : ∀ y x f, y < f → x < 2 ^ 31 → y < 2 ^ 31 → fX12_common_4 f (nI x) (nI y) = some (nI (Nat.gcd y x)) := by
  intro y
  induction y using Nat.strongRecOn with
  | _ y ih =>
    intro x f hf hx hy
    obtain ⟨f, rfl⟩ : ∃ f', f = f' + 1 := ⟨f - 1, by omega⟩
    rw [fX12_common_4, i0 hy]
    by_cases c : y = 0
    · subst c
      rw [if_pos rfl, Nat.gcd_zero_left]
    · have hlt := Nat.mod_lt x (show 0 < y by omega)
      rw [if_neg c, chk_tt (nz_n (by omega) hy), jr_n hx (by omega) hy, bnd_e, ih (x % y) hlt y f (by omega) hy (by omega), ← Nat.gcd_rec]
theorem measure_eq : ∀ k i x y f, y < 2 ^ k → k ≤ 20 → i + 2 * k + 1 ≤ 64 → 64 - i < f → x < 2 ^ 31 → y < 2 ^ 31 → fX11_commonMeasure_7 f (nI x) (nI y) (nI i) = some (nI (Nat.gcd y x)) := by
  intro k
  induction k with
  | zero =>
    intro i x y f h1 hk h2 hf hx hy
    obtain ⟨f, rfl⟩ : ∃ f', f = f' + 1 := ⟨f - 1, by omega⟩
    have hy0 : y = 0 := by rw [Nat.pow_zero] at h1; omega
    subst hy0
    rw [fX11_commonMeasure_7, if_neg (show ¬ (64 : Int32) ≤ nI i from nI_ge (b := 64) (by omega) (by omega)), if_pos (by decide), Nat.gcd_zero_left]
  | succ k ih =>
    intro i x y f h1 hk h2 hf hx hy
    obtain ⟨f, rfl⟩ : ∃ f', f = f' + 1 := ⟨f - 1, by omega⟩
    rw [fX11_commonMeasure_7, if_neg (show ¬ (64 : Int32) ≤ nI i from nI_ge (b := 64) (by omega) (by omega))]
    by_cases c : y = 0
    · subst c
      rw [if_pos (by decide), Nat.gcd_zero_left]
    · have hlt := Nat.mod_lt x (show 0 < y by omega)
      rw [if_neg (show ¬ nI y ≤ 0 from nI_ge (a := 0) (by omega) (by omega)), chk_tt (nz_n (by omega) hy), jr_n hx (by omega) hy, bnd_e, nI_1, bnd_e, Nat.gcd_rec]
      rw [Nat.pow_succ] at h1
      by_cases c2 : x % y < 2 ^ k
      · exact ih (i + 1) y (x % y) f c2 (by omega) (by omega) (by omega) hy (by omega)
      · obtain ⟨f, rfl⟩ : ∃ f', f = f' + 1 := ⟨f - 1, by omega⟩
        have hp : 0 < 2 ^ k := Nat.pow_pos (by omega)
        have e : y % (x % y) = y - x % y := by rw [Nat.mod_eq_sub_mod (by omega), Nat.mod_eq_of_lt (by omega)]
        rw [fX11_commonMeasure_7, if_neg (show ¬ (64 : Int32) ≤ nI (i + 1) from nI_ge (b := 64) (by omega) (by omega)), if_neg (show ¬ nI (x % y) ≤ 0 from nI_ge (a := 0) (by omega) (by omega)), chk_tt (nz_n (by omega) (by omega)), jr_n hy (by omega) (by omega), bnd_e, nI_1, bnd_e, Nat.gcd_rec]
        exact ih (i + 1 + 1) (x % y) (y % (x % y)) f (by omega) (by omega) (by omega) (by omega) (by omega) (by omega)
/-! ===== the reference's chances ===== -/
/-- how many turns there are: none if all are stuck -/
def nC (b : AB) (n : Nat) : Nat := if fD b (bN b) = 0 then 0 else n
def pwC (b : AB) (n w : Nat) : Nat := shS b w 0 (nC b n) (fun _ => 0)
def whC (b : AB) (n : Nat) : Nat := fD b (bN b) ^ nC b n
def chAns (b : AB) (n m : Nat) (w : Int32) : Int32 := if w = 0 then nI (pwC b n m / Nat.gcd (whC b n) (pwC b n m)) else nI (whC b n / Nat.gcd (whC b n) (pwC b n m))
theorem nC_le (b : AB) (n : Nat) : nC b n ≤ n := by unfold nC; split <;> omega
theorem pow6 : ∀ l, l ≤ 6 → 6 ^ l ≤ 46656 := by decide
theorem pwC_le {b : AB} (hw : wfB b) {n : Nat} (hn : n ≤ 6) (w : Nat) : pwC b n w ≤ 46656 := by
  have h1 := shS_le (b := b) (w := w) (nC b n) (fun _ => 0) hw.2.1 0
  have h2 := nC_le b n
  exact Nat.le_trans h1 (pow6 _ (by omega))
theorem whC_rng {b : AB} (hw : wfB b) {n : Nat} (hn : n ≤ 6) : 1 ≤ whC b n ∧ whC b n ≤ 46656 := by
  have h2 := nC_le b n
  have hF := fD_le b (bN b)
  have h6 := hw.2.1
  unfold whC
  constructor
  · by_cases c : fD b (bN b) = 0
    · have : nC b n = 0 := if_pos c
      rw [this, Nat.pow_zero]
      exact Nat.le_refl _
    · exact Nat.pow_pos (by omega)
  · exact Nat.le_trans (Nat.pow_le_pow_left (show fD b (bN b) ≤ 6 by omega) _) (pow6 _ (by omega))
section
variable {b : AB} {g : MS}
theorem loose_lp (hw : wfB b) (hK : KB b (g.2.1 0)) : ∀ d k f, k + d = bN b → d < f → fX12_loose_4 f g (nI (fD b (bN b) - fD b (bN b - k))) (nI k) = some (nI (fD b (bN b)), g) := by
  have hn := hw.2.1
  intro d
  induction d with
  | zero =>
    intro k f hk hf
    obtain ⟨f, rfl⟩ : ∃ f', f = f' + 1 := ⟨f - 1, by omega⟩
    have hk : k = bN b := hk
    subst hk
    rw [fX12_loose_4, size_eq hK, bndc_s, if_pos (nI_le (by omega) (by omega)), Nat.sub_self]
    rfl
  | succ d ih =>
    intro k f hk hf
    obtain ⟨f, rfl⟩ : ∃ f', f = f' + 1 := ⟨f - 1, by omega⟩
    have hs1 := fD_s (b := b) (show k < bN b by omega)
    have hmo := fD_mono b (show bN b - k ≤ bN b by omega)
    have st := ih (k + 1) f (by omega) (by omega)
    rw [show bN b - (k + 1) = bN b - 1 - k by omega] at st
    rw [fX12_loose_4, size_eq hK, bndc_s, if_neg (nI_ge (by omega) (by omega)), isStuck_eq hw hK (by omega), bndc_s]
    unfold fX12_loose_26
    cases hs : stk b k with
    | true =>
      rw [hs, if_pos rfl, Nat.add_zero] at hs1
      rw [if_neg (show ¬ nI true.toNat = 0 by decide), Int32.add_zero, bnd_e, nI_1, bnd_e, hs1]
      exact st
    | false =>
      rw [hs, if_neg (by decide)] at hs1
      rw [if_pos (show nI false.toNat = 0 from rfl), nI_1, bnd_e, nI_1, bnd_e, show fD b (bN b) - fD b (bN b - k) + 1 = fD b (bN b) - fD b (bN b - 1 - k) by omega]
      exact st
theorem loose_eq (hw : wfB b) (hK : KB b (g.2.1 0)) : fX12_loose g = some (nI (fD b (bN b)), g) := by
  have hn := hw.2.1
  have st := loose_lp hw hK (bN b) 0 fuel (by omega) (by unfold fuel; omega)
  rw [Nat.sub_zero, Nat.sub_self] at st
  exact st
theorem gLeaf (hw : wfB b) {v c : Nat → Nat} (hv : ∀ j, j < bN b → v j ≤ 1000) (hR : RI b g) (hN : NR (bN b) v g) (h : ∀ w, w < 6 → g.2.1 30 w = nI (c w)) (r : MS → Int32 → Option MS) : Ev (fX12_goesChance_11 r g) (fun g' => (∀ w, w < 6 → g'.2.1 30 w = nI (c w + gsB b w v)) ∧ g'.2.1 26 = g.2.1 26 ∧ fM [] [21, 22, 26, 30] g g') := by
  unfold fX12_goesChance_11
  refine Ev.v (behind_eq hw hv hR hN) ?_
  rintro g1 ⟨h1, f1⟩
  refine Ev.c (chairBy_eq hw (hR.keep f1 (by decide)).1 (bhA_lk hw v) h1) ?_
  rintro x g2 ⟨q1, -, q3⟩
  dsimp only at q1
  have hc := chA_le hw (bhA b v)
  have e30 : g2.2.1 30 = g.2.1 30 := (q3.row 30 (by decide)).trans (f1.row 30 (by decide))
  have e26 : g2.2.1 26 = g.2.1 26 := (q3.row 26 (by decide)).trans (f1.row 26 (by decide))
  have F : fM [] [21, 22, 26, 30] g g2 := (f1.mono (by decide) (by decide)).trans (q3.mono (by decide) (by decide))
  rw [q1]
  by_cases e : chA b (bhA b v) = 0
  · rw [if_pos (by rw [e]; rfl)]
    refine ev_some.mpr ⟨fun w hw6 => ?_, e26, F⟩
    rw [e30, h w hw6]
    unfold gsB
    rw [decide_eq_false (by omega)]
    rfl
  · have ep : pm (chA b (bhA b v)) = nI (chA b (bhA b v) - 1) := by unfold pm; rw [if_neg e]
    rw [ep, if_neg (nI_nm1 (by omega))]
    refine Ev.k (ib_n (by omega) (by omega)) (Ev.k (ib_n (by omega) (by omega)) ?_)
    rw [bnd_e, ix_n (by omega), e30, h _ (show chA b (bhA b v) - 1 < 6 by omega), nI_1]
    refine ev_some.mpr ⟨fun w hw6 => ?_, e26, F.sA (by decide)⟩
    show upd (g2.2.1 30) _ _ w = _
    rw [upd_j, e30]
    unfold gsB
    by_cases e2 : w = chA b (bhA b v) - 1
    · rw [if_pos e2, decide_eq_true (by omega), e2]
      rfl
    · rw [if_neg e2, decide_eq_false (by omega), h w hw6]
      rfl
theorem gCh (hw : wfB b) (hL : 0 < fD b (bN b)) : ∀ l D (v c : Nat → Nat) (g : MS), l < D → RI b g → NR (bN b) v g → (∀ j, j < bN b → v j + l ≤ 100) → (∀ w, w < 6 → g.2.1 30 w = nI (c w)) → Ev (fX12_goesChanceD D g (nI l)) (fun g' => (∀ w, w < 6 → g'.2.1 30 w = nI (c w + shS b w 0 l v)) ∧ NR (bN b) v g' ∧ fM [] [21, 22, 26, 30] g g') := by
  have hn := hw.2.1
  have hF := fD_le b (bN b)
  intro l
  induction l with
  | zero =>
    intro D v c g hD hR hN hv h
    obtain ⟨D, rfl⟩ : ∃ D', D = D' + 1 := ⟨D - 1, by omega⟩
    rw [fX12_goesChanceD, fX12_goesChanceB, if_pos (show nI 0 = (0 : Int32) from rfl)]
    refine (gLeaf hw (fun j hj => by have := hv j hj; omega) hR hN h _).mono ?_
    rintro z ⟨z1, z2, z3⟩
    exact ⟨z1, fun j hj => by rw [z2]; exact hN j hj, z3⟩
  | succ l ih =>
    intro D v c g hD hR hN hv h
    obtain ⟨D, rfl⟩ : ∃ D', D = D' + 1 := ⟨D - 1, by omega⟩
    rw [fX12_goesChanceD, fX12_goesChanceB]
    by_cases hl : l + 1 ≤ 100
    · rw [if_neg (nI_ne0 (by omega) (by omega)), loose_eq hw hR.1, bndc_s, if_neg (nI_ne0 hL (by omega))]
      have lp : ∀ d k f (g1 : MS), k + d = bN b → d < f → RI b g1 → NR (bN b) v g1 → (∀ w, w < 6 → g1.2.1 30 w = nI (c w + fb_sm (fun m => if 0 ≤ m ∧ stk b m = false then shS b w 0 l (addN v m 1) else 0) k)) → fM [] [21, 22, 26, 30] g g1 → Ev (fX12_goesChance_38 (fX12_goesChanceD D) f g1 (nI (l + 1)) (nI k)) (fun g' => (∀ w, w < 6 → g'.2.1 30 w = nI (c w + shS b w 0 (l + 1) v)) ∧ NR (bN b) v g' ∧ fM [] [21, 22, 26, 30] g g') := by
        intro d
        induction d with
        | zero =>
          intro k f g1 hk hf hR1 hN1 h1 F1
          obtain ⟨f, rfl⟩ : ∃ f', f = f' + 1 := ⟨f - 1, by omega⟩
          have hk : k = bN b := hk
          subst hk
          rw [fX12_goesChance_38, size_eq hR1.1, bndc_s, if_pos (nI_le (by omega) (by omega))]
          exact ev_some.mpr ⟨h1, hN1, F1⟩
        | succ d ih2 =>
          intro k f g1 hk hf hR1 hN1 h1 F1
          obtain ⟨f, rfl⟩ : ∃ f', f = f' + 1 := ⟨f - 1, by omega⟩
          rw [fX12_goesChance_38, size_eq hR1.1, bndc_s, if_neg (nI_ge (by omega) (by omega)), isStuck_eq hw hR1.1 (by omega), bndc_s]
          cases hs : stk b k with
          | true =>
            rw [if_neg (show ¬ nI true.toNat = 0 by decide), nI_1, bnd_e]
            refine ih2 (k + 1) f g1 (by omega) (by omega) hR1 hN1 (fun w hw6 => ?_) F1
            rw [fb_sm_succ, if_neg (fun z => by rw [hs] at z; exact absurd z.2 (by decide)), Nat.add_zero]
            exact h1 w hw6
          | false =>
            have hvk := hv k (by omega)
            rw [if_pos (show nI false.toNat = 0 from rfl)]
            refine Ev.k (ib_n (by omega) (by omega)) (Ev.k (ib_n (by omega) (by omega)) ?_)
            rw [bnd_e, ix_n (by omega), hN1 k (by omega), nI_1, l_1, pk_sub (by omega), show l + 1 - 1 = l by omega]
            have f2 : fM [] [21, 22, 26, 30] g1 (sA g1 26 k (nI (v k + 1))) := (fM.refl g1).sA (by decide)
            refine Ev.v (ih D (addN v k 1) (fun w => c w + fb_sm (fun m => if 0 ≤ m ∧ stk b m = false then shS b w 0 l (addN v m 1) else 0) k) (sA g1 26 k (nI (v k + 1))) (by omega) (hR1.keep f2 (by decide)) (fun j hj => ?_) (fun j hj => ?_) h1) ?_
            · show upd (g1.2.1 26) k _ j = nI (addN v k 1 j)
              rw [upd_j]
              unfold addN
              by_cases e : j = k
              · rw [if_pos e, if_pos e, e]
              · rw [if_neg e, if_neg e]; exact hN1 j hj
            · have := hv j hj
              unfold addN
              split <;> omega
            · rintro g3 ⟨a1, a2, a3⟩
              refine Ev.k (ib_n (by omega) (by omega)) (Ev.k (ib_n (by omega) (by omega)) ?_)
              have e26 : g3.2.1 26 k = nI (v k + 1) := by rw [a2 k (by omega)]; unfold addN; rw [if_pos rfl]
              rw [bnd_e, e26, pk_sub (by omega), show v k + 1 - 1 = v k by omega, nI_add, bnd_e]
              have f3 : fM [] [21, 22, 26, 30] g1 (sA g3 26 k (nI (v k))) := (f2.trans a3).sA (by decide)
              refine ih2 (k + 1) f _ (by omega) (by omega) (hR1.keep f3 (by decide)) (fun j hj => ?_) (fun w hw6 => ?_) (F1.trans f3)
              · show upd (g3.2.1 26) k _ j = _
                rw [upd_j]
                by_cases e : j = k
                · rw [if_pos e, e]
                · rw [if_neg e, a2 j hj]
                  unfold addN
                  rw [if_neg e]
              · show g3.2.1 30 w = _
                rw [a1 w hw6, fb_sm_succ, if_pos ⟨Nat.zero_le _, hs⟩, Nat.add_assoc]
      exact lp (bN b) 0 fuel g (by omega) (by unfold fuel; omega) hR hN h (fM.refl g)
    · have := hv 0 (by have := hw.1; omega)
      omega
theorem laysC_eq (hw : wfB b) (hK : KB b (g.2.1 0)) {n : Nat} (hn6 : n ≤ 6) : Ev (fX12_laysChance g (nI n)) (fun g' => (∀ w, w < 6 → g'.2.1 30 w = nI (pwC b n w)) ∧ KB b (g'.2.1 0) ∧ fM [] [19, 20, 21, 22, 26, 27, 28, 30] g g') := by
  have hn := hw.2.1
  have lp : ∀ d k f (g1 : MS), k + d = 6 → d < f → KB b (g1.2.1 0) → (∀ w, w < k → g1.2.1 30 w = 0 ∧ g1.2.1 26 w = 0) → fM [] [19, 20, 21, 22, 26, 27, 28, 30] g g1 → Ev (fX12_laysChance_2 f g1 (nI n) (nI k)) (fun g' => (∀ w, w < 6 → g'.2.1 30 w = nI (pwC b n w)) ∧ KB b (g'.2.1 0) ∧ fM [] [19, 20, 21, 22, 26, 27, 28, 30] g g') := by
    intro d
    induction d with
    | zero =>
      intro k f g1 hk hf hK1 h F
      obtain ⟨f, rfl⟩ : ∃ f', f = f' + 1 := ⟨f - 1, by omega⟩
      have hk : k = 6 := hk
      subst hk
      rw [fX12_laysChance_2, if_pos (by decide)]
      refine Ev.v (along_eq hw hK1) ?_
      rintro g2 ⟨h2, f2⟩
      have hN2 : NR (bN b) (fun _ => 0) g2 := fun j hj => by rw [f2.row 26 (by decide)]; exact (h j (by omega)).2
      have h30 : ∀ w, w < 6 → g2.2.1 30 w = nI 0 := fun w hw6 => by rw [f2.row 30 (by decide)]; exact (h w hw6).1
      have fin : Ev (fX12_goesChance g2 (nI n)) (fun g' => (∀ w, w < 6 → g'.2.1 30 w = nI (pwC b n w)) ∧ fM [] [21, 22, 26, 30] g2 g') := by
        unfold fX12_goesChance pwC nC
        by_cases c : fD b (bN b) = 0
        · have e : ∀ w, shS b w 0 (if fD b (bN b) = 0 then 0 else n) (fun _ => 0) = 0 + gsB b w (fun _ => 0) := fun w => by rw [if_pos c, Nat.zero_add]; rfl
          rw [fX12_goesChanceD, fX12_goesChanceB]
          have lf := gLeaf hw (v := fun _ => 0) (c := fun _ => 0) (fun _ _ => by omega) h2 hN2 h30 (fX12_goesChanceD 11)
          by_cases c2 : n = 0
          · rw [if_pos (by rw [c2]; rfl)]
            refine lf.mono ?_
            rintro z ⟨z1, z2, z3⟩
            exact ⟨fun w hw6 => by rw [e]; exact z1 w hw6, z3⟩
          · rw [if_neg (nI_ne0 (by omega) (by omega)), loose_eq hw h2.1, bndc_s, c, if_pos rfl]
            refine lf.mono ?_
            rintro z ⟨z1, z2, z3⟩
            exact ⟨fun w hw6 => by rw [z1 w hw6, Nat.zero_add]; rfl, z3⟩
        · rw [if_neg c]
          refine (gCh hw (by omega) n 12 (fun _ => 0) (fun _ => 0) g2 (by omega) h2 hN2 (fun _ _ => by omega) h30).mono ?_
          rintro z ⟨z1, z2, z3⟩
          exact ⟨fun w hw6 => by rw [z1 w hw6, Nat.zero_add], z3⟩
      refine Ev.v fin ?_
      rintro g3 ⟨a1, a2⟩
      have F3 : fM [] [19, 20, 21, 22, 26, 27, 28, 30] g g3 := (F.trans (f2.mono (by decide) (by decide))).trans (a2.mono (by decide) (by decide))
      exact ev_some.mpr ⟨a1, by rw [F3.row 0 (by decide)]; exact hK, F3⟩
    | succ d ih =>
      intro k f g1 hk hf hK1 h F
      obtain ⟨f, rfl⟩ : ∃ f', f = f' + 1 := ⟨f - 1, by omega⟩
      rw [fX12_laysChance_2, if_neg (show ¬ (6 : Int32) ≤ nI k from nI_ge (b := 6) (by omega) (by omega))]
      refine Ev.k (ib_n (by omega) (by omega)) ?_
      rw [bnd_e]
      refine Ev.k (ib_n (by omega) (by omega)) ?_
      rw [bnd_e, nI_1, bnd_e, ix_n (by omega)]
      refine ih (k + 1) f _ (by omega) (by omega) hK1 (fun w hw6 => ?_) ((F.sA (by decide)).sA (by decide))
      show upd (g1.2.1 30) k 0 w = 0 ∧ upd (g1.2.1 26) k 0 w = 0
      rw [upd_j, upd_j]
      by_cases e : w = k
      · rw [if_pos e, if_pos e]; exact ⟨rfl, rfl⟩
      · rw [if_neg e, if_neg e]; exact h w (by omega)
  exact lp 6 0 fuel g (by omega) (by unfold fuel; omega) hK (fun w hw6 => absurd hw6 (Nat.not_lt_zero w)) (fM.refl g)
theorem chance92 (hw : wfB b) {n m W : Nat} (hn6 : n ≤ 6) (hm : m < 6) (h : ∀ w, w < 6 → g.2.1 30 w = nI (pwC b n w)) (hW : W = whC b n) {w : Int32} (hwh : w = 0 ∨ w = 1) : fX12_chance_92 g (nI m) w (nI W) = some (chAns b n m w, g) := by
  have p1 := pwC_le hw hn6 m
  obtain ⟨w1, w2⟩ := whC_rng hw hn6
  have hg : 0 < Nat.gcd (whC b n) (pwC b n m) := Nat.gcd_pos_of_pos_left _ w1
  have hg2 : Nat.gcd (whC b n) (pwC b n m) ≤ whC b n := Nat.gcd_le_left _ w1
  unfold fX12_chance_92 fX12_common chAns
  rw [chk_tt (ib_n hm (by omega)), ix_n (by omega), h m hm, hW, common_eq _ _ _ (by unfold fuel; omega) (by omega) (by omega), bndv_s, Nat.gcd_comm]
  rcases hwh with rfl | rfl
  · rw [if_pos rfl, chk_tt (ib_n hm (by omega)), chk_tt (nz_n hg (by omega)), pk_div (by omega) hg (by omega), if_pos rfl]
  · rw [if_neg (by decide), chk_tt (nz_n hg (by omega)), pk_div (by omega) hg (by omega), if_neg (by decide)]
theorem chance64 (hw : wfB b) (hK : KB b (g.2.1 0)) {n m : Nat} (hn6 : n ≤ 6) (hm : m < 6) (h : ∀ w, w < 6 → g.2.1 30 w = nI (pwC b n w)) {w : Int32} (hwh : w = 0 ∨ w = 1) : ∀ d k f, k + d = nC b n → d < f → fX12_chance_64 f g (nI m) (nI n) w (nI (fD b (bN b) ^ k)) (nI k) = some (chAns b n m w, g) := by
  have hF := fD_le b (bN b)
  have hn := hw.2.1
  have hnc := nC_le b n
  intro d
  induction d with
  | zero =>
    intro k f hk hf
    obtain ⟨f, rfl⟩ : ∃ f', f = f' + 1 := ⟨f - 1, by omega⟩
    have hk : k = nC b n := hk
    have st := chance92 (g := g) hw hn6 hm h (W := fD b (bN b) ^ k) (by rw [hk]; rfl) hwh
    rw [fX12_chance_64, iLE (by omega) (by omega)]
    by_cases c : n ≤ k
    · rw [if_pos c]; exact st
    · have h0 : fD b (bN b) = 0 := by
        unfold nC at hk
        by_cases e : fD b (bN b) = 0
        · exact e
        · rw [if_neg e] at hk; omega
      rw [if_neg c, loose_eq hw hK, bndc_s, if_pos (by rw [h0]; decide)]
      exact st
  | succ d ih =>
    intro k f hk hf
    obtain ⟨f, rfl⟩ : ∃ f', f = f' + 1 := ⟨f - 1, by omega⟩
    have h0 : ¬ fD b (bN b) = 0 := fun e => by
      have : nC b n = 0 := if_pos e
      omega
    rw [fX12_chance_64, if_neg (nI_ge (by omega) (by omega)), loose_eq hw hK, bndc_s, if_neg (nI_nle0 (by omega) (by omega)), loose_eq hw hK, bndc_s, pk_mul, ← Nat.pow_succ, bnd_e, nI_1, bnd_e]
    exact ih (k + 1) f (by omega) (by omega)
end
section
variable {q : AQ} {g : MS}
theorem MRes.chn {g1 g2 : MS} {th : Nat} (h : MRes q th g g1) (f : fM [] [19, 20, 21, 22, 26, 27, 28, 30] g1 g2) : MRes q th g g2 := ⟨h.1.keepR f (by decide), by rw [f.1 4 (by decide)]; exact h.2.1, h.2.2.trans (kpM.of f (by decide) (by decide))⟩
theorem mChance_eq (hq : wfQ q) (hK : KQ q (g.2.1 0)) {m n : Nat} (hm : m < bN (qB q)) (hn : n ≤ 6) {w : Int32} (hwh : w = 0 ∨ w = 1) : Ev (fX12_chance g (nI m) (nI n) w) (fun z => z.1 = chAns (qB q) n m w ∧ MRes q 0 g z.2) := by
  have h6 := hq.1.2.1
  have e0 : (0 : Int64).toInt = 0 := rfl
  have e1 : (1 : Int64).toInt = 1 := rfl
  have e6 : (6 : Int64).toInt = 6 := rfl
  have hwi : 0 ≤ w.toInt ∧ w.toInt ≤ 1 := by rcases hwh with rfl | rfl <;> decide
  unfold fX12_chance fX12_chance_41
  rw [isM_yes hq.1 hK.1 hm, bndc_s, if_neg (by decide), within_y (by rw [i64, n_toInt (by omega), e0]; omega) (by rw [i64, n_toInt (by omega), e6]; omega), bndv_s, if_neg (by decide), within_y (by rw [i64, e0]; exact hwi.1) (by rw [i64, e1]; exact hwi.2), bndv_s, if_neg (by decide), bnd_e, if_pos (show (sI g 4 (0 : Int32)).1 4 ≤ 0 from (by decide : (0 : Int32) ≤ 0))]
  refine Ev.v (laysC_eq hq.1 (g := sI g 4 0) hK.1 hn) ?_
  rintro g1 ⟨a1, a2, a3⟩
  have hnc := nC_le (qB q) n
  have st := chance64 (g := g1) hq.1 a2 hn (show m < 6 by omega) a1 hwh (nC (qB q) n) 0 fuel (by omega) (by unfold fuel; omega)
  exact Ev.of st ⟨rfl, (MRes.same hK).chn a3⟩
theorem mChance_n1 (hq : wfQ q) (hK : KQ q (g.2.1 0)) {x : Int32} (h : ¬ mem (bN (qB q)) x) (y w : Int32) : Ev (fX12_chance g x y w) (fun z => MRes q 1 g z.2) := by
  unfold fX12_chance fX12_chance_41
  rw [isM_no hq.1 hK.1 h, bndc_s, if_pos rfl, bnd_e, if_neg (show ¬ (sI g 4 (1 : Int32)).1 4 ≤ 0 from (by decide : ¬ (1 : Int32) ≤ 0))]
  exact ev_some.mpr (MRes.fail hK 1)
theorem mChance_n2 (hq : wfQ q) (hK : KQ q (g.2.1 0)) {m : Nat} (hm : m < bN (qB q)) {y w : Int32} (h : ¬ upTo 6 y ∨ ¬ (w = 0 ∨ w = 1)) : Ev (fX12_chance g (nI m) y w) (fun z => MRes q 2 g z.2) := by
  have e0 : (0 : Int64).toInt = 0 := rfl
  have e1 : (1 : Int64).toInt = 1 := rfl
  have e6 : (6 : Int64).toInt = 6 := rfl
  unfold fX12_chance fX12_chance_40 fX12_chance_41
  rw [isM_yes hq.1 hK.1 hm, bndc_s, if_neg (by decide)]
  by_cases c : 0 ≤ y.toInt ∧ y.toInt ≤ 6
  · have hy := upTo_of (M := 6) c.1 c.2
    rw [within_y (by rw [i64, e0]; exact c.1) (by rw [i64, e6]; exact c.2), bndv_s, if_neg (by decide), within_n (by rw [i64]; exact w01 (h.resolve_left (fun z => z hy))), bndv_s, if_pos rfl, bnd_e, if_neg (show ¬ (sI g 4 (2 : Int32)).1 4 ≤ 0 from (by decide : ¬ (2 : Int32) ≤ 0))]
    exact ev_some.mpr (MRes.fail hK 2)
  · rw [within_n (by rw [i64]; exact c), bndv_s, if_pos rfl, bnd_e, if_neg (show ¬ (sI g 4 (2 : Int32)).1 4 ≤ 0 from (by decide : ¬ (2 : Int32) ≤ 0))]
    exact ev_some.mpr (MRes.fail hK 2)
theorem mLike_lp {b : AB} (hw : wfB b) (hK : KB b (g.2.1 0)) {v : Nat → Nat} (hv : ∀ m, m < 6 → v m < 2 ^ 31) (h : ∀ m, m < 6 → g.2.1 30 m = nI (v m)) : ∀ d k f, k + d = bN b → d < f → fX12_likeliest_32 f g (pm (chF v k).1) (nI k) = some (pm (chF v (bN b)).1, g) := by
  have hn := hw.2.1
  intro d
  induction d with
  | zero =>
    intro k f hk hf
    obtain ⟨f, rfl⟩ : ∃ f', f = f' + 1 := ⟨f - 1, by omega⟩
    have hk : k = bN b := hk
    subst hk
    rw [fX12_likeliest_32, size_eq hK, bndc_s, if_pos (nI_le (by omega) (by omega))]
  | succ d ih =>
    intro k f hk hf
    obtain ⟨f, rfl⟩ : ∃ f', f = f' + 1 := ⟨f - 1, by omega⟩
    obtain ⟨c1, c2⟩ := chF_ok v k
    have v1 := hv k (by omega)
    have st := ih (k + 1) f (by omega) (by omega)
    have h2 : (chF v k).2 < 2 ^ 31 := by
      rw [c2]
      split
      · omega
      · exact hv _ (by omega)
    have fin : fX12_likeliest_61 (fX12_likeliest_32 f) g (pm (chF v k).1) (nI k) (nI (v k)) (nI (chF v k).2) = some (pm (chF v (bN b)).1, g) := by
      unfold fX12_likeliest_61
      rw [iLE v1 h2, nI_1, bnd_e, bnd_e]
      by_cases h3 : v k ≤ (chF v k).2
      · rw [if_pos h3]
        have e : chF v (k + 1) = chF v k := if_neg (by omega)
        rw [e] at st
        exact st
      · rw [if_neg h3]
        have e : chF v (k + 1) = (k + 1, v k) := if_pos (by omega)
        rw [e] at st
        exact st
    rw [fX12_likeliest_32, size_eq hK, bndc_s, if_neg (nI_ge (by omega) (by omega)), chk_tt (ib_n (by omega) (by omega)), ix_n (by omega), h k (by omega)]
    by_cases h4 : (chF v k).1 = 0
    · rw [if_pos (by rw [h4]; rfl)]
      rw [c2, if_pos h4] at fin
      exact fin
    · rw [if_neg (by rw [pm_lt (by omega)]; exact h4)]
      have e : pm (chF v k).1 = nI ((chF v k).1 - 1) := by unfold pm; rw [if_neg h4]
      rw [c2, if_neg h4] at fin
      rw [e] at fin ⊢
      rw [chk_tt (ib_n (by omega) (by omega)), ix_n (by omega), h _ (by omega)]
      exact fin
theorem mLike_eq (hq : wfQ q) (hK : KQ q (g.2.1 0)) {n : Nat} (hn : n ≤ 6) : Ev (fX12_likeliest g (nI n)) (fun z => z.1 = pm (chF (pwC (qB q) n) (bN (qB q))).1 ∧ MRes q 0 g z.2) := by
  have h6 := hq.1.2.1
  have e0 : (0 : Int64).toInt = 0 := rfl
  have e6 : (6 : Int64).toInt = 6 := rfl
  unfold fX12_likeliest
  rw [bnd_e, within_y (by rw [i64, n_toInt (by omega), e0]; omega) (by rw [i64, n_toInt (by omega), e6]; omega), bndv_s, if_neg (by decide)]
  refine Ev.v (laysC_eq hq.1 (g := sI g 4 0) hK.1 hn) ?_
  rintro g1 ⟨a1, a2, a3⟩
  have st := mLike_lp (g := g1) hq.1 a2 (v := pwC (qB q) n) (fun m _ => by have := pwC_le hq.1 hn m; omega) a1 (bN (qB q)) 0 fuel (by omega) (by unfold fuel; omega)
  exact Ev.of st ⟨rfl, (MRes.same hK).chn a3⟩
theorem mLike_no (hK : KQ q (g.2.1 0)) {y : Int32} (h : ¬ upTo 6 y) : Ev (fX12_likeliest g y) (fun z => MRes q 1 g z.2) := by
  have e0 : (0 : Int64).toInt = 0 := rfl
  have e6 : (6 : Int64).toInt = 6 := rfl
  unfold fX12_likeliest fX12_fails
  rw [bnd_e, within_n (by rw [i64, e0, e6]; exact fun z => h (upTo_of z.1 z.2)), bndv_s, if_pos rfl, bnd_e, bndc_s]
  exact ev_some.mpr ⟨hK, rfl, (kpM.th g 0).trans (kpM.th _ _)⟩
end
