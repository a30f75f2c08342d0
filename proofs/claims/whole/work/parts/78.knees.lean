/-! ===== a minute upon the class's board; knees; those who look out; weights ===== -/
def knA (n : Nat) (a : Nat → Nat) : Nat := fb_sm (fun m => fb_sm (fun k => if fcA n a m = k + 1 ∧ fcA n a k = m + 1 then 1 else 0) m) n
theorem sm_swap (f : Nat → Nat → Nat) : ∀ n, fb_sm (fun m => fb_sm (fun k => f m k) m) n = fb_sm (fun k => fb_sm (fun m => if k < m then f m k else 0) n) n
  | 0 => rfl
  | n + 1 => by
    have ih := sm_swap f n
    rw [fb_sm_succ, fb_sm_succ, ih]
    have e1 : fb_sm (fun k => fb_sm (fun m => if k < m then f m k else 0) (n + 1)) n = fb_sm (fun k => fb_sm (fun m => if k < m then f m k else 0) n) n + fb_sm (fun k => f n k) n := by
      rw [← fb_sm_add]
      exact fb_sm_cong (fun k hk => by rw [fb_sm_succ, if_pos hk])
    have e2 : fb_sm (fun m => if n < m then f m n else 0) (n + 1) = 0 := by
      rw [fb_sm_cong (g := fun _ => 0) (fun m hm => if_neg (by omega)), fb_sm_const, Nat.mul_zero]
    rw [e1, e2]
    omega
theorem sm_one (x m0 : Nat) : ∀ n, fb_sm (fun m => if m = m0 then x else 0) n = if m0 < n then x else 0
  | 0 => by rw [if_neg (Nat.not_lt_zero _)]; rfl
  | n + 1 => by
    rw [fb_sm_succ, sm_one x m0 n]
    by_cases h : n = m0
    · rw [if_neg (by omega), if_pos h, if_pos (by omega), Nat.zero_add]
    · rw [if_neg h, Nat.add_zero]
      by_cases h2 : m0 < n
      · rw [if_pos h2, if_pos (by omega)]
      · rw [if_neg h2, if_neg (by omega)]
def knC (n : Nat) (a : Nat → Nat) (m : Nat) : Nat := if a m ≠ 0 ∧ m + a m < n ∧ a (m + a m) = n - a m then 1 else 0
theorem knA_C {n : Nat} {a : Nat → Nat} (hn : 2 ≤ n) (h6 : n ≤ 6) (ha : lk n a) : knA n a = fb_sm (knC n a) n := by
  unfold knA
  rw [sm_swap (fun m k => if fcA n a m = k + 1 ∧ fcA n a k = m + 1 then 1 else 0)]
  refine fb_sm_cong (fun k hk => ?_)
  have hak := (ha k (by omega)).1
  have e : ∀ m, m < n → (if k < m then (if fcA n a m = k + 1 ∧ fcA n a k = m + 1 then 1 else 0) else 0) = if m = k + a k then knC n a k else 0 := by
    intro m hm
    have ham := (ha m (by omega)).1
    by_cases h1 : k < m
    · rw [if_pos h1]
      by_cases h2 : m = k + a k
      · rw [if_pos h2]
        unfold knC
        have hk0 : a k ≠ 0 := by omega
        have e1 : fcA n a k = m + 1 := by
          unfold fcA
          rw [if_neg hk0, Nat.mod_eq_of_lt (by omega)]
          omega
        have e2 : fcA n a m = k + 1 ↔ a m = n - a k := by
          unfold fcA
          by_cases h3 : a m = 0
          · rw [if_pos h3]
            omega
          · rw [if_neg h3]
            by_cases h4 : m + a m < n
            · rw [Nat.mod_eq_of_lt h4]
              omega
            · rw [Nat.mod_eq_sub_mod (by omega), Nat.mod_eq_of_lt (by omega)]
              omega
        rw [← h2]
        by_cases h5 : a m = n - a k
        · rw [if_pos ⟨e2.mpr h5, e1⟩, if_pos ⟨hk0, hm, h5⟩]
        · rw [if_neg (fun z => h5 (e2.mp z.1)), if_neg (fun z => h5 z.2.2)]
      · rw [if_neg h2, if_neg]
        rintro ⟨-, h3⟩
        unfold fcA at h3
        by_cases h4 : a k = 0
        · rw [if_pos h4] at h3
          omega
        · rw [if_neg h4] at h3
          by_cases h5 : k + a k < n
          · rw [Nat.mod_eq_of_lt h5] at h3
            omega
          · rw [Nat.mod_eq_sub_mod (by omega), Nat.mod_eq_of_lt (by omega)] at h3
            omega
    · rw [if_neg h1]
      by_cases h2 : m = k + a k
      · rw [if_pos h2]
        unfold knC
        rw [if_neg (by omega)]
      · rw [if_neg h2]
  rw [fb_sm_cong e, sm_one]
  by_cases h : k + a k < n
  · rw [if_pos h]
  · rw [if_neg h]
    unfold knC
    rw [if_neg (by omega)]
theorem knC_le (n : Nat) (a : Nat → Nat) (m : Nat) : knC n a m ≤ 1 := by unfold knC; split <;> omega
theorem sm_le1 {f : Nat → Nat} (h : ∀ k, f k ≤ 1) : ∀ n, fb_sm f n ≤ n
  | 0 => Nat.le_refl 0
  | n + 1 => by have := sm_le1 h n; have := h n; rw [fb_sm_succ]; omega
theorem kneesIn_lp {n : Nat} {a : Nat → Nat} (hn : 2 ≤ n) (h6 : n ≤ 6) (ha : lk n a) : ∀ d k f, k + d = n → d < f → fX1_kneesIn_4 f (nI (l6 a)) (nI n) (nI (fb_sm (knC n a) k)) (nI k) = some (nI (fb_sm (knC n a) n)) := by
  have ha16 := lk16 h6 ha
  intro d
  induction d with
  | zero =>
    intro k f hk hf
    obtain ⟨f, rfl⟩ : ∃ f', f = f' + 1 := ⟨f - 1, by omega⟩
    have hk : k = n := hk
    subst hk
    rw [fX1_kneesIn_4, if_pos (nI_le (by omega) (by omega))]
  | succ d ih =>
    intro k f hk hf
    obtain ⟨f, rfl⟩ : ∃ f', f = f' + 1 := ⟨f - 1, by omega⟩
    have st := ih (k + 1) f (by omega) (by omega)
    have hak := (ha k (by omega)).1
    have hs := sm_le1 (knC_le n a) k
    rw [fb_sm_succ] at st
    rw [fX1_kneesIn_4, if_neg (nI_ge (by omega) (by omega)), at_l6 ha16 (by omega), bndv_s, i0 (by omega)]
    by_cases h1 : a k = 0
    · rw [if_pos h1, nI_1, bnd_e]
      rw [show knC n a k = 0 from if_neg (by omega), Nat.add_zero] at st
      exact st
    · rw [if_neg h1, nI_add, iLE (by omega) (by omega)]
      by_cases h2 : n ≤ k + a k
      · rw [if_pos h2, nI_1, bnd_e]
        rw [show knC n a k = 0 from if_neg (by omega), Nat.add_zero] at st
        exact st
      · have hx := (ha (k + a k) (by omega)).1
        rw [if_neg h2, at_l6 ha16 (by omega), bndv_s, pk_sub (by omega), iEQ (by omega) (by omega)]
        by_cases h3 : a (k + a k) = n - a k
        · rw [if_pos h3, nI_1, bnd_e, nI_1, bnd_e]
          rw [show knC n a k = 1 from if_pos ⟨h1, by omega, h3⟩] at st
          exact st
        · rw [if_neg h3, nI_1, bnd_e]
          rw [show knC n a k = 0 from if_neg (fun z => h3 z.2.2), Nat.add_zero] at st
          exact st
theorem kneesIn_eq {n : Nat} {a : Nat → Nat} (hn : 2 ≤ n) (h6 : n ≤ 6) (ha : lk n a) : fX1_kneesIn (nI (l6 a)) (nI n) = some (nI (knA n a)) := by
  rw [knA_C hn h6 ha]
  exact kneesIn_lp hn h6 ha n 0 fuel (by omega) (by unfold fuel; omega)
theorem ofBits_eq : ∀ x, x < 64 → fX1_ofBits_4 20 (nI x) (0 : Int32) (0 : Int32) = some (nI (l6 (fun m => (x.testBit m).toNat))) := by decide +kernel
theorem ofBits_fuel : ∀ f k y0 y1, k ≤ 6 → 7 - k ≤ f → fX1_ofBits_4 f y0 y1 (nI k) = fX1_ofBits_4 (7 - k) y0 y1 (nI k) := by
  intro f
  induction f with
  | zero => intro k y0 y1 h1 h2; omega
  | succ f ih =>
    intro k y0 y1 h1 h2
    obtain ⟨j, hj⟩ : ∃ j, 7 - k = j + 1 := ⟨6 - k, by omega⟩
    rw [hj, fX1_ofBits_4, fX1_ofBits_4]
    by_cases h3 : k = 6
    · subst h3
      rw [if_pos (by decide), if_pos (by decide)]
    · rw [if_neg (show ¬ (6 : Int32) ≤ nI k from nI_ge (b := 6) (by omega) (by omega)), if_neg (show ¬ (6 : Int32) ≤ nI k from nI_ge (b := 6) (by omega) (by omega)), bnd_e, bnd_e, bnd_e, bnd_e, nI_1, ih (k + 1) _ _ (by omega) (by omega), show 7 - (k + 1) = j by omega]
theorem ofBits_l6 {x : Nat} (hx : x < 64) : fX1_ofBits (nI x) = some (nI (l6 (fun m => (x.testBit m).toNat))) := by
  rw [← ofBits_eq x hx]
  unfold fX1_ofBits
  have e1 := ofBits_fuel fuel 0 (nI x) 0 (by omega) (by unfold fuel; omega)
  have e2 := ofBits_fuel 20 0 (nI x) 0 (by omega) (by omega)
  exact e1.trans e2.symm
theorem lnb_ext {a : Nat → Nat} {n : Nat} : ∀ {k : Nat}, n ≤ k → (∀ j, j < k → n ≤ j → a j = 0) → lnb 16 a k = lnb 16 a n
  | 0, h, _ => by have : n = 0 := by omega
                  subst this; rfl
  | k + 1, h, hz => by
    by_cases e : n = k + 1
    · rw [e]
    · show lnb 16 a k + a k * 16 ^ k = _
      rw [hz k (by omega) (by omega), Nat.zero_mul, Nat.add_zero]
      exact lnb_ext (by omega) (fun j hj => hz j (by omega))
theorem or_lane {a : Nat → Nat} {k : Nat} (hk : k < 6) (h : ∀ j, j < k + 1 → a j < 16) : nI (lnb 16 a k) ||| jshl (nI (a k)) (nI (4 * k)) = nI (lnb 16 a (k + 1)) := by
  have h1 := lnb_lt (B := 16) (by omega) (k := k) (fun j hj => h j (by omega))
  have h5 : (16 : Nat) ^ k ≤ 16 ^ 5 := Nat.pow_le_pow_right (by omega) (by omega)
  have h6 : a k * 16 ^ k ≤ 15 * 16 ^ 5 := Nat.mul_le_mul (by have := h k (by omega); omega) h5
  rw [jshl_n (by omega) (by rw [p4]; omega), fa_or, Nat.or_comm, Nat.mul_comm (a k)]
  congr 1
  have := Nat.two_pow_add_eq_or_of_lt (i := 4 * k) (b := lnb 16 a k) (by rw [p4]; exact h1) (a k)
  rw [← this, p4, Nat.mul_comm, Nat.add_comm]
  rfl
section
variable {b : AB} {P : PL} {g : CS} {o : Nat} {a : Nat → Nat}
def setA (b : AB) (a : Nat → Nat) : AB := (b.1, a, b.2.2)
def setW (b : AB) (w : Nat → Nat) : AB := (b.1, b.2.1, w, b.2.2.2)
def setS (b : AB) (s : Nat) : AB := (b.1, b.2.1, b.2.2.1, s, b.2.2.2.2)
theorem passMinute_lp (ho : okS o) (hw : wfB b) : ∀ d k f (g : CS), k + d = bN b → d < f → SB b P g o → Ev (fX6_passMinute_14 P f g o (lN (lnb 256 (vt b (bA b)) (bN b))) (nI (lnb 16 (byA b (bA b)) k)) (nI k)) (fun g' => SB (setA b (mnA b (bA b))) P g' o ∧ fC [(10, 1), (o, 3)] [11] [] g g') := by
  have hn := hw.2.1
  have hn2 := hw.1
  have ho10 := o10 ho
  have hby := fun m => byA_lt (a := bA b) hw m
  intro d
  induction d with
  | zero =>
    intro k f g hk hf hS
    obtain ⟨f, rfl⟩ : ∃ f', f = f' + 1 := ⟨f - 1, by omega⟩
    have hk : k = bN b := hk
    subst hk
    have e6 : lnb 16 (byA b (bA b)) (bN b) = l6 (byA b (bA b)) := (lnb_ext hn (fun j hj hz => if_pos hz)).symm
    rw [fX6_passMinute_14, hS.1, if_pos (nI_le (by omega) (by omega)), hS.2.1, e6, plus_l6 (a := bA b) (b := byA b (bA b)) hn2 hn (fun m hm => by have := (hw.2.2.1 m hm).1; omega) (fun m hm => by have := hby m; omega) (fun m hm hz => ⟨(hw.2.2.1 m hm).2 hz, if_pos hz⟩), bndv_s, bnd_e]
    refine ev_some.mpr ⟨⟨?_, ?_, ?_, ?_, hS.2.2.2.2⟩, (fC.refl g).tI (by simp)⟩
    · rw [tI_1, if_pos rfl, if_neg (by omega)]; exact hS.1
    · rw [tI_1, if_pos rfl, if_pos rfl]; rfl
    · rw [tI_1, if_pos rfl, if_neg (by omega)]; exact hS.2.2.1
    · rw [tI_1, if_pos rfl, if_neg (by omega)]; exact hS.2.2.2.1
  | succ d ih =>
    intro k f g hk hf hS
    obtain ⟨f, rfl⟩ : ∃ f', f = f' + 1 := ⟨f - 1, by omega⟩
    rw [fX6_passMinute_14, hS.1, if_neg (nI_ge (by omega) (by omega)), cStuck_eq hw hS (by omega), bndc_s]
    cases h1 : stk b k with
    | true =>
      rw [if_neg (by decide), nI_1, bnd_e]
      have e : lnb 16 (byA b (bA b)) (k + 1) = lnb 16 (byA b (bA b)) k := by
        show lnb 16 (byA b (bA b)) k + byA b (bA b) k * 16 ^ k = _
        rw [show byA b (bA b) k = 0 by unfold byA; rw [if_neg (by omega), h1, if_pos rfl], Nat.zero_mul, Nat.add_zero]
      have st := ih (k + 1) f g (by omega) (by omega) hS
      rw [e] at st
      exact st
    | false =>
      have hak := (hw.2.2.1 k (by omega)).1
      have hv := vt_le hw (bA b) k
      rw [if_pos (by decide), hS.2.1, at_l6 (lk16 hn hw.2.2.1) (by omega), bndv_s, votesAt_eq (v := vt b (bA b)) hn (fun m _ => vt_lt hw (bA b) m (bN b) hn) (show k < bN b by omega), bndv_s]
      refine Ev.c (pace_eq ho hw hS (show k < bN b by omega) (by omega) (by omega)) ?_
      rintro r g2 ⟨q1, q2⟩
      dsimp only at q1
      have e : r = nI (byA b (bA b) k) := by rw [q1]; unfold byA; rw [if_neg (by omega), h1, if_neg (by decide)]
      rw [e, sh4 (by omega), or_lane (by omega) (fun j _ => by have := hby j; omega), bnd_e, nI_1, bnd_e]
      refine (ih (k + 1) f g2 (by omega) (by omega) (hS.keep q2 (no10 ho))).mono ?_
      rintro g3 ⟨z1, z2⟩
      exact ⟨z1, (q2.mono (by simp) (by simp) (by simp)).trans z2⟩
theorem passMinute_eq (ho : okS o) (hw : wfB b) (hS : SB b P g o) : Ev (fX6_passMinute P g o) (fun g' => SB (setA b (mnA b (bA b))) P g' o ∧ fC [(10, 1), (o, 3)] [11] [] g g') := by
  have hn := hw.2.1
  unfold fX6_passMinute
  rw [hS.2.1, votesIn_eq hw hw.2.2.1 hS, bndc_s]
  exact passMinute_lp ho hw (bN b) 0 fuel g (by omega) (by unfold fuel; omega) hS
theorem lookingOut_lp (hw : wfB b) (hS : SB b P g o) : ∀ d k f, k + d = bN b → d < f → fX6_lookingOut_4 P f g o (nI (bs (fun m => decide (bA b m = 0)) k)) (nI k) = some (nI (bs (fun m => decide (bA b m = 0)) (bN b)), g) := by
  have hn := hw.2.1
  intro d
  induction d with
  | zero =>
    intro k f hk hf
    obtain ⟨f, rfl⟩ : ∃ f', f = f' + 1 := ⟨f - 1, by omega⟩
    have hk : k = bN b := hk
    subst hk
    rw [fX6_lookingOut_4, hS.1, if_pos (nI_le (by omega) (by omega))]
  | succ d ih =>
    intro k f hk hf
    obtain ⟨f, rfl⟩ : ∃ f', f = f' + 1 := ⟨f - 1, by omega⟩
    have st := ih (k + 1) f (by omega) (by omega)
    have hak := (hw.2.2.1 k (by omega)).1
    have hlt := bs_lt (fun m => decide (bA b m = 0)) k
    rw [bs_succ] at st
    rw [fX6_lookingOut_4, hS.1, if_neg (nI_ge (by omega) (by omega)), hS.2.1, at_l6 (lk16 hn hw.2.2.1) (by omega), bndv_s, i0 (by omega)]
    by_cases h : bA b k = 0
    · have eb : decide (bA b k = 0) = true := decide_eq_true h
      have e := or_bit hlt (by omega) (decide (bA b k = 0))
      rw [eb, Bool.toNat_true, Nat.one_mul] at e st
      rw [if_pos h, shl1 (by omega), e, bnd_e, nI_1, bnd_e]
      exact st
    · have eb : decide (bA b k = 0) = false := decide_eq_false h
      rw [eb, Bool.toNat_false, Nat.zero_mul, Nat.add_zero] at st
      rw [if_neg h, nI_1, bnd_e]
      exact st
theorem weightsT_lp (hw : wfB b) (hS : SB b P g o) : ∀ d k f, k + d = bN b → d < f → fX6_weightsTogether_4 P f g o (nI (fb_sm (bW b) k)) (nI k) = some (nI (fb_sm (bW b) (bN b)), g) := by
  have hn := hw.2.1
  intro d
  induction d with
  | zero =>
    intro k f hk hf
    obtain ⟨f, rfl⟩ : ∃ f', f = f' + 1 := ⟨f - 1, by omega⟩
    have hk : k = bN b := hk
    subst hk
    rw [fX6_weightsTogether_4, hS.1, if_pos (nI_le (by omega) (by omega))]
  | succ d ih =>
    intro k f hk hf
    obtain ⟨f, rfl⟩ : ∃ f', f = f' + 1 := ⟨f - 1, by omega⟩
    have st := ih (k + 1) f (by omega) (by omega)
    rw [fX6_weightsTogether_4, hS.1, if_neg (nI_ge (by omega) (by omega)), hS.2.2.1, at_l6 (w16 hw) (by omega), bndv_s, nI_add, bnd_e, nI_1, bnd_e]
    exact st
end
section
variable {b : AB} {g : MS} {a : Nat → Nat}
theorem outs_lp (hw : wfB b) (hK : KB b (g.2.1 0)) : ∀ d k f, k + d = bN b → d < f → fX12_outs_4 f g (nI (bs (fun m => decide (bA b m = 0)) k)) (nI k) = some (nI (bs (fun m => decide (bA b m = 0)) (bN b)), g) := by
  have hn := hw.2.1
  intro d
  induction d with
  | zero =>
    intro k f hk hf
    obtain ⟨f, rfl⟩ : ∃ f', f = f' + 1 := ⟨f - 1, by omega⟩
    have hk : k = bN b := hk
    subst hk
    rw [fX12_outs_4, size_eq hK, bndc_s, if_pos (nI_le (by omega) (by omega))]
  | succ d ih =>
    intro k f hk hf
    obtain ⟨f, rfl⟩ : ∃ f', f = f' + 1 := ⟨f - 1, by omega⟩
    have st := ih (k + 1) f (by omega) (by omega)
    have hak := (hw.2.2.1 k (by omega)).1
    have hlt := bs_lt (fun m => decide (bA b m = 0)) k
    rw [bs_succ] at st
    rw [fX12_outs_4, size_eq hK, bndc_s, if_neg (nI_ge (by omega) (by omega)), l_6, nI_add, chk_tt (ib_n (by omega) (by omega)), ix_n (by omega), hK.2.2.1 k (by omega), i0 (by omega)]
    have e := or_bit hlt (show k < 31 by omega) (decide (bA b k = 0))
    by_cases h : bA b k = 0
    · have eb : decide (bA b k = 0) = true := decide_eq_true h
      rw [eb, Bool.toNat_true, Nat.one_mul] at e st
      unfold fX12_outs_32
      rw [if_pos h, shl1 (by omega), e, bnd_e, nI_1, bnd_e]
      exact st
    · have eb : decide (bA b k = 0) = false := decide_eq_false h
      rw [eb, Bool.toNat_false, Nat.zero_mul, Nat.add_zero] at e st
      unfold fX12_outs_32
      rw [if_neg h, l_0, e, bnd_e, nI_1, bnd_e]
      exact st
theorem weights_lp (hw : wfB b) (hK : KB b (g.2.1 0)) : ∀ d k f, k + d = bN b → d < f → fX12_weights_4 f g (nI (fb_sm (bW b) k)) (nI k) = some (nI (fb_sm (bW b) (bN b)), g) := by
  have hn := hw.2.1
  intro d
  induction d with
  | zero =>
    intro k f hk hf
    obtain ⟨f, rfl⟩ : ∃ f', f = f' + 1 := ⟨f - 1, by omega⟩
    have hk : k = bN b := hk
    subst hk
    rw [fX12_weights_4, size_eq hK, bndc_s, if_pos (nI_le (by omega) (by omega))]
  | succ d ih =>
    intro k f hk hf
    obtain ⟨f, rfl⟩ : ∃ f', f = f' + 1 := ⟨f - 1, by omega⟩
    have st := ih (k + 1) f (by omega) (by omega)
    rw [fX12_weights_4, size_eq hK, bndc_s, if_neg (nI_ge (by omega) (by omega)), l_12, nI_add, chk_tt (ib_n (by omega) (by omega)), ix_n (by omega), hK.2.2.2.1 k (by omega), nI_add, bnd_e, nI_1, bnd_e]
    exact st
theorem kneesBy_in (hw : wfB b) (hK : KB b (g.2.1 0)) (ha : lk (bN b) a) (hA : AR (bN b) a g) {m : Nat} (hm : m < bN b) (s : Nat) (F : MS → Int32 → Int32 → Option (Int32 × MS)) : ∀ d k f, k + d = m → d < f → fX12_kneesBy_14 F f g (nI (s + fb_sm (fun k => if fcA (bN b) a m = k + 1 ∧ fcA (bN b) a k = m + 1 then 1 else 0) k)) (nI m) (nI k) = F g (nI (s + fb_sm (fun k => if fcA (bN b) a m = k + 1 ∧ fcA (bN b) a k = m + 1 then 1 else 0) m)) (nI (m + 1)) := by
  have hn := hw.2.1
  have hf1 : ∀ j, fcA (bN b) a j ≤ 6 := fun j => by have := fcA_le (n := bN b) (m := j) (a := a) (by omega); omega
  intro d
  induction d with
  | zero =>
    intro k f hk hf
    obtain ⟨f, rfl⟩ : ∃ f', f = f' + 1 := ⟨f - 1, by omega⟩
    have hk : k = m := hk
    subst hk
    rw [fX12_kneesBy_14, if_pos (nI_le (by omega) (by omega)), nI_1, bnd_e]
  | succ d ih =>
    intro k f hk hf
    obtain ⟨f, rfl⟩ : ∃ f', f = f' + 1 := ⟨f - 1, by omega⟩
    have st := ih (k + 1) f (by omega) (by omega)
    rw [fb_sm_succ] at st
    have c43 : ∀ x, fX12_kneesBy_43 F (fX12_kneesBy_14 F f) g (nI m) (nI k) (nI x) (1 : Int32) = fX12_kneesBy_14 F f g (nI (x + 1)) (nI m) (nI (k + 1)) := fun x => by
      unfold fX12_kneesBy_43
      rw [nI_1, bnd_e, nI_1, bnd_e]
    have c42 : ∀ x, fX12_kneesBy_42 F (fX12_kneesBy_14 F f) g (nI m) (nI k) (nI x) = fX12_kneesBy_14 F f g (nI x) (nI m) (nI (k + 1)) := fun x => by
      unfold fX12_kneesBy_42 fX12_kneesBy_43
      rw [l_0, nI_add, bnd_e, nI_1, bnd_e, Nat.add_zero]
    have hm1 := hf1 m
    have hk1 := hf1 k
    rw [fX12_kneesBy_14, if_neg (nI_ge (by omega) (by omega)), faced_eq hw hK ha hA hm, bndc_s]
    by_cases h1 : fcA (bN b) a m = k + 1
    · rw [if_pos ((pm_eq (by omega) (by omega)).mpr h1), faced_eq hw hK ha hA (show k < bN b by omega), bndc_s]
      by_cases h2 : fcA (bN b) a k = m + 1
      · rw [if_pos ((pm_eq (by omega) (by omega)).mpr h2), c43]
        rw [if_pos ⟨h1, h2⟩] at st
        exact st
      · rw [if_neg (fun z => h2 ((pm_eq (by omega) (by omega)).mp z)), c42]
        rw [if_neg (fun z => h2 z.2), Nat.add_zero] at st
        exact st
    · rw [if_neg (fun z => h1 ((pm_eq (by omega) (by omega)).mp z)), c42]
      rw [if_neg (fun z => h1 z.1), Nat.add_zero] at st
      exact st
theorem kneesBy_lp (hw : wfB b) (hK : KB b (g.2.1 0)) (ha : lk (bN b) a) (hA : AR (bN b) a g) : ∀ d m f, m + d = bN b → d < f → fX12_kneesBy_4 f g (nI (fb_sm (fun m => fb_sm (fun k => if fcA (bN b) a m = k + 1 ∧ fcA (bN b) a k = m + 1 then 1 else 0) m) m)) (nI m) = some (nI (knA (bN b) a), g) := by
  have hn := hw.2.1
  intro d
  induction d with
  | zero =>
    intro k f hk hf
    obtain ⟨f, rfl⟩ : ∃ f', f = f' + 1 := ⟨f - 1, by omega⟩
    have hk : k = bN b := hk
    subst hk
    rw [fX12_kneesBy_4, size_eq hK, bndc_s, if_pos (nI_le (by omega) (by omega))]
    rfl
  | succ d ih =>
    intro k f hk hf
    obtain ⟨f, rfl⟩ : ∃ f', f = f' + 1 := ⟨f - 1, by omega⟩
    have st := ih (k + 1) f (by omega) (by omega)
    have e := kneesBy_in hw hK ha hA (show k < bN b by omega) (fb_sm (fun m => fb_sm (fun k => if fcA (bN b) a m = k + 1 ∧ fcA (bN b) a k = m + 1 then 1 else 0) m) k) (fX12_kneesBy_4 f) k 0 fuel (by omega) (by unfold fuel; omega)
    rw [fX12_kneesBy_4, size_eq hK, bndc_s, if_neg (nI_ge (by omega) (by omega))]
    exact e.trans st
theorem kneesBy_eq (hw : wfB b) (hK : KB b (g.2.1 0)) (ha : lk (bN b) a) (hA : AR (bN b) a g) : fX12_kneesBy g = some (nI (knA (bN b) a), g) := by
  have hn := hw.2.1
  exact kneesBy_lp hw hK ha hA (bN b) 0 fuel (by omega) (by unfold fuel; omega)
theorem outs_eq (hw : wfB b) (hK : KB b (g.2.1 0)) : fX12_outs g = some (nI (bs (fun m => decide (bA b m = 0)) (bN b)), g) := by
  have hn := hw.2.1
  exact outs_lp hw hK (bN b) 0 fuel (by omega) (by unfold fuel; omega)
theorem weights_eq (hw : wfB b) (hK : KB b (g.2.1 0)) : fX12_weights g = some (nI (fb_sm (bW b) (bN b)), g) := by
  have hn := hw.2.1
  exact weights_lp hw hK (bN b) 0 fuel (by omega) (by unfold fuel; omega)
end
