/-! ===== a board, and what it tells ===== -/
abbrev AB : Type := Nat × (Nat → Nat) × (Nat → Nat) × Nat × Lw × Lw × Lw
abbrev bN (b : AB) : Nat := b.1
abbrev bA (b : AB) : Nat → Nat := b.2.1
abbrev bW (b : AB) : Nat → Nat := b.2.2.1
abbrev bS (b : AB) : Nat := b.2.2.2.1
abbrev bD (b : AB) : Lw := b.2.2.2.2.1
abbrev bC (b : AB) : Lw := b.2.2.2.2.2.1
abbrev bG (b : AB) : Lw := b.2.2.2.2.2.2
def lwOK (k : Bool) (l : Lw) : Prop := l.length ≤ 899 ∧ (l = [] ∨ tyS l [] = some [k])
/-- a look of n members -/
def lk (n : Nat) (a : Nat → Nat) : Prop := ∀ m, m < 6 → a m < n ∧ (n ≤ m → a m = 0)
def wfB (b : AB) : Prop := 2 ≤ bN b ∧ bN b ≤ 6 ∧ lk (bN b) (bA b) ∧ (∀ m, m < 6 → bW b m ≤ 9 ∧ (m < bN b → 1 ≤ bW b m) ∧ (bN b ≤ m → bW b m = 0)) ∧ bS b < 2 ^ bN b ∧ lwOK true (bD b) ∧ lwOK false (bC b) ∧ lwOK false (bG b)
def en4 (x0 x1 x2 x3 : Int32) : Nat → Int32 := fun i => if i = 0 then x0 else if i = 1 then x1 else if i = 2 then x2 else x3
def apA (n i j : Nat) : Nat := let f := if i < j then j - i else i - j; if n - f < f then n - f else f
def stk (b : AB) (m : Nat) : Bool := (bS b).testBit m
/-- i drags j, stuck or not -/
def drA (b : AB) (i j : Nat) : Bool := decide (i = j) || (decide (bD b ≠ []) && decide (lwV (en4 (nI i) (nI (bW b i)) (nI j) (nI (apA (bN b) i j))) (bD b) = 1))
def alA (b : AB) (i j : Nat) : Bool := !stk b i && !stk b j && drA b i j
def prV (b : AB) (m : Nat) : Int32 := jmax 1 (jmin 99 (lwV (en4 (nI m) (nI (bW b m)) 0 0) (bC b)))
def prA (b : AB) (m : Nat) : Nat := if bC b = [] then 1 else (prV b m).toNatClampNeg
def fcA (n : Nat) (a : Nat → Nat) (m : Nat) : Nat := if a m = 0 then 0 else (m + a m) % n + 1
def vtk (b : AB) (a : Nat → Nat) (t k : Nat) : Nat := fb_sm (fun m => if fcA (bN b) a m = t + 1 then bW b m else 0) k
def vt (b : AB) (a : Nat → Nat) (t : Nat) : Nat := vtk b a t (bN b)
/-- the best of v so far, by one more than its place; 0: none -/
def chF (v : Nat → Nat) : Nat → Nat × Nat
  | 0 => (0, 0)
  | k + 1 => if (chF v k).2 < v k then (k + 1, v k) else chF v k
def chA (b : AB) (a : Nat → Nat) : Nat := (chF (vt b a) (bN b)).1
/-- none, or a place -/
def pm (c : Nat) : Int32 := if c = 0 then -1 else nI (c - 1)
def paV (b : AB) (m x y : Nat) : Int32 := lwV (en4 (nI m) (nI (bW b m)) (nI x) (nI y)) (bG b)
/-- the pace of m -/
def paA (b : AB) (m x y : Nat) : Nat := if bG b = [] then 0 else ((paV b m x y).toInt % (bN b : Int)).toNat
def byA (b : AB) (a : Nat → Nat) (m : Nat) : Nat := if bN b ≤ m then 0 else if stk b m then 0 else paA b m (a m) (vt b a m)
/-- a minute upon a look -/
def mnA (b : AB) (a : Nat → Nat) : Nat → Nat := fun m => (a m + byA b a m) % bN b
theorem pm_lt {c : Nat} (h : c ≤ 2147483647) : (pm c = -1 ↔ c = 0) := by
  unfold pm
  split
  · simp [*]
  · exact ⟨fun e => absurd e (nI_nm1 (by omega)), fun e => absurd e (by assumption)⟩
theorem pm_s (m : Nat) : pm (m + 1) = nI m := rfl
theorem pm_0 : pm 0 = -1 := rfl
theorem pm_inj {c d : Nat} (hc : c < 2147483648) (hd : d < 2147483648) : pm c = pm d ↔ c = d := by
  refine ⟨fun e => ?_, fun e => by rw [e]⟩
  unfold pm at e
  split at e <;> split at e
  · omega
  · exact absurd e (nm1_nI (by omega))
  · exact absurd e (nI_nm1 (by omega))
  · have := (nI_eq (by omega) (by omega)).mp e
    omega
theorem pm_eq {c m : Nat} (hc : c < 2147483648) (hm : m < 2147483647) : pm c = nI m ↔ c = m + 1 := by rw [← pm_s, pm_inj hc (by omega)]
/-! ===== the reference's board ===== -/
def KB (b : AB) (k : Nat → Int32) : Prop := k 1 = nI (bN b) ∧ k 18 = nI (bS b) ∧ (∀ m, m < bN b → k (6 + m) = nI (bA b m)) ∧ (∀ m, m < bN b → k (12 + m) = nI (bW b m)) ∧
  k 2 = nI (bD b).length ∧ k 3 = nI (bC b).length ∧ k 4 = nI (bG b).length ∧ (∀ i, i < (bD b).length → k (149 + i) = nI ((bD b).getD i 0)) ∧ (∀ i, i < (bC b).length → k (1049 + i) = nI ((bC b).getD i 0)) ∧ (∀ i, i < (bG b).length → k (1949 + i) = nI ((bG b).getD i 0))
theorem kv_n {k : Nat} (h : k ≤ 1000000) : kv false (nI k) := by
  show _ ∧ _
  rw [n_toInt (by omega)]
  omega
theorem en4_ok {x0 x1 x2 x3 : Int32} (h0 : kv false x0) (h1 : kv false x1) (h2 : kv false x2) (h3 : kv false x3) : ∀ i, i < 4 → kv false (en4 x0 x1 x2 x3 i) := by
  intro i hi
  unfold en4
  split
  · exact h0
  · split
    · exact h1
    · split
      · exact h2
      · exact h3
theorem apA_le {n i j : Nat} (hi : i ≤ 1000) (hj : j ≤ 1000) : apA n i j ≤ 1000 := by
  unfold apA
  dsimp only
  repeat' split
  all_goals omega
section
variable {b : AB} {g : MS} {a : Nat → Nat}
theorem size_eq (hK : KB b (g.2.1 0)) : fX12_size g = some (nI (bN b), g) := by
  unfold fX12_size
  rw [chk_tt (by decide)]
  show some (g.2.1 0 1, g) = _
  rw [hK.1]
theorem has_eq : ∀ s, s < 64 → ∀ m, m < 6 → fX12_has (nI s) (nI m) = some (nI (s.testBit m).toNat) := by decide +kernel
theorem s64 (hw : wfB b) : bS b < 64 := Nat.lt_of_lt_of_le hw.2.2.2.2.1 (by have : 2 ^ bN b ≤ 2 ^ 6 := Nat.pow_le_pow_right (by omega) hw.2.1; omega)
theorem isB_b (t : Bool) : isB (nI t.toNat) = true := by cases t <;> decide
theorem isStuck_eq (hw : wfB b) (hK : KB b (g.2.1 0)) {m : Nat} (hm : m < 6) : fX12_isStuck g (nI m) = some (nI (stk b m).toNat, g) := by
  unfold fX12_isStuck
  rw [chk_tt (by decide)]
  show bndv (fX12_has (g.2.1 0 18) (nI m)) _ = _
  rw [hK.2.1, has_eq _ (s64 hw) m hm, bndv_s, chk_tt (isB_b _)]
  rfl
theorem asks_eq (hw : wfB b) (hK : KB b (g.2.1 0)) {m : Nat} (hm : m < bN b) (x y : Int32) : Ev (fX12_asks g (nI m) x y) (fun g' => (∀ i, i < 4 → g'.2.1 20 i = en4 (nI m) (nI (bW b m)) x y i) ∧ fM [] [20] g g') := by
  have hn := hw.2.1
  unfold fX12_asks
  rw [l_12, nI_add]
  refine Ev.k (by decide) ?_
  rw [bnd_e]
  refine Ev.k (ib_n (by omega) (by omega)) (Ev.k (by decide) ?_)
  rw [bnd_e]
  refine Ev.k (by decide) ?_
  rw [bnd_e]
  refine Ev.k (by decide) ?_
  rw [bnd_e, ix_n (by omega)]
  refine ev_some.mpr ⟨fun i hi => ?_, ((((fM.refl g).sA (by decide)).sA (by decide)).sA (by decide)).sA (by decide)⟩
  have e1 : g.2.1 0 (12 + m) = nI (bW b m) := hK.2.2.2.1 m hm
  rcases (show i = 0 ∨ i = 1 ∨ i = 2 ∨ i = 3 by omega) with q | q | q | q <;> subst q
  · rfl
  · exact e1
  · rfl
  · rfl
theorem jabs_n {i j : Nat} (hi : i ≤ 1000) (hj : j ≤ 1000) : jabs (nI i - nI j) = nI (if i < j then j - i else i - j) := by
  unfold jabs
  by_cases h : i < j
  · rw [if_pos h, if_neg (by rw [fa_le, pk_sub_toInt (by omega) (by omega)]; have : (0 : Int32).toInt = 0 := rfl; omega)]
    apply Int32.toInt_inj.mp
    have e0 : (0 : Int32).toInt = 0 := rfl
    rw [fb_subI (by rw [pk_sub_toInt (by omega) (by omega)]; omega) (by rw [pk_sub_toInt (by omega) (by omega)]; omega), pk_sub_toInt (by omega) (by omega), n_toInt (by omega)]
    omega
  · rw [if_neg h, pk_sub (by omega), if_pos (nI_pos' (by omega))]
theorem jmin_n {i j : Nat} (hi : i < 2 ^ 31) (hj : j < 2 ^ 31) : jmin (nI i) (nI j) = nI (if j < i then j else i) := by
  unfold jmin
  rw [iLT hj hi]
  split <;> rfl
theorem apart_eq (hw : wfB b) (hK : KB b (g.2.1 0)) {i j : Nat} (hi : i < bN b) (hj : j < bN b) : fX12_apart g (nI i) (nI j) = some (nI (apA (bN b) i j), g) := by
  have hn := hw.2.1
  unfold fX12_apart
  rw [jabs_n (by omega) (by omega), bnd_e, size_eq hK, bndc_s, pk_sub (by split <;> omega), jmin_n (by split <;> omega) (by omega)]
  rfl
theorem lwD (hw : wfB b) (h : bD b ≠ []) : tyS (bD b) [] = some [true] := hw.2.2.2.2.2.1.2.resolve_left h
theorem lwC (hw : wfB b) (h : bC b ≠ []) : tyS (bC b) [] = some [false] := hw.2.2.2.2.2.2.1.2.resolve_left h
theorem lwG (hw : wfB b) (h : bG b ≠ []) : tyS (bG b) [] = some [false] := hw.2.2.2.2.2.2.2.2.resolve_left h
theorem len0 {l : Lw} (h : l.length ≤ 899) : nI l.length = 0 ↔ l = [] := by
  rw [l_0, nI_eq (by omega) (by omega)]
  exact List.length_eq_zero_iff
theorem goesAlong_eq (hw : wfB b) (hK : KB b (g.2.1 0)) {i j : Nat} (hi : i < bN b) (hj : j < bN b) : Ev (fX12_goesAlong g (nI i) (nI j)) (fun q => q.1 = nI (alA b i j).toNat ∧ fM [] [19, 20] g q.2) := by
  have hn := hw.2.1
  unfold fX12_goesAlong alA
  rw [isStuck_eq hw hK (by omega), bndc_s]
  cases h1 : stk b i with
  | true =>
    rw [if_neg (by decide)]
    exact ev_some.mpr ⟨rfl, fM.refl g⟩
  | false =>
    rw [if_pos (by decide), isStuck_eq hw hK (by omega), bndc_s]
    cases h2 : stk b j with
    | true =>
      rw [if_neg (by decide)]
      exact ev_some.mpr ⟨rfl, fM.refl g⟩
    | false =>
      rw [if_pos (by decide)]
      by_cases h3 : i = j
      · rw [if_pos (by rw [h3])]
        refine ev_some.mpr ⟨?_, fM.refl g⟩
        unfold drA
        rw [decide_eq_true h3]
        rfl
      · rw [if_neg (by rw [nI_eq (by omega) (by omega)]; exact h3)]
        refine Ev.k (by decide) ?_
        show Ev (if g.2.1 0 2 = 0 then _ else _) _
        rw [hK.2.2.2.2.1]
        by_cases h4 : bD b = []
        · rw [if_pos ((len0 hw.2.2.2.2.2.1.1).mpr h4)]
          refine ev_some.mpr ⟨?_, fM.refl g⟩
          unfold drA
          rw [decide_eq_false h3, decide_eq_false (not_not_intro h4)]
          rfl
        · rw [if_neg (fun z => h4 ((len0 hw.2.2.2.2.2.1.1).mp z)), apart_eq hw hK hi hj, bndc_s]
          refine Ev.v (asks_eq hw hK hi (nI j) (nI (apA (bN b) i j))) ?_
          rintro g1 ⟨e1, f1⟩
          have e0 : g1.2.1 0 = g.2.1 0 := f1.row 0 (by decide)
          have hW9 := (hw.2.2.2.1 i (by omega)).1
          refine Ev.c (lawOf_eq (e := en4 (nI i) (nI (bW b i)) (nI j) (nI (apA (bN b) i j))) (many := 2) (at0 := 149) (l := bD b) (b := true) (by omega) (by have := hw.2.2.2.2.2.1.1; omega) (en4_ok (kv_n (by omega)) (kv_n (by omega)) (kv_n (by omega)) (kv_n (by have := apA_le (n := bN b) (i := i) (j := j) (by omega) (by omega); omega))) (lwD hw h4) e1 (by rw [e0]; exact hK.2.2.2.2.1) (by rw [e0]; exact hK.2.2.2.2.2.2.2.1)) ?_
          rintro r g2 ⟨q1, q2, q3⟩
          have fr : fM [] [19, 20] g g2 := (f1.mono (by decide) (by decide)).trans (q3.mono (by decide) (by decide))
          dsimp only at q1
          subst q1
          unfold drA
          rw [decide_eq_false h3, decide_eq_true h4]
          by_cases h5 : lwV (en4 (nI i) (nI (bW b i)) (nI j) (nI (apA (bN b) i j))) (bD b) = 1
          · rw [if_pos h5]
            exact ev_some.mpr ⟨by rw [decide_eq_true h5]; rfl, fr⟩
          · rw [if_neg h5]
            exact ev_some.mpr ⟨by rw [decide_eq_false h5]; rfl, fr⟩
/-- the set of those p tells -/
def bs (p : Nat → Bool) (k : Nat) : Nat := lnb 2 (fun j => (p j).toNat) k
theorem bs_lt (p : Nat → Bool) (k : Nat) : bs p k < 2 ^ k := lnb_lt (by omega) (fun j _ => by cases p j <;> decide)
theorem bs_succ (p : Nat → Bool) (k : Nat) : bs p (k + 1) = bs p k + (p k).toNat * 2 ^ k := rfl
theorem bs_tb (p : Nat → Bool) : ∀ k i, (bs p k).testBit i = (decide (i < k) && p i)
  | 0, i => by simp [bs, lnb]
  | k + 1, i => by
    rw [bs_succ, Nat.add_comm, Nat.mul_comm, Nat.testBit_two_pow_mul_add _ (bs_lt p k), bs_tb p k i]
    by_cases h1 : i < k
    · rw [if_pos h1, decide_eq_true h1, decide_eq_true (show i < k + 1 by omega)]
    · rw [if_neg h1]
      by_cases h2 : i = k
      · subst h2
        rw [Nat.sub_self, decide_eq_true (show i < i + 1 by omega)]
        cases p i <;> rfl
      · rw [decide_eq_false (show ¬ i < k + 1 by omega), Bool.false_and]
        exact Nat.testBit_lt_two_pow (Nat.lt_of_lt_of_le (show (p k).toNat < 2 by cases p k <;> decide) (by
          have : (2 : Nat) ^ 1 ≤ 2 ^ (i - k) := Nat.pow_le_pow_right (by omega) (by omega)
          omega))
/-- one more laid into a set -/
theorem or_bit {x k : Nat} (h : x < 2 ^ k) (hk : k < 31) (t : Bool) : nI x ||| nI (t.toNat * 2 ^ k) = nI (x + t.toNat * 2 ^ k) := by
  rw [fa_or, Nat.or_comm]
  congr 1
  have := Nat.two_pow_add_eq_or_of_lt h t.toNat
  rw [Nat.mul_comm t.toNat, ← this, Nat.add_comm]
theorem shl1 {k : Nat} (hk : k < 31) : jshl (1 : Int32) (nI k) = nI (2 ^ k) := by
  have : (2 : Nat) ^ k ≤ 2 ^ 30 := Nat.pow_le_pow_right (by omega) (by omega)
  rw [l_1, jshl_n (by omega) (by omega), Nat.one_mul]
theorem draggedBy_lp (hw : wfB b) {i : Nat} (hi : i < bN b) : ∀ d k f (g : MS), k + d = bN b → d < f → KB b (g.2.1 0) → Ev (fX12_draggedBy_4 f g (nI i) (nI (bs (alA b i) k)) (nI k)) (fun q => q.1 = nI (bs (alA b i) (bN b)) ∧ fM [] [19, 20] g q.2) := by
  have hn := hw.2.1
  intro d
  induction d with
  | zero =>
    intro k f g hk hf hK
    obtain ⟨f, rfl⟩ : ∃ f', f = f' + 1 := ⟨f - 1, by omega⟩
    rw [fX12_draggedBy_4, size_eq hK, bndc_s, if_pos (nI_le (by omega) (by omega))]
    exact ev_some.mpr ⟨by rw [← hk]; rfl, fM.refl g⟩
  | succ d ih =>
    intro k f g hk hf hK
    obtain ⟨f, rfl⟩ : ∃ f', f = f' + 1 := ⟨f - 1, by omega⟩
    rw [fX12_draggedBy_4, size_eq hK, bndc_s, if_neg (nI_ge (by omega) (by omega))]
    refine Ev.c (goesAlong_eq hw hK hi (show k < bN b by omega)) ?_
    rintro r g1 ⟨e1, f1⟩
    dsimp only at e1
    subst e1
    have hlt := bs_lt (alA b i) k
    have hp : (2 : Nat) ^ k ≤ 2 ^ 6 := Nat.pow_le_pow_right (by omega) (by omega)
    have fin : Ev (fX12_draggedBy_29 (fX12_draggedBy_4 f) g1 (nI i) (nI k) (nI (bs (alA b i) k)) (nI ((alA b i k).toNat * 2 ^ k))) (fun q => q.1 = nI (bs (alA b i) (bN b)) ∧ fM [] [19, 20] g q.2) := by
      unfold fX12_draggedBy_29
      rw [or_bit hlt (by omega), bnd_e, nI_1, bnd_e]
      refine (ih (k + 1) f g1 (by omega) (by omega) (by rw [f1.row 0 (by decide)]; exact hK)).mono ?_
      rintro q ⟨q1, q2⟩
      exact ⟨q1, f1.trans q2⟩
    cases h : alA b i k with
    | true =>
      rw [if_neg (by decide), shl1 (by omega)]
      rw [h, Bool.toNat_true, Nat.one_mul] at fin
      exact fin
    | false =>
      rw [if_pos (by decide)]
      rw [h, Bool.toNat_false, Nat.zero_mul] at fin
      exact fin
theorem draggedBy_eq (hw : wfB b) (hK : KB b (g.2.1 0)) {i : Nat} (hi : i < bN b) : Ev (fX12_draggedBy g (nI i)) (fun q => q.1 = nI (bs (alA b i) (bN b)) ∧ fM [] [19, 20] g q.2) := by
  have hn := hw.2.1
  exact draggedBy_lp hw hi (bN b) 0 fuel g (by omega) (by unfold fuel; omega) hK
theorem clamp99 (v : Int32) : jmax 1 (jmin 99 v) = nI (jmax 1 (jmin 99 v)).toNatClampNeg ∧ 1 ≤ (jmax 1 (jmin 99 v)).toNatClampNeg ∧ (jmax 1 (jmin 99 v)).toNatClampNeg ≤ 99 := by
  have e1 : (1 : Int32).toInt = 1 := rfl
  have e99 : (99 : Int32).toInt = 99 := rfl
  have key : ∀ x : Int32, 1 ≤ x.toInt → x.toInt ≤ 99 → x = nI x.toNatClampNeg ∧ 1 ≤ x.toNatClampNeg ∧ x.toNatClampNeg ≤ 99 := by
    intro x h1 h2
    obtain ⟨j, hj, rfl⟩ := nI_of (x := x) (by rw [fa_lt]; have : (0 : Int32).toInt = 0 := rfl; omega)
    rw [n_toInt hj] at h1 h2
    rw [nI_clamp hj]
    exact ⟨rfl, by omega, by omega⟩
  apply key
  · unfold jmax jmin
    repeat' split
    all_goals simp only [fa_lt, e1, e99] at *
    all_goals omega
  · unfold jmax jmin
    repeat' split
    all_goals simp only [fa_lt, e1, e99] at *
    all_goals omega
theorem prA_rng (b : AB) (m : Nat) : 1 ≤ prA b m ∧ prA b m ≤ 99 := by
  unfold prA
  split
  · omega
  · exact (clamp99 _).2
theorem notchCosts_eq (hw : wfB b) (hK : KB b (g.2.1 0)) {m : Nat} (hm : m < bN b) : Ev (fX12_notchCosts g (nI m)) (fun q => q.1 = nI (prA b m) ∧ fM [] [19, 20] g q.2) := by
  have hn := hw.2.1
  unfold fX12_notchCosts prA
  refine Ev.k (by decide) ?_
  show Ev (if g.2.1 0 3 = 0 then _ else _) _
  rw [hK.2.2.2.2.2.1]
  by_cases h4 : bC b = []
  · rw [if_pos ((len0 hw.2.2.2.2.2.2.1.1).mpr h4), if_pos h4]
    exact ev_some.mpr ⟨rfl, fM.refl g⟩
  · rw [if_neg (fun z => h4 ((len0 hw.2.2.2.2.2.2.1.1).mp z)), if_neg h4]
    refine Ev.v (asks_eq hw hK hm 0 0) ?_
    rintro g1 ⟨e1, f1⟩
    have e0 : g1.2.1 0 = g.2.1 0 := f1.row 0 (by decide)
    have hW9 := (hw.2.2.2.1 m (by omega)).1
    refine Ev.c (lawOf_eq (e := en4 (nI m) (nI (bW b m)) 0 0) (many := 3) (at0 := 1049) (l := bC b) (b := false) (by omega) (by have := hw.2.2.2.2.2.2.1.1; omega) (en4_ok (kv_n (by omega)) (kv_n (by omega)) (kv_n (k := 0) (by omega)) (kv_n (k := 0) (by omega))) (lwC hw h4) e1 (by rw [e0]; exact hK.2.2.2.2.2.1) (by rw [e0]; exact hK.2.2.2.2.2.2.2.2.1)) ?_
    rintro r g2 ⟨q1, q2, q3⟩
    dsimp only at q1
    subst q1
    exact ev_some.mpr ⟨(clamp99 _).1, (f1.mono (by decide) (by decide)).trans (q3.mono (by decide) (by decide))⟩
/-! ===== aims, votes, the chair ===== -/
def AR (n : Nat) (a : Nat → Nat) (g : MS) : Prop := ∀ m, m < n → g.2.1 21 m = nI (a m)
theorem aimsNow_lp (hw : wfB b) : ∀ d k f (g : MS), k + d = bN b → d < f → KB b (g.2.1 0) → AR k (bA b) g → Ev (fX12_aimsNow_2 f g (nI k)) (fun g' => AR (bN b) (bA b) g' ∧ fM [] [21] g g') := by
  have hn := hw.2.1
  intro d
  induction d with
  | zero =>
    intro k f g hk hf hK h
    obtain ⟨f, rfl⟩ : ∃ f', f = f' + 1 := ⟨f - 1, by omega⟩
    rw [fX12_aimsNow_2, size_eq hK, bndc_s, if_pos (nI_le (by omega) (by omega))]
    exact ev_some.mpr ⟨by rw [← hk]; exact h, fM.refl g⟩
  | succ d ih =>
    intro k f g hk hf hK h
    obtain ⟨f, rfl⟩ : ∃ f', f = f' + 1 := ⟨f - 1, by omega⟩
    rw [fX12_aimsNow_2, size_eq hK, bndc_s, if_neg (nI_ge (by omega) (by omega)), l_6, nI_add]
    refine Ev.k (ib_n (by omega) (by omega)) (Ev.k (ib_n (by omega) (by omega)) ?_)
    rw [bnd_e, nI_1, bnd_e, ix_n (by omega), ix_n (by omega)]
    refine (ih (k + 1) f (sA g 21 k (g.2.1 0 (6 + k))) (by omega) (by omega) hK (fun m hm => ?_)).mono ?_
    · show upd (g.2.1 21) k _ m = _
      rw [upd_j]
      by_cases e : m = k
      · rw [if_pos e, e]; exact hK.2.2.1 k (by omega)
      · rw [if_neg e]; exact h m (by omega)
    · rintro q ⟨q1, q2⟩
      exact ⟨q1, ((fM.refl g).sA (by decide)).trans q2⟩
theorem aimsNow_eq (hw : wfB b) (hK : KB b (g.2.1 0)) : Ev (fX12_aimsNow g) (fun g' => AR (bN b) (bA b) g' ∧ fM [] [21] g g') := by
  have hn := hw.2.1
  exact aimsNow_lp hw (bN b) 0 fuel g (by omega) (by unfold fuel; omega) hK (fun m hm => absurd hm (Nat.not_lt_zero m))
theorem fcA_le {n m : Nat} {a : Nat → Nat} (hn : 0 < n) : fcA n a m ≤ n := by
  unfold fcA
  split
  · omega
  · exact Nat.mod_lt _ hn
theorem faced_eq (hw : wfB b) (hK : KB b (g.2.1 0)) (ha : lk (bN b) a) (hA : AR (bN b) a g) {m : Nat} (hm : m < bN b) : fX12_faced g (nI m) = some (pm (fcA (bN b) a m), g) := by
  have hn := hw.2.1
  have h1 := (ha m (by omega)).1
  unfold fX12_faced fcA
  rw [chk_tt (ib_n (by omega) (by omega)), ix_n (by omega), hA m hm, i0 (by omega)]
  by_cases h : a m = 0
  · rw [if_pos h, if_pos h]
    rfl
  · rw [if_neg h, if_neg h, chk_tt (ib_n (by omega) (by omega)), size_eq hK, bndc_s, chk_tt (nz_n (by omega) (by omega)), nI_add, jr_n (by omega) (by omega) (by omega), pm_s]
def VR (n : Nat) (v : Nat → Nat) (g : MS) : Prop := ∀ m, m < n → g.2.1 22 m = nI (v m)
theorem vtk_le (b : AB) (hw : wfB b) (a : Nat → Nat) (t : Nat) : ∀ k, k ≤ 6 → vtk b a t k ≤ 9 * k
  | 0, _ => Nat.le_refl 0
  | k + 1, h => by
    have ih := vtk_le b hw a t k (by omega)
    have h9 := (hw.2.2.2.1 k (by omega)).1
    show vtk b a t k + (if fcA (bN b) a k = t + 1 then bW b k else 0) ≤ _
    split <;> omega
theorem vt_le (hw : wfB b) (a : Nat → Nat) (t : Nat) : vt b a t ≤ 54 := by
  have := vtk_le b hw a t (bN b) hw.2.1
  have := hw.2.1
  show vtk b a t (bN b) ≤ 54
  omega
theorem laysVotes_lp (hw : wfB b) (ha : lk (bN b) a) : ∀ d k f (g : MS), k + d = bN b → d < f → KB b (g.2.1 0) → AR (bN b) a g → VR (bN b) (fun t => vtk b a t k) g → Ev (fX12_laysVotes_25 f g (nI k)) (fun g' => VR (bN b) (vt b a) g' ∧ fM [] [22] g g') := by
  have hn := hw.2.1
  intro d
  induction d with
  | zero =>
    intro k f g hk hf hK hA h
    obtain ⟨f, rfl⟩ : ∃ f', f = f' + 1 := ⟨f - 1, by omega⟩
    rw [fX12_laysVotes_25, size_eq hK, bndc_s, if_pos (nI_le (by omega) (by omega))]
    have hk : k = bN b := hk
    subst hk
    exact ev_some.mpr ⟨h, fM.refl g⟩
  | succ d ih =>
    intro k f g hk hf hK hA h
    obtain ⟨f, rfl⟩ : ∃ f', f = f' + 1 := ⟨f - 1, by omega⟩
    have h1 := (ha k (by omega)).1
    rw [fX12_laysVotes_25, size_eq hK, bndc_s, if_neg (nI_ge (by omega) (by omega))]
    refine Ev.k (ib_n (by omega) (by omega)) ?_
    rw [ix_n (by omega), hA k (by omega), i0 (by omega)]
    by_cases h2 : a k = 0
    · rw [if_pos h2, nI_1, bnd_e]
      refine ih (k + 1) f g (by omega) (by omega) hK hA (fun t ht => ?_)
      rw [h t ht]
      show nI (vtk b a t k) = nI (vtk b a t k + (if fcA (bN b) a k = t + 1 then bW b k else 0))
      rw [if_neg (by unfold fcA; rw [if_pos h2]; omega), Nat.add_zero]
    · have hf1 : fcA (bN b) a k = (k + a k) % bN b + 1 := by unfold fcA; rw [if_neg h2]
      have hlt : (k + a k) % bN b < bN b := Nat.mod_lt _ (by omega)
      rw [if_neg h2, faced_eq hw hK ha hA (show k < bN b by omega), bndc_s, hf1, pm_s, l_12, nI_add]
      refine Ev.k (ib_n (by omega) (by omega)) (Ev.k (ib_n (by omega) (by omega)) (Ev.k (ib_n (by omega) (by omega)) ?_))
      rw [bnd_e, nI_1, bnd_e, ix_n (by omega), ix_n (by omega), h _ hlt, hK.2.2.2.1 k (by omega), nI_add]
      refine (ih (k + 1) f (sA g 22 ((k + a k) % bN b) (nI (vtk b a ((k + a k) % bN b) k + bW b k))) (by omega) (by omega) hK hA (fun t ht => ?_)).mono ?_
      · show upd (g.2.1 22) ((k + a k) % bN b) _ t = nI (vtk b a t k + (if fcA (bN b) a k = t + 1 then bW b k else 0))
        rw [upd_j, hf1]
        by_cases e : t = (k + a k) % bN b
        · rw [if_pos e, if_pos (by omega), e]
        · rw [if_neg e, if_neg (by omega), h t ht, Nat.add_zero]
      · rintro q ⟨q1, q2⟩
        exact ⟨q1, ((fM.refl g).sA (by decide)).trans q2⟩
theorem laysVotes_lp0 (hw : wfB b) (ha : lk (bN b) a) : ∀ d k f (g : MS), k + d = bN b → d < f → KB b (g.2.1 0) → AR (bN b) a g → VR k (fun _ => 0) g → Ev (fX12_laysVotes_2 f g (nI k)) (fun g' => VR (bN b) (vt b a) g' ∧ fM [] [22] g g') := by
  have hn := hw.2.1
  intro d
  induction d with
  | zero =>
    intro k f g hk hf hK hA h
    obtain ⟨f, rfl⟩ : ∃ f', f = f' + 1 := ⟨f - 1, by omega⟩
    rw [fX12_laysVotes_2, size_eq hK, bndc_s, if_pos (nI_le (by omega) (by omega))]
    refine laysVotes_lp hw ha (bN b) 0 fuel g (by omega) (by unfold fuel; omega) hK hA ?_
    have hk : k = bN b := hk
    subst hk
    exact h
  | succ d ih =>
    intro k f g hk hf hK hA h
    obtain ⟨f, rfl⟩ : ∃ f', f = f' + 1 := ⟨f - 1, by omega⟩
    rw [fX12_laysVotes_2, size_eq hK, bndc_s, if_neg (nI_ge (by omega) (by omega))]
    refine Ev.k (ib_n (by omega) (by omega)) ?_
    rw [bnd_e, nI_1, bnd_e, ix_n (by omega)]
    refine (ih (k + 1) f (sA g 22 k 0) (by omega) (by omega) hK hA (fun m hm => ?_)).mono ?_
    · show upd (g.2.1 22) k _ m = _
      rw [upd_j]
      by_cases e : m = k
      · rw [if_pos e]; rfl
      · rw [if_neg e]; exact h m (by omega)
    · rintro q ⟨q1, q2⟩
      exact ⟨q1, ((fM.refl g).sA (by decide)).trans q2⟩
theorem laysVotes_eq (hw : wfB b) (hK : KB b (g.2.1 0)) (ha : lk (bN b) a) (hA : AR (bN b) a g) : Ev (fX12_laysVotes g) (fun g' => VR (bN b) (vt b a) g' ∧ fM [] [22] g g') := by
  have hn := hw.2.1
  exact laysVotes_lp0 hw ha (bN b) 0 fuel g (by omega) (by unfold fuel; omega) hK hA (fun m hm => absurd hm (Nat.not_lt_zero m))
theorem chF_ok (v : Nat → Nat) : ∀ k, (chF v k).1 ≤ k ∧ (chF v k).2 = (if (chF v k).1 = 0 then 0 else v ((chF v k).1 - 1))
  | 0 => ⟨Nat.le_refl 0, rfl⟩
  | k + 1 => by
    have ih := chF_ok v k
    unfold chF
    split
    · exact ⟨Nat.le_refl _, rfl⟩
    · exact ⟨by omega, ih.2⟩
theorem chairBy_lp (hw : wfB b) {v : Nat → Nat} (hv : ∀ m, m < bN b → v m ≤ 100) : ∀ d k f (g : MS), k + d = bN b → d < f → KB b (g.2.1 0) → VR (bN b) v g → Ev (fX12_chairBy_8 f g (pm (chF v k).1) (nI k)) (fun q => q.1 = pm (chF v (bN b)).1 ∧ q.2 = g) := by
  have hn := hw.2.1
  intro d
  induction d with
  | zero =>
    intro k f g hk hf hK h
    obtain ⟨f, rfl⟩ : ∃ f', f = f' + 1 := ⟨f - 1, by omega⟩
    rw [fX12_chairBy_8, size_eq hK, bndc_s, if_pos (nI_le (by omega) (by omega))]
    have hk : k = bN b := hk
    subst hk
    exact ev_some.mpr ⟨rfl, rfl⟩
  | succ d ih =>
    intro k f g hk hf hK h
    obtain ⟨f, rfl⟩ : ∃ f', f = f' + 1 := ⟨f - 1, by omega⟩
    obtain ⟨c1, c2⟩ := chF_ok v k
    have hvk := hv k (by omega)
    rw [fX12_chairBy_8, size_eq hK, bndc_s, if_neg (nI_ge (by omega) (by omega))]
    refine Ev.k (ib_n (by omega) (by omega)) ?_
    have h2 : (chF v k).2 ≤ 100 := by
      rw [c2]
      split
      · omega
      · exact hv _ (by omega)
    have fin : Ev (fX12_chairBy_37 (fX12_chairBy_8 f) g (pm (chF v k).1) (nI k) (nI (v k)) (nI (chF v k).2)) (fun q => q.1 = pm (chF v (bN b)).1 ∧ q.2 = g) := by
      unfold fX12_chairBy_37
      rw [iLE (by omega) (by omega), nI_1, bnd_e, bnd_e]
      have st := ih (k + 1) f g (by omega) (by omega) hK h
      by_cases h3 : v k ≤ (chF v k).2
      · rw [if_pos h3]
        have e : chF v (k + 1) = chF v k := if_neg (by omega)
        rw [e] at st
        exact st
      · rw [if_neg h3]
        have e : chF v (k + 1) = (k + 1, v k) := if_pos (by omega)
        rw [e] at st
        exact st
    rw [ix_n (by omega), h k (by omega)]
    by_cases h4 : (chF v k).1 = 0
    · rw [if_pos (by rw [h4]; rfl)]
      rw [c2, if_pos h4] at fin
      exact fin
    · rw [if_neg (by rw [pm_lt (by omega)]; exact h4)]
      have e : pm (chF v k).1 = nI ((chF v k).1 - 1) := by unfold pm; rw [if_neg h4]
      rw [c2, if_neg h4] at fin
      rw [e] at fin ⊢
      refine Ev.k (ib_n (by omega) (by omega)) ?_
      rw [ix_n (by omega), h _ (by omega)]
      exact fin
theorem chairBy_eq (hw : wfB b) (hK : KB b (g.2.1 0)) (ha : lk (bN b) a) (hA : AR (bN b) a g) : Ev (fX12_chairBy g) (fun q => q.1 = pm (chA b a) ∧ VR (bN b) (vt b a) q.2 ∧ fM [] [22] g q.2) := by
  have hn := hw.2.1
  unfold fX12_chairBy
  refine Ev.v (laysVotes_eq hw hK ha hA) ?_
  rintro g1 ⟨h1, h2⟩
  refine (chairBy_lp hw (v := vt b a) (fun m _ => by have := vt_le hw a m; omega) (bN b) 0 fuel g1 (by omega) (by unfold fuel; omega) (by rw [h2.row 0 (by decide)]; exact hK) h1).mono ?_
  rintro ⟨r, g2⟩ ⟨q1, q2⟩
  dsimp only at q1 q2
  subst q2
  exact ⟨q1, h1, h2⟩
theorem chairNow_eq (hw : wfB b) (hK : KB b (g.2.1 0)) : Ev (fX12_chairNow g) (fun q => q.1 = pm (chA b (bA b)) ∧ VR (bN b) (vt b (bA b)) q.2 ∧ AR (bN b) (bA b) q.2 ∧ fM [] [21, 22] g q.2) := by
  unfold fX12_chairNow
  refine Ev.v (aimsNow_eq hw hK) ?_
  rintro g1 ⟨h1, h2⟩
  refine Ev.c (chairBy_eq hw (by rw [h2.row 0 (by decide)]; exact hK) hw.2.2.1 h1) ?_
  rintro r g2 ⟨q1, q2, q3⟩
  refine ev_some.mpr ⟨q1, q2, fun m hm => ?_, (h2.mono (by decide) (by decide)).trans (q3.mono (by decide) (by decide))⟩
  show g2.2.1 21 m = _
  rw [q3.row 21 (by decide)]
  exact h1 m hm
end
