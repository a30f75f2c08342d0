/-! ===== rows of notches, in their order ===== -/
theorem lpf_cong {α : Type} {f g : Nat → α → α} : ∀ {n : Nat} {x : α}, (∀ k y, k < n → f k y = g k y) → lpf f n x = lpf g n x
  | 0, _, _ => rfl
  | n + 1, x, h => by
    show f n (lpf f n x) = g n (lpf g n x)
    rw [lpf_cong (fun k y hk => h k y (by omega)), h n _ (by omega)]
theorem lpf_add {α : Type} (f : Nat → α → α) (m : Nat) : ∀ (n : Nat) (x : α), lpf f (m + n) x = lpf (fun i => f (m + i)) n (lpf f m x)
  | 0, _ => rfl
  | n + 1, x => by
    show f (m + n) (lpf f (m + n) x) = f (m + n) (lpf (fun i => f (m + i)) n (lpf f m x))
    rw [lpf_add f m n x]
theorem lpf_mul {α : Type} (f : Nat → α → α) (N : Nat) : ∀ (K : Nat) (x : α), lpf f (K * N) x = lpf (fun k y => lpf (fun i => f (k * N + i)) N y) K x
  | 0, x => by rw [Nat.zero_mul]; rfl
  | K + 1, x => by
    rw [Nat.succ_mul, lpf_add, lpf_mul f N K x]
    rfl
def upN (v : Nat → Nat) (m k : Nat) : Nat → Nat := fun j => if j = m then k else v j
/-- how many of the last d members are free -/
def fD (b : AB) : Nat → Nat
  | 0 => 0
  | d + 1 => fD b d + (if stk b (bN b - (d + 1)) then 0 else 1)
/-- the i-th row of notches -/
def rwA (b : AB) (i m : Nat) : Nat := if m < bN b ∧ stk b m = false then i / bN b ^ fD b (bN b - 1 - m) % bN b else 0
def nR (b : AB) : Nat := bN b ^ fD b (bN b)
theorem fD_le (b : AB) : ∀ d, fD b d ≤ d
  | 0 => Nat.le_refl 0
  | d + 1 => by have := fD_le b d; unfold fD; split <;> omega
theorem fD_mono (b : AB) {d e : Nat} (h : d ≤ e) : fD b d ≤ fD b e := by
  induction e with
  | zero => have : d = 0 := by omega
            subst this; exact Nat.le_refl _
  | succ e ih =>
    by_cases h1 : d = e + 1
    · subst h1; exact Nat.le_refl _
    · have := ih (by omega)
      show fD b d ≤ fD b e + _
      omega
theorem rwA_lt {b : AB} (hw : wfB b) (i m : Nat) : rwA b i m < bN b := by
  have := hw.1
  unfold rwA
  split
  · exact Nat.mod_lt _ (by omega)
  · omega
theorem nR_le {b : AB} (hw : wfB b) : nR b ≤ 46656 := by
  have h1 : bN b ^ fD b (bN b) ≤ bN b ^ bN b := Nat.pow_le_pow_right (by have := hw.1; omega) (fD_le b _)
  have h2 : ∀ n, n ≤ 6 → n ^ n ≤ 46656 := by decide
  exact Nat.le_trans h1 (h2 _ hw.2.1)
theorem nR_pos {b : AB} (hw : wfB b) : 0 < nR b := Nat.pow_pos (by have := hw.1; omega)
/-- the reference's way through all rows -/
def grF {α : Type} (b : AB) (step : (Nat → Nat) → α → α) : Nat → (Nat → Nat) → α → α
  | 0, v, a => step v a
  | d + 1, v, a => lpf (fun k y => grF b step d (upN v (bN b - (d + 1)) k) y) (if stk b (bN b - (d + 1)) then 1 else bN b) a
/-- the first members' notches as told, the last d members' by a number -/
def mixR (b : AB) (d : Nat) (v : Nat → Nat) (i : Nat) : Nat → Nat := fun j => if j + d < bN b then v j else rwA b i j
theorem dig_hi {n N k i : Nat} (hi : i < N) (hk : k < n) : (k * N + i) / N % n = k := by
  rw [Nat.mul_comm, Nat.mul_add_div (by omega), Nat.div_eq_of_lt hi, Nat.add_zero, Nat.mod_eq_of_lt hk]
theorem dig_lo {n e F k i : Nat} (hn : 0 < n) (he : e < F) : (k * n ^ F + i) / n ^ e % n = i / n ^ e % n := by
  have h1 : n ^ F = n ^ e * (n * n ^ (F - e - 1)) := by
    rw [← Nat.pow_succ', ← Nat.pow_add]
    congr 1
    omega
  rw [h1, Nat.mul_comm k, Nat.mul_assoc, Nat.mul_add_div (Nat.pow_pos hn), Nat.mul_assoc, Nat.add_comm, Nat.add_mul_mod_self_left]
theorem gr_eq {α : Type} {b : AB} (hw : wfB b) (step : (Nat → Nat) → α → α) (hs : ∀ v w a, (∀ j, j < bN b → v j = w j) → step v a = step w a) : ∀ d v a, d ≤ bN b → grF b step d v a = lpf (fun i y => step (mixR b d v i) y) (bN b ^ fD b d) a
  | 0, v, a, _ => by
    show step v a = step (mixR b 0 v 0) a
    refine hs _ _ _ (fun j hj => ?_)
    unfold mixR
    rw [if_pos (by omega)]
  | d + 1, v, a, hd => by
    have hn := hw.1
    unfold grF
    have hm : bN b - (d + 1) < bN b := by omega
    have he : bN b - 1 - (bN b - (d + 1)) = d := by omega
    cases hst : stk b (bN b - (d + 1)) with
    | true =>
      rw [if_pos rfl]
      show grF b step d (upN v (bN b - (d + 1)) 0) a = _
      rw [gr_eq hw step hs d _ a (by omega)]
      have eF : fD b (d + 1) = fD b d := by
        show fD b d + _ = _
        rw [hst, if_pos rfl, Nat.add_zero]
      rw [eF]
      refine lpf_cong (fun i y hi => hs _ _ _ (fun j hj => ?_))
      unfold mixR upN
      by_cases h1 : j + d < bN b
      · rw [if_pos h1]
        by_cases h2 : j = bN b - (d + 1)
        · rw [if_pos h2, if_neg (by omega)]
          unfold rwA
          rw [h2, hst, if_neg (by simp)]
        · rw [if_neg h2, if_pos (by omega)]
      · rw [if_neg h1, if_neg (by omega)]
    | false =>
      rw [if_neg (by decide)]
      have eF : fD b (d + 1) = fD b d + 1 := by
        show fD b d + _ = _
        rw [hst, if_neg (by decide)]
      rw [eF, Nat.pow_succ, Nat.mul_comm, lpf_mul]
      refine lpf_cong (fun k y hk => ?_)
      rw [gr_eq hw step hs d _ y (by omega)]
      refine lpf_cong (fun i z hi => hs _ _ _ (fun j hj => ?_))
      unfold mixR upN
      by_cases h1 : j + d < bN b
      · rw [if_pos h1]
        by_cases h2 : j = bN b - (d + 1)
        · rw [if_pos h2, if_neg (by omega)]
          unfold rwA
          rw [h2, if_pos ⟨hm, hst⟩, he, dig_hi hi hk]
        · rw [if_neg h2, if_pos (by omega)]
      · rw [if_neg h1, if_neg (by omega)]
        unfold rwA
        by_cases h3 : stk b j = false
        · rw [if_pos ⟨hj, h3⟩, if_pos ⟨hj, h3⟩]
          have hlt : fD b (bN b - 1 - j) < fD b d := by
            have h4 : fD b (bN b - 1 - j + 1) ≤ fD b d := fD_mono b (by omega)
            have h5 : fD b (bN b - 1 - j + 1) = fD b (bN b - 1 - j) + (if stk b (bN b - (bN b - 1 - j + 1)) then 0 else 1) := rfl
            rw [show bN b - (bN b - 1 - j + 1) = j by omega, h3, if_neg (by decide)] at h5
            omega
          rw [dig_lo (by omega) hlt]
        · rw [if_neg (fun z => h3 z.2), if_neg (fun z => h3 z.2)]
/-! what a row makes -/
def bhA (b : AB) (v : Nat → Nat) : Nat → Nat := fun j => (bA b j + fb_sm (fun m => if alA b m j = true ∧ j < bN b then v m else 0) (bN b)) % bN b
def csA (b : AB) (v : Nat → Nat) : Nat := fb_sm (fun m => prA b m * v m) (bN b)
def mvA (b : AB) (v : Nat → Nat) : Nat := bs (fun m => decide (0 < v m)) (bN b)
theorem bhA_lk {b : AB} (hw : wfB b) (v : Nat → Nat) : lk (bN b) (bhA b v) := fun m hm => ⟨Nat.mod_lt _ (by have := hw.1; omega), fun h => by
  show (bA b m + fb_sm (fun i => if alA b i m = true ∧ m < bN b then v i else 0) (bN b)) % bN b = 0
  rw [fb_sm_cong (g := fun _ => 0) (fun k _ => if_neg (by omega)), fb_sm_const, Nat.mul_zero, (hw.2.2.1 m hm).2 h, Nat.add_zero, Nat.zero_mod]⟩
theorem bhA_cong {b : AB} {v w : Nat → Nat} (h : ∀ j, j < bN b → v j = w j) : bhA b v = bhA b w := by
  funext j
  unfold bhA
  rw [fb_sm_cong (fun k hk => by rw [h k hk])]
theorem csA_cong {b : AB} {v w : Nat → Nat} (h : ∀ j, j < bN b → v j = w j) : csA b v = csA b w := fb_sm_cong (fun k hk => by rw [h k hk])
theorem mvA_cong {b : AB} {v w : Nat → Nat} (h : ∀ j, j < bN b → v j = w j) : mvA b v = mvA b w := lnb_cong (fun k hk => by show (decide (0 < v k)).toNat = (decide (0 < w k)).toNat; rw [h k hk])
theorem csA_le {b : AB} (hw : wfB b) {v : Nat → Nat} (hv : ∀ j, j < bN b → v j < bN b) : csA b v ≤ 2970 := by
  have h6 := hw.2.1
  have h1 : csA b v ≤ bN b * 495 := fb_sm_bound (fun k hk => by
    have := (prA_rng b k).2
    have := hv k hk
    calc prA b k * v k ≤ 99 * 5 := Nat.mul_le_mul (by omega) (by omega)
      _ = 495 := rfl)
  have : bN b * 495 ≤ 6 * 495 := Nat.mul_le_mul_right _ h6
  omega
/-! one notch more -/
theorem sm_upN (f : Nat → Nat → Nat) (v : Nat → Nat) {m x n : Nat} (hm : m < n) : fb_sm (fun k => f k (upN v m x k)) n + f m (v m) = fb_sm (fun k => f k (v k)) n + f m x := by
  have := fb_sm_upd (fun k => f k (v k)) (f m x) (i := m) (n := n) hm
  rw [← this]
  congr 1
  refine fb_sm_cong (fun k _ => ?_)
  unfold upN
  by_cases e : k = m
  · rw [if_pos e, if_pos e, e]
  · rw [if_neg e, if_neg e]
theorem add_mod_n (a n : Nat) : (a + n) % n = a % n := Nat.add_mod_right a n
/-- a look behind one notch more of m, its round closed behind the last -/
theorem bhA_up {b : AB} (hw : wfB b) {v : Nat → Nat} {m x : Nat} (hm : m < bN b) (hx : x = v m + 1 ∨ (v m + 1 = bN b ∧ x = 0)) (j : Nat) : bhA b (upN v m x) j = (bhA b v j + (if alA b m j = true ∧ j < bN b then 1 else 0)) % bN b := by
  have h0 : 0 < bN b := by have := hw.1; omega
  unfold bhA
  have e := sm_upN (fun k y => if alA b k j = true ∧ j < bN b then y else 0) v (x := x) hm
  rw [Nat.mod_add_mod]
  by_cases h : alA b m j = true ∧ j < bN b
  · rw [if_pos h, if_pos h] at e
    rw [if_pos h]
    rcases hx with q | ⟨q1, q2⟩
    · congr 1
      omega
    · rw [← add_mod_n]
      congr 1
      omega
  · rw [if_neg h, if_neg h] at e
    rw [if_neg h]
    congr 1
    omega
/-! the row behind a row -/
theorem row_carry {n e i : Nat} (hn : 2 ≤ n) (h : i % n ^ e = n ^ e - 1) : (i + 1) / n ^ e = i / n ^ e + 1 ∧ (i + 1) % n ^ e = 0 := by
  have hp : 0 < n ^ e := Nat.pow_pos (by omega)
  have d := Nat.div_add_mod i (n ^ e)
  have e1 : i + 1 = n ^ e * (i / n ^ e + 1) := by rw [Nat.mul_add, Nat.mul_one]; omega
  rw [e1]
  exact ⟨Nat.mul_div_cancel_left _ hp, Nat.mul_mod_right _ _⟩
theorem row_low {n e k i : Nat} (hn : 2 ≤ n) (h : i % n ^ e = 0) (hk : k < e) : i / n ^ k % n = 0 := by
  have d := Nat.div_add_mod i (n ^ e)
  have h1 : n ^ e = n ^ k * (n * n ^ (e - k - 1)) := by
    rw [← Nat.pow_succ', ← Nat.pow_add]
    congr 1
    omega
  have e1 : i = n ^ k * (n * n ^ (e - k - 1) * (i / n ^ e)) := by rw [← Nat.mul_assoc, ← h1]; omega
  rw [e1, Nat.mul_div_cancel_left _ (Nat.pow_pos (by omega)), Nat.mul_assoc, Nat.mul_mod_right]
theorem row_high {n e k i : Nat} (hn : 2 ≤ n) (h : (i + 1) / n ^ e = i / n ^ e + 1) (hd : i / n ^ e % n < n - 1) (hk : e < k) : (i + 1) / n ^ k = i / n ^ k := by
  have h1 : n ^ k = n ^ e * n * n ^ (k - e - 1) := by
    rw [← Nat.pow_succ, ← Nat.pow_add]
    congr 1
    omega
  rw [h1, ← Nat.div_div_eq_div_mul, ← Nat.div_div_eq_div_mul, ← Nat.div_div_eq_div_mul, ← Nat.div_div_eq_div_mul, h]
  congr 1
  generalize i / n ^ e = t at hd
  have d := Nat.div_add_mod t n
  have e1 : t + 1 = n * (t / n) + (t % n + 1) := by omega
  rw [e1, Nat.mul_add_div (by omega), Nat.div_eq_of_lt (show t % n + 1 < n by omega), Nat.add_zero]
theorem row_next {n e i : Nat} (hn : 2 ≤ n) (h : i % n ^ e = n ^ e - 1) (hd : i / n ^ e % n = n - 1) : i % n ^ (e + 1) = n ^ (e + 1) - 1 := by
  have hp : 0 < n ^ e := Nat.pow_pos (by omega)
  rw [Nat.pow_succ, Nat.mod_mul, h, hd]
  have : n ^ e * (n - 1) = n ^ e * n - n ^ e := by rw [Nat.mul_sub, Nat.mul_one]
  rw [this]
  have : n ^ e * 1 ≤ n ^ e * n := Nat.mul_le_mul_left _ (by omega)
  omega
theorem row_digit {n e i : Nat} (hn : 2 ≤ n) (h : (i + 1) / n ^ e = i / n ^ e + 1) : (i + 1) / n ^ e % n = if i / n ^ e % n < n - 1 then i / n ^ e % n + 1 else 0 := by
  rw [h]
  generalize i / n ^ e = t
  have hl : t % n < n := Nat.mod_lt _ (by omega)
  rw [Nat.add_mod, Nat.mod_eq_of_lt (show 1 < n by omega)]
  split
  · exact Nat.mod_eq_of_lt (by omega)
  · rw [show t % n + 1 = n by omega, Nat.mod_self]
/-! the best, the many -/
def bstF (p : Nat → Bool) (c : Nat → Nat) : Nat → Nat
  | 0 => 0
  | k + 1 => if p k = true ∧ (bstF p c k = 0 ∨ c k < c (bstF p c k - 1)) then k + 1 else bstF p c k
theorem bstF_le (p : Nat → Bool) (c : Nat → Nat) : ∀ k, bstF p c k ≤ k
  | 0 => Nat.le_refl 0
  | k + 1 => by have := bstF_le p c k; unfold bstF; split <;> omega
theorem bstF_cong {p q : Nat → Bool} {c d : Nat → Nat} : ∀ {k : Nat}, (∀ j, j < k → p j = q j ∧ c j = d j) → bstF p c k = bstF q d k
  | 0, _ => rfl
  | k + 1, h => by
    have ih := bstF_cong (k := k) (fun j hj => h j (by omega))
    have l := bstF_le q d k
    unfold bstF
    rw [ih, (h k (by omega)).1, (h k (by omega)).2]
    by_cases e : bstF q d k = 0
    · simp only [e, true_or]
    · rw [(h (bstF q d k - 1) (by omega)).2]
/-- the best helpers: fewest, then least -/
def pcN (x : Nat) : Nat := fb_ct (fun j => x.testBit j) 6
def hlpF (p : Nat → Bool) (s : Nat → Nat) : Nat → Nat
  | 0 => 0
  | k + 1 => if p k = true ∧ (hlpF p s k = 0 ∨ pcN (s k) < pcN (hlpF p s k - 1) ∨ (pcN (s k) = pcN (hlpF p s k - 1) ∧ s k < hlpF p s k - 1)) then s k + 1 else hlpF p s k
/-- most knees, then least cost -/
def knF (t c : Nat → Nat) : Nat → Nat
  | 0 => 0
  | k + 1 => if knF t c k = 0 ∨ t (knF t c k - 1) < t k ∨ (t k = t (knF t c k - 1) ∧ c k < c (knF t c k - 1)) then k + 1 else knF t c k
theorem knF_le (t c : Nat → Nat) : ∀ k, knF t c k ≤ k
  | 0 => Nat.le_refl 0
  | k + 1 => by have := knF_le t c k; unfold knF; split <;> omega
theorem knF_pos (t c : Nat → Nat) : ∀ k, 0 < k → 0 < knF t c k
  | 0, h => absurd h (by omega)
  | k + 1, _ => by
    unfold knF
    split
    · omega
    · rename_i h
      rcases Nat.eq_zero_or_pos (knF t c k) with q | q
      · exact absurd (Or.inl q) h
      · exact q
theorem hlpF_le {p : Nat → Bool} {s : Nat → Nat} {B : Nat} (h : ∀ k, s k < B) : ∀ k, hlpF p s k ≤ B
  | 0 => Nat.zero_le _
  | k + 1 => by
    have := hlpF_le (p := p) h k
    unfold hlpF
    split
    · exact h k
    · exact this
