/-! ===== numbers in lanes ===== -/
def lnb (B : Nat) (a : Nat → Nat) : Nat → Nat
  | 0 => 0
  | k + 1 => lnb B a k + a k * B ^ k
theorem lnb_cong {B : Nat} {a b : Nat → Nat} : ∀ {k : Nat}, (∀ j, j < k → a j = b j) → lnb B a k = lnb B b k
  | 0, _ => rfl
  | k + 1, h => by show lnb B a k + a k * B ^ k = lnb B b k + b k * B ^ k; rw [lnb_cong (fun j hj => h j (by omega)), h k (by omega)]
theorem lnb_lt {B : Nat} (hB : 0 < B) {a : Nat → Nat} : ∀ {k : Nat}, (∀ j, j < k → a j < B) → lnb B a k < B ^ k
  | 0, _ => Nat.lt_of_lt_of_eq Nat.zero_lt_one (Nat.pow_zero B).symm
  | k + 1, h => by
    have ih := lnb_lt hB (k := k) (fun j hj => h j (by omega))
    have h1 : a k + 1 ≤ B := h k (by omega)
    have h2 : (a k + 1) * B ^ k ≤ B * B ^ k := Nat.mul_le_mul_right _ h1
    rw [Nat.add_mul, Nat.one_mul] at h2
    rw [Nat.pow_succ, Nat.mul_comm]
    show lnb B a k + a k * B ^ k < B * B ^ k
    omega
theorem lnb_upd {B : Nat} {a : Nat → Nat} {x m : Nat} : ∀ {k : Nat}, m < k → lnb B (fun j => if j = m then a m + x else a j) k = lnb B a k + x * B ^ m
  | 0, h => absurd h (Nat.not_lt_zero m)
  | k + 1, h => by
    show lnb B _ k + (if k = m then a m + x else a k) * B ^ k = lnb B a k + a k * B ^ k + x * B ^ m
    by_cases e : k = m
    · subst e
      rw [if_pos rfl, lnb_cong (b := a) (fun j hj => if_neg (by omega)), Nat.add_mul, Nat.add_assoc]
    · rw [if_neg e, lnb_upd (k := k) (by omega)]
      omega
theorem lnb_shift {B : Nat} {a : Nat → Nat} : ∀ {k : Nat}, lnb B a (k + 1) = a 0 + B * lnb B (fun j => a (j + 1)) k
  | 0 => by show 0 + a 0 * B ^ 0 = a 0 + B * 0; rw [Nat.pow_zero]; omega
  | k + 1 => by
    show lnb B a (k + 1) + a (k + 1) * B ^ (k + 1) = a 0 + B * (lnb B (fun j => a (j + 1)) k + a (k + 1) * B ^ k)
    rw [lnb_shift (k := k), Nat.pow_succ, Nat.mul_add, Nat.add_assoc]
    congr 2
    rw [← Nat.mul_assoc]
    exact Nat.mul_comm _ _
theorem lnb_at {B : Nat} (hB : 0 < B) : ∀ {k m : Nat} {a : Nat → Nat}, (∀ j, j < k → a j < B) → m < k → lnb B a k / B ^ m % B = a m
  | 0, m, _, _, h => absurd h (Nat.not_lt_zero m)
  | k + 1, 0, a, h, _ => by rw [lnb_shift, Nat.pow_zero, Nat.div_one, Nat.add_mul_mod_self_left, Nat.mod_eq_of_lt (h 0 (by omega))]
  | k + 1, m + 1, a, h, hm => by
    rw [lnb_shift, Nat.pow_succ, Nat.mul_comm (B ^ m), ← Nat.div_div_eq_div_mul, Nat.add_mul_div_left _ _ hB, Nat.div_eq_of_lt (h 0 (by omega)), Nat.zero_add]
    exact lnb_at hB (a := fun j => a (j + 1)) (fun j hj => h (j + 1) (by omega)) (by omega)
abbrev l6 (a : Nat → Nat) : Nat := lnb 16 a 6
theorem l6_x (a : Nat → Nat) : l6 a = a 0 + a 1 * 16 + a 2 * 256 + a 3 * 4096 + a 4 * 65536 + a 5 * 1048576 := by
  simp only [l6, lnb]
  omega
theorem l6_lt {a : Nat → Nat} (h : ∀ j, j < 6 → a j < 16) : l6 a < 16777216 := lnb_lt (by omega) h
theorem l6_at {a : Nat → Nat} {m : Nat} (h : ∀ j, j < 6 → a j < 16) (hm : m < 6) : l6 a / 16 ^ m % 16 = a m := lnb_at (by omega) h hm
theorem l6_inj {a b : Nat → Nat} (ha : ∀ j, j < 6 → a j < 16) (hb : ∀ j, j < 6 → b j < 16) : l6 a = l6 b ↔ ∀ m, m < 6 → a m = b m :=
  ⟨fun e m hm => by rw [← l6_at ha hm, ← l6_at hb hm, e], fun h => lnb_cong h⟩
theorem lnb_tb {a : Nat → Nat} : ∀ {k : Nat}, (∀ j, j < k → a j < 16) → ∀ i, (lnb 16 a k).testBit i = (decide (i < 4 * k) && (a (i / 4)).testBit (i % 4))
  | 0, _, i => by simp [lnb]
  | k + 1, h, i => by
    have ih := lnb_tb (k := k) (fun j hj => h j (by omega)) i
    have hl : lnb 16 a k < 2 ^ (4 * k) := by
      have := lnb_lt (B := 16) (by omega) (k := k) (fun j hj => h j (by omega))
      rw [show (16 : Nat) = 2 ^ 4 from rfl, ← Nat.pow_mul] at this
      exact this
    have e : lnb 16 a (k + 1) = 2 ^ (4 * k) * a k + lnb 16 a k := by
      show lnb 16 a k + a k * 16 ^ k = _
      rw [show (16 : Nat) = 2 ^ 4 from rfl, ← Nat.pow_mul, Nat.mul_comm (a k), Nat.add_comm]
    rw [e, Nat.testBit_two_pow_mul_add _ hl]
    by_cases h1 : i < 4 * k
    · rw [if_pos h1, ih, decide_eq_true h1, decide_eq_true (show i < 4 * (k + 1) by omega)]
    · rw [if_neg h1]
      by_cases h2 : i < 4 * (k + 1)
      · rw [decide_eq_true h2, Bool.true_and, show i / 4 = k by omega, show i % 4 = i - 4 * k by omega]
      · rw [decide_eq_false h2, Bool.false_and]
        exact Nat.testBit_lt_two_pow (Nat.lt_of_lt_of_le (h k (by omega)) (by
          rw [show (16 : Nat) = 2 ^ 4 from rfl]
          exact Nat.pow_le_pow_right (by omega) (by omega)))
theorem and_lt16 {a b : Nat} (h : a < 16) : a &&& b < 16 := Nat.lt_of_le_of_lt Nat.and_le_left h
theorem l6_and {a b : Nat → Nat} (ha : ∀ j, j < 6 → a j < 16) (hb : ∀ j, j < 6 → b j < 16) : l6 a &&& l6 b = l6 (fun m => a m &&& b m) := by
  apply Nat.eq_of_testBit_eq
  intro i
  rw [Nat.testBit_and, lnb_tb ha, lnb_tb hb, lnb_tb (fun j hj => and_lt16 (ha j hj)), Nat.testBit_and]
  cases decide (i < 4 * 6) <;> simp
theorem l6_or {a b : Nat → Nat} (ha : ∀ j, j < 6 → a j < 16) (hb : ∀ j, j < 6 → b j < 16) (hab : ∀ j, j < 6 → a j ||| b j < 16) : l6 a ||| l6 b = l6 (fun m => a m ||| b m) := by
  apply Nat.eq_of_testBit_eq
  intro i
  rw [Nat.testBit_or, lnb_tb ha, lnb_tb hb, lnb_tb hab, Nat.testBit_or]
  cases decide (i < 4 * 6) <;> simp
/-! ===== shifts of small naturals ===== -/
theorem sh_l : ∀ n, n < 32 → ((nI n &&& 31).toBitVec.smod 32).toNat = n := s_l
theorem jshl_n {a k : Nat} (hk : k < 32) (h : a * 2 ^ k < 2 ^ 32) : jshl (nI a) (nI k) = nI (a * 2 ^ k) := pk_shlN _ k (s_l k hk) h
theorem jshr_n {a k : Nat} (hk : k < 32) (h : a < 2 ^ 31) : jshr (nI a) (nI k) = nI (a / 2 ^ k) := pk_shrN h _ k (s_l k hk)
theorem jush_n {a k : Nat} (hk : k < 32) (h : a < 2 ^ 32) : jush (nI a) (nI k) = nI (a / 2 ^ k) := pk_ushrN h _ k (s_u k hk)
theorem and15 (n : Nat) : nI n &&& (15 : Int32) = nI (n % 16) := fa_mask n 4
theorem and1 (n : Nat) : nI n &&& (1 : Int32) = nI (n % 2) := fa_mask n 1
theorem and255 (n : Nat) : nI n &&& (255 : Int32) = nI (n % 256) := fa_mask n 8
theorem p4 (m : Nat) : 2 ^ (4 * m) = 16 ^ m := by rw [Nat.pow_mul]
theorem p8 (m : Nat) : 2 ^ (8 * m) = 256 ^ m := by rw [Nat.pow_mul]
theorem sh4 {m : Nat} (hm : m < 8) : jshl (nI m) (2 : Int32) = nI (4 * m) := by rw [l_2, jshl_n (by omega) (by omega)]; congr 1; omega
theorem sh8 {m : Nat} (hm : m < 8) : jshl (nI m) (3 : Int32) = nI (8 * m) := by rw [l_3, jshl_n (by omega) (by omega)]; congr 1; omega
theorem at_eq {x m : Nat} (hx : x < 2 ^ 31) (hm : m < 8) : fX1_at (nI x) (nI m) = some (nI (x / 16 ^ m % 16)) := by
  unfold fX1_at
  rw [sh4 hm, jush_n (by omega) (by omega), p4, and15]
theorem at_l6 {a : Nat → Nat} {m : Nat} (h : ∀ j, j < 6 → a j < 16) (hm : m < 6) : fX1_at (nI (l6 a)) (nI m) = some (nI (a m)) := by
  rw [at_eq (by have := l6_lt h; omega) (by omega), l6_at h hm]
theorem bt_n (x i : Nat) (hi : i < 32) : bt (nI x) i = x.testBit i := by
  unfold bt nI
  rw [Int32.toBitVec_ofNat', BitVec.getLsbD_ofNat, decide_eq_true hi, Bool.true_and]
theorem bt_not (x : Int32) {i : Nat} (hi : i < 32) : bt (x ^^^ (-1 : Int32)) i = !bt x i := by rw [b_xor, b_m1 i hi, Bool.xor_true]
theorem with_l6 {a : Nat → Nat} {m v : Nat} (h : ∀ j, j < 6 → a j < 16) (hm : m < 6) (hv : v < 16) : fX1_with (nI (l6 a)) (nI m) (nI v) = some (nI (l6 (fun j => if j = m then v else a j))) := by
  unfold fX1_with
  rw [sh4 (by omega), bnd_e, and15, Nat.mod_eq_of_lt hv]
  congr 1
  have h2 : ∀ j, j < 6 → (if j = m then v else a j) < 16 := fun j hj => by split; exact hv; exact h j hj
  have e1 : ∀ w, w < 16 → jshl (nI w) (nI (4 * m)) = nI (w * 16 ^ m) := fun w hw => by
    have h5 : (16 : Nat) ^ m ≤ 16 ^ 5 := Nat.pow_le_pow_right (by omega) (by omega)
    have h6 : w * 16 ^ m ≤ 15 * 16 ^ 5 := Nat.mul_le_mul (by omega) h5
    rw [jshl_n (by omega) (by rw [p4]; omega), p4]
  have e2 : ∀ (w i : Nat), w < 16 → i < 32 → (w * 16 ^ m).testBit i = (decide (4 * m ≤ i) && decide (i < 4 * m + 4) && w.testBit (i - 4 * m)) := by
    intro w i hw hi
    rw [← p4, Nat.mul_comm, Nat.testBit_two_pow_mul]
    by_cases h1 : 4 * m ≤ i
    · by_cases h3 : i < 4 * m + 4
      · simp [h1, h3]
      · have : w.testBit (i - 4 * m) = false := Nat.testBit_lt_two_pow (Nat.lt_of_lt_of_le hw (by
          rw [show (16 : Nat) = 2 ^ 4 from rfl]
          exact Nat.pow_le_pow_right (by omega) (by omega)))
        simp [h1, h3, this]
    · simp [h1]
  apply b_ext
  intro i hi
  rw [b_or, b_and, bt_n _ _ hi, bt_n _ _ hi, lnb_tb h2, l_15, e1 15 (by omega), e1 v hv, bt_not _ hi, bt_n _ _ hi, bt_n _ _ hi, lnb_tb h, e2 15 i (by omega) hi, e2 v i hv hi]
  by_cases h1 : 4 * m ≤ i ∧ i < 4 * m + 4
  · have e3 : i / 4 = m := by omega
    have e4 : i - 4 * m = i % 4 := by omega
    have e5 : (15 : Nat).testBit (i % 4) = true := by
      rcases (show i % 4 = 0 ∨ i % 4 = 1 ∨ i % 4 = 2 ∨ i % 4 = 3 by omega) with q | q | q | q <;> rw [q] <;> decide
    rw [e3, e4, e5, if_pos rfl]
    simp [h1.1, h1.2]
    intro _
    omega
  · have e3 : i / 4 ≠ m := by omega
    rw [if_neg e3]
    have e6 : (decide (4 * m ≤ i) && decide (i < 4 * m + 4)) = false := by
      rw [Bool.and_eq_false_iff, decide_eq_false_iff_not, decide_eq_false_iff_not]
      omega
    rw [e6]
    simp
/-- the lanes of two looks, each round the members -/
theorem plus_l6 {a b : Nat → Nat} {n : Nat} (hn : 2 ≤ n) (hn6 : n ≤ 6) (ha : ∀ m, m < 6 → a m ≤ n - 1) (hb : ∀ m, m < 6 → b m ≤ n - 1) (h0 : ∀ m, m < 6 → n ≤ m → a m = 0 ∧ b m = 0) : fX1_plus (nI (l6 a)) (nI (l6 b)) (nI n) = some (nI (l6 (fun m => (a m + b m) % n))) := by
  unfold fX1_plus
  have la := l6_lt (a := a) (fun j hj => by have := ha j hj; omega)
  have lb := l6_lt (a := b) (fun j hj => by have := hb j hj; omega)
  have s : l6 a + l6 b = l6 (fun m => a m + b m) := by simp only [l6_x]; omega
  have hab : ∀ m, m < 6 → a m + b m ≤ 2 * n - 2 := fun m hm => by have := ha m hm; have := hb m hm; omega
  rw [nI_add, bnd_e, l_8, l_1118481, l_8947848, l_3, pk_sub (by omega), pk_mul, nI_add]
  have e1 : l6 a + l6 b + (8 - n) * 1118481 = l6 (fun m => a m + b m + (8 - n)) := by
    rw [s]
    simp only [l6_x]
    omega
  have e2 : (8947848 : Nat) = l6 (fun _ => 8) := by rw [l6_x]
  rw [e1, fa_and, e2, l6_and (fun j hj => by have := hab j hj; omega) (fun _ _ => by omega)]
  have e3 : l6 (fun m => (a m + b m + (8 - n)) &&& 8) = 8 * l6 (fun m => if n ≤ a m + b m then 1 else 0) := by
    have key : ∀ m, m < 6 → ((a m + b m + (8 - n)) &&& 8) = 8 * (if n ≤ a m + b m then 1 else 0) := by
      intro m hm
      have h1 := hab m hm
      have dec : ∀ x, x < 16 → (x &&& 8) = if 8 ≤ x then 8 else 0 := by decide
      rw [dec _ (by omega)]
      by_cases h2 : n ≤ a m + b m
      · rw [if_pos h2, if_pos (by omega)]
      · rw [if_neg h2, if_neg (by omega)]
    rw [l6_x, l6_x, key 0 (by omega), key 1 (by omega), key 2 (by omega), key 3 (by omega), key 4 (by omega), key 5 (by omega)]
    omega
  have lo : l6 (fun m => if n ≤ a m + b m then 1 else 0) < 16777216 := l6_lt (fun j _ => by split <;> omega)
  rw [e3, jush_n (by omega) (by omega), bnd_e, show 8 * l6 (fun m => if n ≤ a m + b m then 1 else 0) / 2 ^ 3 = l6 (fun m => if n ≤ a m + b m then 1 else 0) by omega, pk_mul]
  have key2 : ∀ m, m < 6 → (a m + b m) % n + n * (if n ≤ a m + b m then 1 else 0) = a m + b m := by
    intro m hm
    have h1 := ha m hm
    have h2 := hb m hm
    by_cases h3 : n ≤ a m + b m
    · rw [if_pos h3, Nat.mul_one, Nat.mod_eq_sub_mod h3, Nat.mod_eq_of_lt (by omega)]
      omega
    · rw [if_neg h3, Nat.mod_eq_of_lt (by omega)]
      omega
  have e4 : l6 a + l6 b = l6 (fun m => (a m + b m) % n) + l6 (fun m => if n ≤ a m + b m then 1 else 0) * n := by
    rw [s, l6_x, l6_x, l6_x]
    have k0 := key2 0 (by omega)
    have k1 := key2 1 (by omega)
    have k2 := key2 2 (by omega)
    have k3 := key2 3 (by omega)
    have k4 := key2 4 (by omega)
    have k5 := key2 5 (by omega)
    rcases (show n = 2 ∨ n = 3 ∨ n = 4 ∨ n = 5 ∨ n = 6 by omega) with q | q | q | q | q <;> subst q <;> omega
  rw [pk_sub (by omega), e4, Nat.add_sub_cancel]
