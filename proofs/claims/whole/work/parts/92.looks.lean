/-! ===== counting: injections, codes, first ones ===== -/
theorem inj_ct {p : Nat → Bool} {σ : Nat → Nat} : ∀ {N M : Nat} {q : Nat → Bool}, (∀ i, i < N → p i = true → σ i < M ∧ q (σ i) = true) → (∀ i k, i < N → k < N → p i = true → p k = true → σ i = σ k → i = k) → fb_ct p N ≤ fb_ct q M
  | 0, _, _, _, _ => Nat.zero_le _
  | N + 1, M, q, h, hi => by
    rw [fb_ct_succ]
    cases hp : p N with
    | false =>
      have ih := inj_ct (N := N) (M := M) (q := q) (fun i h1 h2 => h i (by omega) h2) (fun i k h1 h2 => hi i k (by omega) (by omega))
      rw [if_neg (by decide)]
      exact ih
    | true =>
      obtain ⟨h1, h2⟩ := h N (by omega) hp
      have ih := inj_ct (N := N) (M := M) (q := fun k => if k = σ N then false else q k) (fun i a1 a2 => ⟨(h i (by omega) a2).1, by
        show (if σ i = σ N then false else q (σ i)) = true
        rw [if_neg (fun e => by have := hi i N (by omega) (by omega) a2 hp e; omega)]
        exact (h i (by omega) a2).2⟩) (fun i k a1 a2 => hi i k (by omega) (by omega))
      have u := fb_ct_upd q false h1
      rw [h2, if_pos rfl, if_neg (by decide)] at u
      rw [if_pos rfl]
      omega
theorem sm_mul (I : Nat) (f : Nat → Nat) : ∀ n, fb_sm (fun k => I * f k) n = I * fb_sm f n
  | 0 => (Nat.mul_zero I).symm
  | n + 1 => by rw [fb_sm_succ, fb_sm_succ, sm_mul I f n, Nat.mul_add]
theorem ct_val (c : Nat → Nat) (p : Nat → Bool) (M : Nat) : ∀ N, (∀ i, i < N → c i < M) → fb_ct p N = fb_sm (fun x => fb_ct (fun i => decide (c i = x) && p i) N) M
  | 0, _ => by
    rw [fb_sm_cong (f := fun x => fb_ct (fun i => decide (c i = x) && p i) 0) (g := fun _ => 0) (fun k _ => rfl), fb_sm_const, Nat.mul_zero]
    rfl
  | N + 1, h => by
    have ih := ct_val c p M N (fun i hi => h i (by omega))
    have e : fb_sm (fun x => fb_ct (fun i => decide (c i = x) && p i) (N + 1)) M = fb_sm (fun x => fb_ct (fun i => decide (c i = x) && p i) N) M + fb_sm (fun x => if x = c N then (if p N then 1 else 0) else 0) M := by
      rw [← fb_sm_add]
      refine fb_sm_cong (fun x _ => ?_)
      show fb_ct (fun i => decide (c i = x) && p i) N + (if (decide (c N = x) && p N) = true then 1 else 0) = fb_ct (fun i => decide (c i = x) && p i) N + (if x = c N then (if p N then 1 else 0) else 0)
      by_cases hx : x = c N
      · rw [if_pos hx, decide_eq_true hx.symm, Bool.true_and]
      · rw [if_neg hx, decide_eq_false (fun z => hx z.symm), Bool.false_and, if_neg (by decide)]
    rw [e, ← ih, sm_one, if_pos (h N (by omega)), fb_ct_succ]
/-- the first of its code -/
def fst1 (c : Nat → Nat) (k : Nat) : Bool := decide (fb_ct (fun i => decide (c i = c k)) k = 0)
theorem fst_ct (c : Nat → Nat) (x : Nat) : ∀ N, fb_ct (fun k => fst1 c k && decide (c k = x)) N = if 0 < fb_ct (fun i => decide (c i = x)) N then 1 else 0
  | 0 => rfl
  | N + 1 => by
    rw [fb_ct_succ, fst_ct c x N, fb_ct_succ]
    by_cases h : c N = x
    · have e : fst1 c N = decide (fb_ct (fun i => decide (c i = x)) N = 0) := by unfold fst1; rw [h]
      rw [e, decide_eq_true h, Bool.and_true]
      generalize fb_ct (fun i => decide (c i = x)) N = X
      by_cases hx : X = 0
      · subst hx
        decide
      · rw [if_pos (by omega), decide_eq_false hx, if_neg (by decide), if_pos (by rw [if_pos rfl]; omega)]
    · rw [decide_eq_false h, Bool.and_false, if_neg (show ¬ false = true by decide), Nat.add_zero, Nat.add_zero]
theorem ct_first {c : Nat → Nat} {p : Nat → Bool} {N M I : Nat} (hc : ∀ i, i < N → c i < M) (hp : ∀ i k, i < N → k < N → c i = c k → p i = p k) (hI : ∀ k, k < N → fb_ct (fun i => decide (c i = c k)) N = I) : fb_ct p N = I * fb_ct (fun k => fst1 c k && p k) N := by
  rw [ct_val c p M N hc, ct_val c (fun k => fst1 c k && p k) M N hc, ← sm_mul]
  refine fb_sm_cong (fun x _ => ?_)
  show fb_ct (fun i => decide (c i = x) && p i) N = I * fb_ct (fun k => decide (c k = x) && (fst1 c k && p k)) N
  by_cases h : ∃ i, i < N ∧ c i = x
  · obtain ⟨i0, h0, rfl⟩ := h
    have e1 : fb_ct (fun i => decide (c i = c i0) && p i) N = fb_ct (fun i => decide (c i = c i0) && p i0) N := fb_ct_cong (fun k hk => by
      by_cases e : c k = c i0
      · rw [hp k i0 hk h0 e]
      · rw [decide_eq_false e, Bool.false_and, Bool.false_and])
    have e2 : fb_ct (fun k => decide (c k = c i0) && (fst1 c k && p k)) N = fb_ct (fun k => (fst1 c k && decide (c k = c i0)) && p i0) N := fb_ct_cong (fun k hk => by
      by_cases e : c k = c i0
      · rw [hp k i0 hk h0 e, decide_eq_true e, Bool.true_and, Bool.and_true]
      · rw [decide_eq_false e, Bool.false_and, Bool.and_false, Bool.false_and])
    have hpos : 0 < fb_ct (fun i => decide (c i = c i0)) N := fb_ct_pos.mpr ⟨i0, h0, decide_eq_true rfl⟩
    have f := fst_ct c (c i0) N
    rw [if_pos hpos] at f
    rw [e1, e2]
    cases p i0 with
    | true =>
      simp only [Bool.and_true]
      rw [hI i0 h0, f, Nat.mul_one]
    | false =>
      simp only [Bool.and_false]
      have z : ∀ N, fb_ct (fun _ => false) N = 0 := fun N => fb_ct_zero.mpr (fun _ _ => rfl)
      rw [z, Nat.mul_zero]
  · have z1 : fb_ct (fun i => decide (c i = x) && p i) N = 0 := fb_ct_zero.mpr (fun k hk => by
      show (decide (c k = x) && p k) = false
      rw [decide_eq_false (fun e => h ⟨k, hk, e⟩), Bool.false_and])
    have z2 : fb_ct (fun k => decide (c k = x) && (fst1 c k && p k)) N = 0 := fb_ct_zero.mpr (fun k hk => by
      show (decide (c k = x) && (fst1 c k && p k)) = false
      rw [decide_eq_false (fun e => h ⟨k, hk, e⟩), Bool.false_and])
    rw [z1, z2, Nat.mul_zero]
/-! ===== digits, one bumped ===== -/
def bmp (n e i : Nat) : Nat := i % n ^ e + n ^ e * ((i / n ^ e + 1) % n + n * (i / n ^ e / n))
section
variable {n e i k : Nat}
theorem bmp_lo : bmp n e i % n ^ e = i % n ^ e := by
  unfold bmp
  rw [Nat.add_mul_mod_self_left, Nat.mod_mod]
theorem bmp_div (hn : 0 < n) : bmp n e i / n ^ e = (i / n ^ e + 1) % n + n * (i / n ^ e / n) := by
  have hp : 0 < n ^ e := Nat.pow_pos hn
  unfold bmp
  rw [Nat.add_mul_div_left _ _ hp, Nat.div_eq_of_lt (Nat.mod_lt _ hp), Nat.zero_add]
theorem bmp_dig (hn : 0 < n) : bmp n e i / n ^ e % n = (i / n ^ e + 1) % n := by rw [bmp_div hn, Nat.add_mul_mod_self_left, Nat.mod_mod]
theorem bmp_hi (hn : 0 < n) : bmp n e i / n ^ e / n = i / n ^ e / n := by rw [bmp_div hn, Nat.add_mul_div_left _ _ hn, Nat.div_eq_of_lt (Nat.mod_lt _ hn), Nat.zero_add]
theorem dgt_low {x y : Nat} (hk : k < e) (h : x % n ^ e = y % n ^ e) : x / n ^ k % n = y / n ^ k % n := by
  have d : n ^ k * n ∣ n ^ e := by rw [← Nat.pow_succ]; exact Nat.pow_dvd_pow n hk
  rw [← Nat.mod_mul_right_div_self, ← Nat.mod_mul_right_div_self, ← Nat.mod_mod_of_dvd x d, h, Nat.mod_mod_of_dvd y d]
theorem pow_split (hk : e < k) : n ^ k = n ^ e * n * n ^ (k - e - 1) := by
  rw [← Nat.pow_succ, ← Nat.pow_add]
  congr 1
  omega
theorem dgt_high {x y : Nat} (hk : e < k) (h : x / n ^ e / n = y / n ^ e / n) : x / n ^ k % n = y / n ^ k % n := by
  rw [pow_split hk, ← Nat.div_div_eq_div_mul, ← Nat.div_div_eq_div_mul, h, ← Nat.div_div_eq_div_mul, ← Nat.div_div_eq_div_mul]
theorem bmp_lt {F : Nat} (hn : 2 ≤ n) (he : e < F) (hi : i < n ^ F) : bmp n e i < n ^ F := by
  have hp : 0 < n ^ e * n := Nat.mul_pos (Nat.pow_pos (by omega)) (by omega)
  rw [pow_split he, Nat.mul_comm, ← Nat.div_lt_iff_lt_mul hp, ← Nat.div_div_eq_div_mul] at hi ⊢
  rw [bmp_hi (by omega)]
  exact hi
theorem bmp_inj (hn : 2 ≤ n) (h : bmp n e i = bmp n e k) : i = k := by
  have lo : i % n ^ e = k % n ^ e := by rw [← bmp_lo (i := i), h, bmp_lo]
  have hi : i / n ^ e / n = k / n ^ e / n := by rw [← bmp_hi (i := i) (by omega), h, bmp_hi (by omega)]
  have dg : (i / n ^ e + 1) % n = (k / n ^ e + 1) % n := by rw [← bmp_dig (i := i) (by omega), h, bmp_dig (by omega)]
  have key : ∀ r s, r < n → s < n → (r + 1) % n = (s + 1) % n → r = s := by
    intro r s hr hs e
    rcases (show r + 1 < n ∨ r + 1 = n by omega) with a | a
    · rcases (show s + 1 < n ∨ s + 1 = n by omega) with c | c
      · rw [Nat.mod_eq_of_lt a, Nat.mod_eq_of_lt c] at e
        omega
      · rw [Nat.mod_eq_of_lt a, c, Nat.mod_self] at e
        omega
    · rcases (show s + 1 < n ∨ s + 1 = n by omega) with c | c
      · rw [a, Nat.mod_self, Nat.mod_eq_of_lt c] at e
        omega
      · omega
  have d2 : i / n ^ e % n = k / n ^ e % n := key _ _ (Nat.mod_lt _ (by omega)) (Nat.mod_lt _ (by omega)) (by rw [Nat.mod_add_mod, Nat.mod_add_mod]; exact dg)
  have q : i / n ^ e = k / n ^ e := by
    rw [← Nat.div_add_mod (i / n ^ e) n, ← Nat.div_add_mod (k / n ^ e) n, hi, d2]
  rw [← Nat.div_add_mod i (n ^ e), ← Nat.div_add_mod k (n ^ e), q, lo]
end
/-! ===== looks by turns: each comes equally often ===== -/
section
variable {b : AB}
theorem fD_free {m : Nat} (hm : m < bN b) (hs : stk b m = false) : fD b (bN b - 1 - m) < fD b (bN b) := by
  have h1 := fD_s hm
  rw [hs, if_neg (by decide)] at h1
  have h2 := fD_mono b (show bN b - m ≤ bN b by omega)
  omega
theorem rw_bmp (hw : wfB b) {m : Nat} (hm : m < bN b) (hs : stk b m = false) (i : Nat) : rwA b (bmp (bN b) (fD b (bN b - 1 - m)) i) = upN (rwA b i) m ((rwA b i m + 1) % bN b) := by
  have hn := hw.1
  funext j
  have e0 : rwA b i m = i / bN b ^ fD b (bN b - 1 - m) % bN b := if_pos ⟨hm, hs⟩
  by_cases hj : j < bN b ∧ stk b j = false
  · have e1 : ∀ x, rwA b x j = x / bN b ^ fD b (bN b - 1 - j) % bN b := fun x => if_pos hj
    unfold upN
    by_cases e : j = m
    · rw [if_pos e, e1, e, e0, bmp_dig (by omega), Nat.mod_add_mod]
    · rw [if_neg e, e1, e1]
      rcases Nat.lt_or_gt_of_ne (fun z => e (fD_inj hj.1 hm hj.2 hs z)) with h | h
      · exact dgt_low h bmp_lo
      · exact dgt_high h (bmp_hi (by omega))
  · have e1 : ∀ x, rwA b x j = 0 := fun x => if_neg hj
    unfold upN
    rw [if_neg (fun e => hj (by rw [e]; exact ⟨hm, hs⟩)), e1, e1]
theorem bh_ext {v w : Nat → Nat} (h : ∀ j, j < bN b → bhA b v j = bhA b w j) : bhA b v = bhA b w := by
  funext j
  by_cases hj : j < bN b
  · exact h j hj
  · have z : ∀ u : Nat → Nat, bhA b u j = (bA b j + 0) % bN b := fun u => by
      unfold bhA
      rw [fb_sm_cong (g := fun _ => 0) (fun m _ => if_neg (fun z => hj z.2)), fb_sm_const, Nat.mul_zero]
    rw [z, z]
theorem bh_lt (hw : wfB b) (v : Nat → Nat) (j : Nat) : bhA b v j < bN b := Nat.mod_lt _ (by have := hw.1; omega)
theorem bh_0 (hw : wfB b) {j : Nat} (hj : j < bN b) : bhA b (rwA b 0) j = bA b j := by
  have hn := hw.2.1
  rw [rwA_0]
  unfold bhA
  rw [fb_sm_cong (g := fun _ => 0) (fun m _ => by split <;> rfl), fb_sm_const, Nat.mul_zero, Nat.add_zero, Nat.mod_eq_of_lt (hw.2.2.1 j (by omega)).1]
def cd (b : AB) (i : Nat) : Nat := lcA (bhA b (rwA b i)) (bN b)
theorem cd_iff (hw : wfB b) (i k : Nat) : cd b i = cd b k ↔ bhA b (rwA b i) = bhA b (rwA b k) := by
  have hn := hw.2.1
  have := lcA_inj (a := bhA b (rwA b i)) (c := bhA b (rwA b k)) (bN b) (fun j _ => ⟨Nat.lt_of_lt_of_le (bh_lt hw _ j) hn, Nat.lt_of_lt_of_le (bh_lt hw _ j) hn⟩)
  exact ⟨fun h => bh_ext (this.mp h), fun h => by unfold cd; rw [h]⟩
def cnB (b : AB) (a : Nat → Nat) : Nat := fb_ct (fun i => decide (∀ j, j < bN b → bhA b (rwA b i) j = a j)) (nR b)
theorem cn_step (hw : wfB b) {m : Nat} (hm : m < bN b) (hs : stk b m = false) {v : Nat → Nat} (hv : v m < bN b) : cnB b (bhA b v) ≤ cnB b (bhA b (upN v m ((v m + 1) % bN b))) := by
  have hn := hw.1
  have up : ∀ u : Nat → Nat, u m < bN b → ∀ j, bhA b (upN u m ((u m + 1) % bN b)) j = (bhA b u j + (if alA b m j = true ∧ j < bN b then 1 else 0)) % bN b := fun u hu j => bhA_up hw hm (by
    by_cases h : u m + 1 < bN b
    · exact Or.inl (Nat.mod_eq_of_lt h)
    · have h2 : u m + 1 = bN b := by omega
      exact Or.inr ⟨h2, by rw [h2, Nat.mod_self]⟩) j
  unfold cnB
  refine inj_ct (σ := bmp (bN b) (fD b (bN b - 1 - m))) (fun i hi h => ⟨bmp_lt hn (fD_free hm hs) hi, decide_eq_true (fun j hj => ?_)⟩) (fun i k _ _ _ _ h => bmp_inj hn h)
  have h2 := of_decide_eq_true h j hj
  rw [rw_bmp hw hm hs, up _ (rwA_lt hw i m), up _ hv, h2]
theorem cn_it (hw : wfB b) {m : Nat} (hm : m < bN b) (hs : stk b m = false) {v : Nat → Nat} (hv : v m < bN b) : ∀ t, cnB b (bhA b v) ≤ cnB b (bhA b (upN v m ((v m + t) % bN b)))
  | 0 => by
    have e : upN v m ((v m + 0) % bN b) = v := by
      funext j
      by_cases h : j = m
      · simp only [upN, if_pos h, Nat.add_zero, Nat.mod_eq_of_lt hv]
        rw [h]
      · simp only [upN, if_neg h]
    rw [e]
    exact Nat.le_refl _
  | t + 1 => by
    have hn := hw.1
    have ih := cn_it hw hm hs hv t
    have e : upN v m ((v m + t) % bN b) m = (v m + t) % bN b := if_pos rfl
    have st := cn_step hw hm hs (v := upN v m ((v m + t) % bN b)) (by rw [e]; exact Nat.mod_lt _ (by omega))
    rw [e, Nat.mod_add_mod] at st
    have e2 : upN (upN v m ((v m + t) % bN b)) m ((v m + t + 1) % bN b) = upN v m ((v m + (t + 1)) % bN b) := by
      funext j
      by_cases h : j = m
      · simp only [upN, if_pos h, Nat.add_assoc]
      · simp only [upN, if_neg h]
    rw [e2] at st
    exact Nat.le_trans ih st
theorem cn_to (hw : wfB b) {m x : Nat} (hm : m < bN b) (hs : stk b m = false) {v : Nat → Nat} (hv : v m < bN b) (hx : x < bN b) : cnB b (bhA b v) ≤ cnB b (bhA b (upN v m x)) := by
  have h := cn_it hw hm hs hv (bN b - v m + x)
  rw [show v m + (bN b - v m + x) = x + bN b by omega, Nat.add_mod_right, Nat.mod_eq_of_lt hx] at h
  exact h
theorem cn_path (hw : wfB b) (i k : Nat) : ∀ d, d ≤ bN b → cnB b (bhA b (rwA b i)) ≤ cnB b (bhA b (fun j => if j < d then rwA b k j else rwA b i j))
  | 0, _ => Nat.le_refl _
  | d + 1, hd => by
    refine Nat.le_trans (cn_path hw i k d (by omega)) ?_
    cases hs : stk b d with
    | true =>
      have z : ∀ x, rwA b x d = 0 := fun x => if_neg (fun h => by rw [hs] at h; exact absurd h.2 (by decide))
      have e : (fun j => if j < d + 1 then rwA b k j else rwA b i j) = fun j => if j < d then rwA b k j else rwA b i j := by
        funext j
        by_cases h1 : j < d
        · rw [if_pos h1, if_pos (by omega)]
        · rw [if_neg h1]
          by_cases h2 : j = d
          · rw [if_pos (by omega), h2, z, z]
          · rw [if_neg (by omega)]
      rw [e]
      exact Nat.le_refl _
    | false =>
      have st := cn_to hw (m := d) (x := rwA b k d) (by omega) hs (v := fun j => if j < d then rwA b k j else rwA b i j) (by
        show (if d < d then rwA b k d else rwA b i d) < bN b
        rw [if_neg (Nat.lt_irrefl d)]
        exact rwA_lt hw i d) (rwA_lt hw k d)
      have e : upN (fun j => if j < d then rwA b k j else rwA b i j) d (rwA b k d) = fun j => if j < d + 1 then rwA b k j else rwA b i j := by
        funext j
        unfold upN
        by_cases h1 : j = d
        · rw [if_pos h1, if_pos (by omega), h1]
        · rw [if_neg h1]
          show (if j < d then rwA b k j else rwA b i j) = _
          by_cases h2 : j < d
          · rw [if_pos h2, if_pos (by omega)]
          · rw [if_neg h2, if_neg (by omega)]
      rw [e] at st
      exact st
theorem cn_le (hw : wfB b) (i k : Nat) : cnB b (bhA b (rwA b i)) ≤ cnB b (bhA b (rwA b k)) := by
  have h := cn_path hw i k (bN b) (Nat.le_refl _)
  rw [bhA_cong (w := rwA b k) (fun j hj => if_pos hj)] at h
  exact h
theorem fib_eq (hw : wfB b) (k : Nat) : fb_ct (fun i => decide (cd b i = cd b k)) (nR b) = fb_ct (asR b) (nR b) := by
  have e1 : fb_ct (fun i => decide (cd b i = cd b k)) (nR b) = cnB b (bhA b (rwA b k)) := fb_ct_cong (fun i _ => decide_eq_decide.mpr ⟨fun h j _ => by rw [(cd_iff hw i k).mp h], fun h => (cd_iff hw i k).mpr (bh_ext h)⟩)
  have e2 : fb_ct (asR b) (nR b) = cnB b (bhA b (rwA b 0)) := fb_ct_cong (fun i _ => decide_eq_decide.mpr ⟨fun h j hj => by rw [h j hj, bh_0 hw hj], fun h j hj => by rw [h j hj, bh_0 hw hj]⟩)
  rw [e1, e2]
  exact Nat.le_antisymm (cn_le hw k 0) (cn_le hw 0 k)
theorem id_pos (hw : wfB b) : 0 < fb_ct (asR b) (nR b) := fb_ct_pos.mpr ⟨0, nR_pos hw, decide_eq_true (fun _ hj => bh_0 hw hj)⟩
def lkN (b : AB) : Nat := fb_ct (fst1 (cd b)) (nR b)
def pwN (b : AB) (m : Nat) : Nat := fb_ct (fun k => fst1 (cd b) k && pC b m k) (nR b)
theorem cd_lt (hw : wfB b) (i : Nat) : cd b i < 46656 := lc_lt hw (bhA_lk hw _)
theorem lkN_eq (hw : wfB b) : nR b = fb_ct (asR b) (nR b) * lkN b := by
  have h := ct_first (c := cd b) (p := fun _ => true) (N := nR b) (M := 46656) (fun i _ => cd_lt hw i) (fun _ _ _ _ _ => rfl) (fun k _ => fib_eq hw k)
  rw [fb_ct_all.mpr (fun _ _ => rfl), fb_ct_cong (q := fst1 (cd b)) (fun k _ => Bool.and_true _)] at h
  exact h
theorem pwN_eq (hw : wfB b) (m : Nat) : fb_ct (pC b m) (nR b) = fb_ct (asR b) (nR b) * pwN b m :=
  ct_first (c := cd b) (p := pC b m) (N := nR b) (M := 46656) (fun i _ => cd_lt hw i) (fun i k _ _ h => by unfold pC; rw [(cd_iff hw i k).mp h]) (fun k _ => fib_eq hw k)
theorem all3_ix : ∀ k, lpf (fun i y => st3 b (rwA b i) y) k ((fun _ => false), 0, fun _ => 0) = ((fun c => decide (0 < fb_ct (fun i => decide (cd b i = c)) k)), fb_ct (fst1 (cd b)) k, fun m => fb_ct (fun i => fst1 (cd b) i && pC b m i) k)
  | 0 => rfl
  | k + 1 => by
    show st3 b (rwA b k) (lpf _ k _) = _
    rw [all3_ix k]
    have ec : lcA (bhA b (rwA b k)) (bN b) = cd b k := rfl
    unfold st3
    rw [ec]
    show (if decide (0 < fb_ct (fun i => decide (cd b i = cd b k)) k) = true then _ else _) = _
    cases hf : fst1 (cd b) k with
    | false =>
      have h0 : 0 < fb_ct (fun i => decide (cd b i = cd b k)) k := by
        have := of_decide_eq_false hf
        omega
      rw [if_pos (decide_eq_true h0)]
      refine Prod.ext ?_ (Prod.ext ?_ ?_)
      · funext c
        show decide (0 < fb_ct (fun i => decide (cd b i = c)) k) = decide (0 < fb_ct (fun i => decide (cd b i = c)) k + (if decide (cd b k = c) = true then 1 else 0))
        by_cases e : cd b k = c
        · subst e
          rw [decide_eq_true h0, decide_eq_true (by omega)]
        · rw [decide_eq_false e, if_neg (by decide), Nat.add_zero]
      · show fb_ct (fst1 (cd b)) k = fb_ct (fst1 (cd b)) k + (if fst1 (cd b) k = true then 1 else 0)
        rw [hf, if_neg (by decide), Nat.add_zero]
      · funext m
        show fb_ct (fun i => fst1 (cd b) i && pC b m i) k = fb_ct (fun i => fst1 (cd b) i && pC b m i) k + (if (fst1 (cd b) k && pC b m k) = true then 1 else 0)
        rw [hf, Bool.false_and, if_neg (by decide), Nat.add_zero]
    | true =>
      have h0 : fb_ct (fun i => decide (cd b i = cd b k)) k = 0 := of_decide_eq_true hf
      rw [if_neg (by rw [h0]; decide)]
      refine Prod.ext ?_ (Prod.ext ?_ ?_)
      · funext c
        show (if c = cd b k then true else decide (0 < fb_ct (fun i => decide (cd b i = c)) k)) = decide (0 < fb_ct (fun i => decide (cd b i = c)) k + (if decide (cd b k = c) = true then 1 else 0))
        by_cases e : cd b k = c
        · rw [if_pos e.symm, decide_eq_true e, if_pos rfl, decide_eq_true (by omega)]
        · rw [if_neg (fun z => e z.symm), decide_eq_false e, if_neg (by decide), Nat.add_zero]
      · show fb_ct (fst1 (cd b)) k + 1 = fb_ct (fst1 (cd b)) k + (if fst1 (cd b) k = true then 1 else 0)
        rw [hf, if_pos rfl]
      · funext m
        show (if m + 1 = chA b (bhA b (rwA b k)) then fb_ct (fun i => fst1 (cd b) i && pC b m i) k + 1 else fb_ct (fun i => fst1 (cd b) i && pC b m i) k) = fb_ct (fun i => fst1 (cd b) i && pC b m i) k + (if (fst1 (cd b) k && pC b m k) = true then 1 else 0)
        rw [hf, Bool.true_and]
        by_cases e : m + 1 = chA b (bhA b (rwA b k))
        · rw [if_pos e, if_pos (show pC b m k = true from decide_eq_true e.symm)]
        · rw [if_neg e, if_neg (by unfold pC; rw [decide_eq_false (fun z => e z.symm)]; decide), Nat.add_zero]
end
/-- the greatest, the first -/
def sgF (v : Nat → Nat) : Nat → Nat
  | 0 => 0
  | k + 1 => if v (sgF v k) < v k then k else sgF v k
theorem sgF_s (v : Nat → Nat) (k : Nat) : sgF v (k + 1) = if v (sgF v k) < v k then k else sgF v k := rfl
theorem sgF_1 (v : Nat → Nat) : sgF v 1 = 0 := if_neg (Nat.lt_irrefl _)
theorem sgF_le (v : Nat → Nat) : ∀ k, sgF v k ≤ k - 1
  | 0 => Nat.le_refl _
  | k + 1 => by
    have ih := sgF_le v k
    unfold sgF
    split <;> omega
theorem sgF_mul {I : Nat} (hI : 0 < I) (v : Nat → Nat) : ∀ k, sgF (fun m => I * v m) k = sgF v k
  | 0 => rfl
  | k + 1 => by
    unfold sgF
    rw [sgF_mul hI v k]
    show (if I * v (sgF v k) < I * v k then k else sgF v k) = _
    by_cases h : v (sgF v k) < v k
    · rw [if_pos h, if_pos (Nat.mul_lt_mul_of_pos_left h hI)]
    · rw [if_neg h, if_neg (fun z => h (Nat.lt_of_mul_lt_mul_left z))]
section
variable {q : AQ} {g : MS}
def LKm (b : AB) (g : MS) : Prop := g.1 35 = nI (lkN b) ∧ ∀ m, m < 6 → g.2.1 30 m = nI (pwN b m)
theorem laysL23 {b : AB} (hw : wfB b) : ∀ d k f (g : MS), k + d = 6 → d < f → KB b (g.2.1 0) → (∀ c, c < 46656 → g.2.1 31 c = 0) → (∀ c, c < k → g.2.1 30 c = 0) → Ev (fX12_laysLooks_23 f g (nI k)) (fun g' => LKm b g' ∧ KB b (g'.2.1 0) ∧ fM rI rL g g') := by
  intro d
  induction d with
  | zero =>
    intro k f g hk hf hK h31 h30
    obtain ⟨f, rfl⟩ : ∃ f', f = f' + 1 := ⟨f - 1, by omega⟩
    have hk : k = 6 := hk
    subst hk
    rw [fX12_laysLooks_23, if_pos (by decide)]
    refine Ev.v (askLooks hw hK h31 h30) ?_
    intro g' hR
    unfold all3 at hR
    rw [all3_ix] at hR
    obtain ⟨r1, r2, r3, r4, r5, r6⟩ := hR
    exact ev_some.mpr ⟨⟨r4, r5⟩, r1.1, r6⟩
  | succ d ih =>
    intro k f g hk hf hK h31 h30
    obtain ⟨f, rfl⟩ : ∃ f', f = f' + 1 := ⟨f - 1, by omega⟩
    rw [fX12_laysLooks_23, if_neg (show ¬ (6 : Int32) ≤ nI k from nI_ge (b := 6) (by omega) (by omega))]
    refine Ev.k (ib_n (by omega) (by omega)) ?_
    rw [bnd_e, nI_1, bnd_e, ix_n (by omega)]
    refine (ih (k + 1) f (sA g 30 k 0) (by omega) (by omega) hK h31 (fun c hc => ?_)).mono ?_
    · show upd (g.2.1 30) k 0 c = 0
      rw [upd_j]
      by_cases e : c = k
      · rw [if_pos e]
      · rw [if_neg e]; exact h30 c (by omega)
    · rintro z ⟨z1, z2, z3⟩
      exact ⟨z1, z2, ((fM.refl g).sA (by decide)).trans z3⟩
theorem laysL2 {b : AB} (hw : wfB b) : ∀ d k f (g : MS), k + d = 46656 → d < f → KB b (g.2.1 0) → (∀ c, c < k → g.2.1 31 c = 0) → Ev (fX12_laysLooks_2 f g (nI k)) (fun g' => LKm b g' ∧ KB b (g'.2.1 0) ∧ fM rI rL g g') := by
  intro d
  induction d with
  | zero =>
    intro k f g hk hf hK h31
    obtain ⟨f, rfl⟩ : ∃ f', f = f' + 1 := ⟨f - 1, by omega⟩
    have hk : k = 46656 := hk
    subst hk
    rw [fX12_laysLooks_2, if_pos (by decide)]
    exact laysL23 hw 6 0 fuel g (by omega) (by unfold fuel; omega) hK h31 (fun c hc => absurd hc (Nat.not_lt_zero c))
  | succ d ih =>
    intro k f g hk hf hK h31
    obtain ⟨f, rfl⟩ : ∃ f', f = f' + 1 := ⟨f - 1, by omega⟩
    rw [fX12_laysLooks_2, if_neg (show ¬ (46656 : Int32) ≤ nI k from nI_ge (b := 46656) (by omega) (by omega))]
    refine Ev.k (ib_n (by omega) (by omega)) ?_
    rw [bnd_e, nI_1, bnd_e, ix_n (by omega)]
    refine (ih (k + 1) f (sA g 31 k 0) (by omega) (by omega) hK (fun c hc => ?_)).mono ?_
    · show upd (g.2.1 31) k 0 c = 0
      rw [upd_j]
      by_cases e : c = k
      · rw [if_pos e]
      · rw [if_neg e]; exact h31 c (by omega)
    · rintro z ⟨z1, z2, z3⟩
      exact ⟨z1, z2, ((fM.refl g).sA (by decide)).trans z3⟩
theorem laysL_eq (hq : wfQ q) (hK : KQ q (g.2.1 0)) : Ev (fX12_laysLooks (sI g 4 0)) (fun g' => LKm (qB q) g' ∧ KB (qB q) (g'.2.1 0) ∧ MRes q 0 g g') := by
  refine (laysL2 hq.1 46656 0 fuel (sI g 4 0) (by omega) (by unfold fuel; omega) hK.1 (fun c hc => absurd hc (Nat.not_lt_zero c))).mono ?_
  rintro z ⟨z1, z2, z3⟩
  exact ⟨z1, z2, (MRes.same hK).frame z3⟩
theorem mLooks_eq (hq : wfQ q) (hK : KQ q (g.2.1 0)) : Ev (fX12_looks g) (fun z => z.1 = nI (lkN (qB q)) ∧ MRes q 0 g z.2) := by
  unfold fX12_looks
  rw [bnd_e]
  refine Ev.v (laysL_eq hq hK) ?_
  rintro g' ⟨h1, h2, h3⟩
  exact ev_some.mpr ⟨h1.1, h3⟩
theorem mPower_eq (hq : wfQ q) (hK : KQ q (g.2.1 0)) {m : Nat} (hm : m < bN (qB q)) : Ev (fX12_power g (nI m)) (fun z => z.1 = nI (pwN (qB q) m) ∧ MRes q 0 g z.2) := by
  have hn := hq.1.2.1
  unfold fX12_power
  rw [bnd_e, isM_yes (g := sI g 4 0) hq.1 hK.1 hm, bndc_s, if_neg (by decide)]
  refine Ev.v (laysL_eq hq hK) ?_
  rintro g' ⟨h1, h2, h3⟩
  refine Ev.k (ib_n (by omega) (by omega)) (ev_some.mpr ⟨?_, h3⟩)
  rw [ix_n (by omega)]
  exact h1.2 m (by omega)
theorem mPower_no (hq : wfQ q) (hK : KQ q (g.2.1 0)) {x : Int32} (h : ¬ mem (bN (qB q)) x) : Ev (fX12_power g x) (fun z => MRes q 1 g z.2) := by
  unfold fX12_power fX12_fails
  rw [bnd_e, isM_no (g := sI g 4 0) hq.1 hK.1 h, bndc_s, if_pos rfl, bnd_e, bndc_s]
  exact ev_some.mpr ⟨hK, rfl, (kpM.th g 0).trans (kpM.th _ _)⟩
theorem mStrong_lp {b : AB} (hw : wfB b) (hK : KB b (g.2.1 0)) {v : Nat → Nat} (hv : ∀ m, m < 6 → v m < 2 ^ 31) (h : ∀ m, m < 6 → g.2.1 30 m = nI (v m)) : ∀ d k f, k + d = bN b → 1 ≤ k → d < f → fX12_strongest_13 f g (nI (sgF v k)) (nI k) = some (nI (sgF v (bN b)), g) := by
  have hn := hw.2.1
  intro d
  induction d with
  | zero =>
    intro k f hk h1 hf
    obtain ⟨f, rfl⟩ : ∃ f', f = f' + 1 := ⟨f - 1, by omega⟩
    have hk : k = bN b := hk
    subst hk
    rw [fX12_strongest_13, size_eq hK, bndc_s, if_pos (nI_le (by omega) (by omega))]
  | succ d ih =>
    intro k f hk h1 hf
    obtain ⟨f, rfl⟩ : ∃ f', f = f' + 1 := ⟨f - 1, by omega⟩
    have hs := sgF_le v k
    have v1 := hv k (by omega)
    have v2 := hv (sgF v k) (by omega)
    have st := ih (k + 1) f (by omega) (by omega) (by omega)
    rw [fX12_strongest_13, size_eq hK, bndc_s, if_neg (nI_ge (by omega) (by omega)), chk_tt (ib_n (by omega) (by omega)), chk_tt (ib_n (by omega) (by omega)), ix_n (by omega), ix_n (by omega), h k (by omega), h (sgF v k) (by omega), iLE v1 v2, nI_1, bnd_e, bnd_e]
    rw [sgF_s] at st
    by_cases c : v k ≤ v (sgF v k)
    · rw [if_pos c]
      rw [if_neg (by omega)] at st
      exact st
    · rw [if_neg c]
      rw [if_pos (by omega)] at st
      exact st
theorem pwN_le (b : AB) (m : Nat) : pwN b m ≤ nR b := fb_ct_le _ _
theorem mStrong_eq (hq : wfQ q) (hK : KQ q (g.2.1 0)) : Ev (fX12_strongest g) (fun z => z.1 = nI (sgF (pwN (qB q)) (bN (qB q))) ∧ MRes q 0 g z.2) := by
  have hn := hq.1.2.1
  have hn1 := hq.1.1
  have hR := nR_le hq.1
  unfold fX12_strongest
  rw [bnd_e]
  refine Ev.v (laysL_eq hq hK) ?_
  rintro g' ⟨h1, h2, h3⟩
  have st := mStrong_lp hq.1 h2 (v := pwN (qB q)) (fun m _ => by have := pwN_le (qB q) m; omega) h1.2 (bN (qB q) - 1) 1 fuel (by omega) (by omega) (by unfold fuel; omega)
  rw [sgF_1] at st
  exact Ev.of st ⟨rfl, h3⟩
end
section
variable {b : AB} {P : PL} {g : CS} {T : Nat}
theorem many_eq (hw : wfB b) (hT : g.1 30 7 = nI T) (hS : SB b P g 30) (hV : SV b T g) : Ev (fX7_manyTurns P g) (fun z => z.1 = nI (nR b) ∧ CRes b T g z.2) := by
  obtain ⟨m1, m2, m3, m4⟩ := hV
  unfold fX7_manyTurns
  rw [hS.2.2.2.1]
  refine Ev.v (begin_eq hw hw.2.2.2.2.1 hT hS m1) ?_
  rintro g5 ⟨t1, t2, t3, t4, G⟩
  rw [setS_id] at t1
  refine ev_some.mpr ⟨t1.2.2.1, ⟨?_, ?_, ?_, ?_⟩, G.mono (by decide) (by decide) (by decide)⟩
  · rw [t4]; exact memo.new t3
  · rw [G.i 17 4 (by decide)]; exact m2.imp (fun h => h.keep G (by decide))
  · rw [G.i 17 2 (by decide)]; exact m3.imp (fun h => h.keep G (by decide))
  · rw [G.i 17 3 (by decide)]; exact m4.imp (fun h => h.keep G (by decide))
theorem cLooks_eq (hw : wfB b) (hTs : g.1 30 7 = nI T) (hS : SB b P g 30) (hV : SV b T g) : Ev (fX11_looks P g) (fun z => z.1 = nI (lkN b) ∧ CRes b T g z.2) := by
  have hR := nR_le hw
  have hI := id_pos hw
  have hI2 := fb_ct_le (asR b) (nR b)
  have hL := lkN_eq hw
  unfold fX11_looks
  refine Ev.c (cIdle_eq hw hTs hS hV) ?_
  rintro r g1 ⟨q1, q2⟩
  dsimp only at q1 q2
  rw [q1, if_neg (show ¬ nI (fb_ct (asR b) (nR b)) ≤ 0 from nI_ge (a := 0) hI (by omega))]
  refine Ev.c (many_eq hw (by rw [q2.2.i 30 7 (by decide)]; exact hTs) (hS.keep q2.2 svno30) q2.1) ?_
  rintro r g2 ⟨q3, q4⟩
  dsimp only at q3 q4
  refine Ev.k (nz_n hI (by omega)) (ev_some.mpr ⟨?_, q4.1, q2.2.trans q4.2⟩)
  show r / nI _ = _
  rw [q3, pk_div (by omega) hI (by omega)]
  congr 1
  exact Nat.div_eq_of_eq_mul_right hI hL
abbrev tkI : List (Nat × Nat) := [(10, 1), (12, 1), (12, 6), (12, 7), (12, 8), (12, 9), (12, 10), (12, 11), (12, 12), (17, 4), (17, 5), (17, 6), (17, 7), (17, 8), (17, 9)]
theorem tell_tg (hw : wfB b) (hT : g.1 30 7 = nI T) (hS : SB b P g 30) (hV : SV b T g) (y1 y2 : Int32) : Ev (fX7_tell P g y1 y2) (fun g' => TLa b (pkB b y1 y2) (nR b) g' ∧ SV b T g' ∧ fC tkI tbA [] g g') := by
  have hR := nR_le hw
  obtain ⟨m1, m2, m3, m4⟩ := hV
  have fresh : Ev (fX7_tell_31 P g y1 y2) (fun g' => TLa b (pkB b y1 y2) (nR b) g' ∧ SV b T g' ∧ fC tkI tbA [] g g') := by
    unfold fX7_tell_31
    simp only [bnd_e]
    rw [hT]
    have F1 : fC [(17, 4), (17, 5), (17, 6), (17, 7), (17, 8), (17, 9)] [] [] g (tI (tI (tI (tI (tI (tI g 17 4 (nI T)) 17 5 y1) 17 6 y2) 17 7 0) 17 8 (-1)) 17 9 0) := ((((((fC.refl g).tI (by decide)).tI (by decide)).tI (by decide)).tI (by decide)).tI (by decide)).tI (by decide)
    have hS1 := hS.keep F1 (by intro k _ h; simp at h)
    rw [hS1.2.2.2.1]
    refine Ev.v (begin_eq hw hw.2.2.2.2.1 (by rw [F1.i 30 7 (by decide)]; exact hT) hS1 (by rw [F1.i 12 1 (by decide)]; exact m1.imp (fun h => h.keep F1 (by decide)))) ?_
    rintro g2 ⟨t1, t2, t3, t4, t5⟩
    rw [setS_id] at t1 t2
    rw [← rwA_0 b] at t2
    refine (tell_lp hw y1 y2 (nR b) 0 fuel g2 (by omega) (by unfold fuel; omega) t1 t2 ⟨?_, ?_, ?_⟩).mono ?_
    · rw [t5.i 17 7 (by decide)]; rfl
    · rw [t5.i 17 8 (by decide)]; rfl
    · rw [t5.i 17 9 (by decide)]; rfl
    · rintro z ⟨z1, z2⟩
      have G : fC tkI tbA [] g z := ((F1.mono (by decide) (by decide) (by decide)).trans (t5.mono (by decide) (by decide) (by decide))).trans (z2.mono (by decide) (by decide) (by decide))
      refine ⟨z1, ⟨?_, ?_, ?_, ?_⟩, G⟩
      · rw [z2.i 12 1 (by decide), t4]; exact memo.new (t3.keep z2 (by decide))
      · rw [z2.i 17 4 (by decide), t5.i 17 4 (by decide)]
        refine memo.new ?_
        have e5 : z.1 17 5 = y1 := by rw [z2.i 17 5 (by decide), t5.i 17 5 (by decide)]; rfl
        have e6 : z.1 17 6 = y2 := by rw [z2.i 17 6 (by decide), t5.i 17 6 (by decide)]; rfl
        unfold TLm
        rw [e5, e6]
        exact z1
      · rw [G.i 17 2 (by decide)]; exact m3.imp (fun h => h.keep G (by decide))
      · rw [G.i 17 3 (by decide)]; exact m4.imp (fun h => h.keep G (by decide))
  unfold fX7_tell
  by_cases e1 : g.1 17 4 = g.1 30 7
  · rw [if_pos e1]
    by_cases e2 : g.1 17 5 = y1
    · rw [if_pos e2]
      by_cases e3 : g.1 17 6 = y2
      · rw [if_pos e3]
        have := m2.2 (e1.trans hT)
        unfold TLm at this
        rw [e2, e3] at this
        exact ev_some.mpr ⟨this, ⟨m1, m2, m3, m4⟩, fC.refl g⟩
      · rw [if_neg e3]; exact fresh
    · rw [if_neg e2]; exact fresh
  · rw [if_neg e1]; exact fresh
theorem cIdle_tg (hw : wfB b) (hTs : g.1 30 7 = nI T) (hS : SB b P g 30) (hV : SV b T g) : Ev (fX11_idle P g) (fun z => z.1 = nI (fb_ct (asR b) (nR b)) ∧ SV b T z.2 ∧ fC tkI tbA [] g z.2) := by
  unfold fX11_idle
  rw [hS.2.1]
  refine Ev.v (tell_tg hw hTs hS hV _ _) ?_
  rintro g' ⟨h1, h2, h3⟩
  have e : pkB b (16777215 : Int32) (nI (l6 (bA b))) = asR b := by
    funext i
    unfold pkB asR
    have := lanes_as hw (bhA_lk hw (rwA b i))
    cases h : asB b (bhA b (rwA b i)) with
    | true => exact decide_eq_true (this.mpr h)
    | false => exact decide_eq_false (fun z => by rw [this.mp z] at h; exact absurd h (by decide))
  rw [e] at h1
  exact ev_some.mpr ⟨h1.1, h2, h3⟩
theorem cPower_eq (hw : wfB b) (hTs : g.1 30 7 = nI T) (hS : SB b P g 30) (hV : SV b T g) {m : Nat} (hm : m < bN b) : Ev (fX11_power P g (nI m)) (fun z => z.1 = Sum.inr (nI (pwN b m)) ∧ CRes b T g z.2) := by
  have hn := hw.2.1
  have hR := nR_le hw
  have hI := id_pos hw
  have hI2 := fb_ct_le (asR b) (nR b)
  have hc := fb_ct_le (pC b m) (nR b)
  unfold fX11_power
  rw [needM_y hw hS hm, bxr]
  refine Ev.v (seats_eq hw hTs hS hV) ?_
  rintro g1 ⟨h1, h2, h3⟩
  refine Ev.c (cIdle_tg hw (by rw [h3.i 30 7 (by decide)]; exact hTs) (hS.keep h3 svno30) h2) ?_
  rintro r g2 ⟨q1, q2, q3⟩
  dsimp only at q1 q2 q3
  have hE := h1.keep q3 (by decide)
  rw [q1, if_neg (show ¬ nI (fb_ct (asR b) (nR b)) ≤ 0 from nI_ge (a := 0) hI (by omega))]
  refine Ev.k (ib_n (by omega) (by omega)) (Ev.k (nz_n hI (by omega)) (ev_some.mpr ⟨?_, q2, h3.trans (q3.mono (by decide) (by decide) (by decide))⟩))
  rw [ix_n (by omega), (hE m (by omega)).1, pk_div (by omega) hI (by omega)]
  show Sum.inr (nI _) = Sum.inr (nI _)
  rw [Nat.div_eq_of_eq_mul_right hI (pwN_eq hw m)]
theorem cPower_no (hw : wfB b) (hS : SB b P g 30) {x : Int32} (h : ¬ mem (bN b) x) : fX11_power P g x = some (Sum.inl 2, g) := by
  unfold fX11_power
  rw [needM_n hw hS h, bxl]
theorem cStrong_lp (hw : wfB b) (hS : g.1 30 1 = nI (bN b)) {v : Nat → Nat} (hv : ∀ m, m < 6 → v m < 2 ^ 31) (h : ∀ m, m < 6 → g.2.1 18 m = nI (v m)) : ∀ d k f, k + d = bN b → 1 ≤ k → d < f → fX11_strongest_11 P f g (nI (sgF v k)) (nI k) = some (nI (sgF v (bN b)), g) := by
  have hn := hw.2.1
  intro d
  induction d with
  | zero =>
    intro k f hk h1 hf
    obtain ⟨f, rfl⟩ : ∃ f', f = f' + 1 := ⟨f - 1, by omega⟩
    have hk : k = bN b := hk
    subst hk
    rw [fX11_strongest_11, hS, if_pos (nI_le (by omega) (by omega))]
  | succ d ih =>
    intro k f hk h1 hf
    obtain ⟨f, rfl⟩ : ∃ f', f = f' + 1 := ⟨f - 1, by omega⟩
    have hs := sgF_le v k
    have v1 := hv k (by omega)
    have v2 := hv (sgF v k) (by omega)
    have st := ih (k + 1) f (by omega) (by omega) (by omega)
    rw [fX11_strongest_11, hS, if_neg (nI_ge (by omega) (by omega)), chk_tt (ib_n (by omega) (by omega)), chk_tt (ib_n (by omega) (by omega)), ix_n (by omega), ix_n (by omega), h k (by omega), h (sgF v k) (by omega), iLE v1 v2, nI_1, bnd_e, bnd_e]
    rw [sgF_s] at st
    by_cases c : v k ≤ v (sgF v k)
    · rw [if_pos c]
      rw [if_neg (by omega)] at st
      exact st
    · rw [if_neg c]
      rw [if_pos (by omega)] at st
      exact st
theorem cStrong_eq (hw : wfB b) (hTs : g.1 30 7 = nI T) (hS : SB b P g 30) (hV : SV b T g) : Ev (fX11_strongest P g) (fun z => z.1 = nI (sgF (pwN b) (bN b)) ∧ CRes b T g z.2) := by
  have hn := hw.2.1
  have hn1 := hw.1
  have hR := nR_le hw
  unfold fX11_strongest
  refine Ev.v (seats_eq hw hTs hS hV) ?_
  rintro g1 ⟨h1, h2, h3⟩
  have st := cStrong_lp (P := P) hw (hS.keep h3 svno30).1 (v := fun m => fb_ct (asR b) (nR b) * pwN b m) (fun m _ => by
    show fb_ct (asR b) (nR b) * pwN b m < 2 ^ 31
    rw [← pwN_eq hw m]
    have := fb_ct_le (pC b m) (nR b)
    omega) (fun m hm => by rw [(h1 m hm).1, pwN_eq hw m]) (bN b - 1) 1 fuel (by omega) (by omega) (by unfold fuel; omega)
  rw [sgF_mul (id_pos hw), sgF_mul (id_pos hw)] at st
  rw [sgF_1] at st
  exact Ev.of st ⟨rfl, h2, h3⟩
end
