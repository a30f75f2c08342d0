/-! ===== looks by minutes: tail and round ===== -/
theorem fiF_none {p : Nat → Bool} : ∀ N, fiF p N = 0 → ∀ u, u < N → p u = false
  | 0, _, u, hu => absurd hu (Nat.not_lt_zero u)
  | N + 1, h, u, hu => by
    rw [fiF_s] at h
    by_cases c : fiF p N = 0 ∧ p N = true
    · rw [if_pos c] at h; omega
    · rw [if_neg c] at h
      by_cases e : u = N
      · subst e
        cases hp : p u with
        | false => rfl
        | true => exact absurd ⟨h, hp⟩ c
      · exact fiF_none N h u (by omega)
theorem fiF_some {p : Nat → Bool} : ∀ N, fiF p N ≠ 0 → ∃ v, v < N ∧ fiF p N = v + 1 ∧ p v = true ∧ ∀ u, u < v → p u = false
  | 0, h => absurd rfl h
  | N + 1, h => by
    rw [fiF_s] at h ⊢
    by_cases c : fiF p N = 0 ∧ p N = true
    · rw [if_pos c]
      exact ⟨N, by omega, rfl, c.2, fiF_none N c.1⟩
    · rw [if_neg c] at h ⊢
      obtain ⟨v, h1, h2, h3, h4⟩ := fiF_some N h
      exact ⟨v, by omega, h2, h3, h4⟩
/-- tail t and round r of a row of codes -/
def Rho (c : Nat → Nat) (t r : Nat) : Prop := 1 ≤ r ∧ c (t + r) = c t ∧ ∀ i j, i < t + r → j < t + r → c i = c j → i = j
theorem rho_ex {c : Nat → Nat} {M : Nat} (hM : ∀ i, c i < M) : ∃ t r, Rho c t r ∧ t + r ≤ M := by
  have key : ∀ n, fiF (fun k => decide (0 < fb_ct (fun i => decide (c i = c k)) k)) n = 0 → ∀ i j, i < n → j < n → c i = c j → i = j := by
    intro n h
    have al : ∀ i j, i < j → j < n → c i ≠ c j := fun i j hij hj e => by
      have := of_decide_eq_false (fiF_none n h j hj)
      exact this (fb_ct_pos.mpr ⟨i, hij, decide_eq_true e⟩)
    intro i j hi hj e
    rcases Nat.lt_trichotomy i j with q | q | q
    · exact absurd e (al i j q hj)
    · exact q
    · exact absurd e.symm (al j i q hi)
  by_cases h0 : fiF (fun k => decide (0 < fb_ct (fun i => decide (c i = c k)) k)) (M + 1) = 0
  · have := inj_ct (p := fun _ => true) (q := fun _ => true) (σ := c) (N := M + 1) (M := M) (fun i _ _ => ⟨hM i, rfl⟩) (fun i k hi hk _ _ e => key (M + 1) h0 i k hi hk e)
    rw [fb_ct_all.mpr (fun _ _ => rfl), fb_ct_all.mpr (fun _ _ => rfl)] at this
    omega
  · obtain ⟨n, h1, h2, h3, h4⟩ := fiF_some _ h0
    obtain ⟨t, h5, h6⟩ := fb_ct_pos.mp (of_decide_eq_true h3)
    have h7 : c t = c n := of_decide_eq_true h6
    refine ⟨t, n - t, ⟨by omega, by rw [show t + (n - t) = n by omega, h7], fun i j hi hj e => key n (fiF_0 n h4) i j (by omega) (by omega) e⟩, by omega⟩
section
variable {c : Nat → Nat} {t r : Nat}
theorem Rho.per (h : Rho c t r) (hd : ∀ i j, c i = c j → c (i + 1) = c (j + 1)) : ∀ k, c (t + k + r) = c (t + k)
  | 0 => by rw [Nat.add_zero]; exact h.2.1
  | k + 1 => by
    have := hd _ _ (h.per hd k)
    rw [show t + (k + 1) + r = t + k + r + 1 by omega, show t + (k + 1) = t + k + 1 by omega]
    exact this
theorem Rho.mul (h : Rho c t r) (hd : ∀ i j, c i = c j → c (i + 1) = c (j + 1)) (k : Nat) : ∀ m, c (t + k + r * m) = c (t + k)
  | 0 => by rw [Nat.mul_zero, Nat.add_zero]
  | m + 1 => by
    have := h.per hd (k + r * m)
    rw [show t + k + r * (m + 1) = t + (k + r * m) + r by rw [Nat.mul_add, Nat.mul_one]; omega, this, show t + (k + r * m) = t + k + r * m by omega]
    exact h.mul hd k m
/-- the like one among the first -/
def rep (t r k : Nat) : Nat := if k < t then k else t + (k - t) % r
theorem rep_lt (h : Rho c t r) (k : Nat) : rep t r k < t + r := by
  unfold rep
  split
  · omega
  · have := Nat.mod_lt (k - t) (show 0 < r from h.1)
    omega
theorem rep_c (h : Rho c t r) (hd : ∀ i j, c i = c j → c (i + 1) = c (j + 1)) (k : Nat) : c (rep t r k) = c k := by
  unfold rep
  split
  · rfl
  · have e := Nat.mod_add_div (k - t) r
    have := h.mul hd ((k - t) % r) ((k - t) / r)
    rw [← this]
    congr 1
    omega
theorem rep_iff (h : Rho c t r) (hd : ∀ i j, c i = c j → c (i + 1) = c (j + 1)) (i j : Nat) : c i = c j ↔ rep t r i = rep t r j :=
  ⟨fun e => h.2.2 _ _ (rep_lt h i) (rep_lt h j) (by rw [rep_c h hd, rep_c h hd, e]), fun e => by rw [← rep_c h hd i, e, rep_c h hd]⟩
/-- two like ones: the first is in the round, and they are a round apart at least -/
theorem Rho.two (h : Rho c t r) (hd : ∀ i j, c i = c j → c (i + 1) = c (j + 1)) {s k : Nat} (hk : 1 ≤ k) (e : c s = c (s + k)) : t ≤ s ∧ r ≤ k := by
  have e2 := (rep_iff h hd s (s + k)).mp e
  have h1 := h.1
  unfold rep at e2
  by_cases hs : s < t
  · rw [if_pos hs] at e2
    by_cases hs2 : s + k < t
    · rw [if_pos hs2] at e2; omega
    · rw [if_neg hs2] at e2; omega
  · rw [if_neg hs, if_neg (by omega)] at e2
    refine ⟨by omega, ?_⟩
    by_cases hlt : k < r
    · exfalso
      have e3 : (s - t) % r = (s - t + k) % r := by
        rw [show s + k - t = s - t + k by omega] at e2
        omega
      have h2 := Nat.mod_lt (s - t) (show 0 < r from h1)
      rw [← Nat.mod_add_mod] at e3
      have key : ∀ x, x < r → x = (x + k) % r → False := by
        intro x hx ex
        by_cases h4 : x + k < r
        · rw [Nat.mod_eq_of_lt h4] at ex; omega
        · rw [Nat.mod_eq_sub_mod (by omega), Nat.mod_eq_of_lt (by omega)] at ex; omega
      exact key _ h2 e3
    · omega
theorem Rho.rd (h : Rho c t r) (hd : ∀ i j, c i = c j → c (i + 1) = c (j + 1)) {s : Nat} (hs : t ≤ s) : c s = c (s + r) := by
  have := h.per hd (s - t)
  rw [show t + (s - t) = s by omega] at this
  exact this.symm
end
/-- how often p up to n, each of the round counted for all its times -/
def rgW (p : Nat → Bool) (t r n i : Nat) : Nat := if p i = true ∧ i ≤ n then (if i < t then 1 else 1 + (n - i) / r) else 0
theorem rg_step {p : Nat → Bool} {t r n : Nat} (hr : 1 ≤ r) (hp : ∀ k, p (rep t r k) = p k) : fb_sm (rgW p t r (n + 1)) (t + r) = fb_sm (rgW p t r n) (t + r) + (if p (n + 1) then 1 else 0) := by
  have e : ∀ i, i < t + r → rgW p t r (n + 1) i = rgW p t r n i + (if i = rep t r (n + 1) then (if p (n + 1) then 1 else 0) else 0) := by
    intro i hi
    have hpn := hp (n + 1)
    unfold rgW
    by_cases h1 : n + 1 < t
    · have er : rep t r (n + 1) = n + 1 := if_pos h1
      rw [er]
      by_cases e1 : i = n + 1
      · subst e1
        rw [if_pos rfl, if_neg (show ¬ (p (n + 1) = true ∧ n + 1 ≤ n) from fun z => by omega), if_pos h1, Nat.zero_add]
        cases p (n + 1) with
        | true => rw [if_pos ⟨rfl, Nat.le_refl _⟩, if_pos rfl]
        | false => rw [if_neg (fun z => absurd z.1 (by decide)), if_neg (by decide)]
      · rw [if_neg e1, Nat.add_zero]
        by_cases h2 : p i = true ∧ i ≤ n
        · rw [if_pos h2, if_pos ⟨h2.1, by omega⟩, if_pos (by omega), if_pos (by omega)]
        · rw [if_neg h2, if_neg (fun z => h2 ⟨z.1, by omega⟩)]
    · have er : rep t r (n + 1) = t + (n + 1 - t) % r := if_neg h1
      by_cases hit : i < t
      · have hne : i ≠ rep t r (n + 1) := by omega
        rw [if_neg hne, Nat.add_zero, if_pos hit, if_pos hit]
        by_cases h2 : p i = true
        · rw [if_pos ⟨h2, by omega⟩]
          by_cases h3 : i ≤ n
          · rw [if_pos ⟨h2, h3⟩]
          · omega
        · rw [if_neg (fun z => h2 z.1), if_neg (fun z => h2 z.1)]
      · rw [if_neg hit, if_neg hit]
        have hmod : (n + 1 - t) % r = i - t ↔ r ∣ n + 1 - i ∧ i ≤ n + 1 := by
          constructor
          · intro z
            have hle := Nat.mod_le (n + 1 - t) r
            refine ⟨?_, by omega⟩
            have := Nat.dvd_sub_mod (n := r) (n + 1 - t)
            rw [z, show n + 1 - t - (i - t) = n + 1 - i by omega] at this
            exact this
          · rintro ⟨⟨q, hq⟩, z⟩
            rw [show n + 1 - t = (i - t) + r * q by omega, Nat.add_mul_mod_self_left, Nat.mod_eq_of_lt (by omega)]
        by_cases hne : i = rep t r (n + 1)
        · have hd := hmod.mp (by rw [er] at hne; omega)
          have hpi : p i = p (n + 1) := by rw [hne, hpn]
          rw [if_pos hne, hpi]
          cases hpp : p (n + 1) with
          | false => rw [if_neg (fun z => absurd z.1 (by decide)), if_neg (fun z => absurd z.1 (by decide)), if_neg (by decide)]
          | true =>
            rw [if_pos ⟨rfl, hd.2⟩, if_pos rfl]
            by_cases h3 : i ≤ n
            · rw [if_pos ⟨rfl, h3⟩, show n + 1 - i = n - i + 1 by omega, Nat.succ_div_of_dvd (by rw [show n - i + 1 = n + 1 - i by omega]; exact hd.1)]
              omega
            · rw [if_neg (fun z => h3 z.2), show n + 1 - i = 0 by omega, Nat.zero_div]
        · have hd : ¬ (r ∣ n + 1 - i ∧ i ≤ n + 1) := fun z => hne (by rw [er]; have := hmod.mpr z; omega)
          rw [if_neg hne, Nat.add_zero]
          by_cases h2 : p i = true
          · by_cases h3 : i ≤ n
            · rw [if_pos ⟨h2, by omega⟩, if_pos ⟨h2, h3⟩, show n + 1 - i = n - i + 1 by omega, Nat.succ_div_of_not_dvd (fun z => hd ⟨by rw [show n + 1 - i = n - i + 1 by omega]; exact z, by omega⟩), Nat.add_zero]
            · rw [if_neg (show ¬ (p i = true ∧ i ≤ n) from fun z => h3 z.2), if_neg (show ¬ (p i = true ∧ i ≤ n + 1) from fun z => hd ⟨by rw [show n + 1 - i = 0 by omega]; exact Nat.dvd_zero r, z.2⟩)]
          · rw [if_neg (fun z => h2 z.1), if_neg (fun z => h2 z.1)]
  rw [fb_sm_cong e, fb_sm_add, sm_one, if_pos]
  unfold rep
  split
  · omega
  · have := Nat.mod_lt (n + 1 - t) (show 0 < r from hr)
    omega
theorem rg_eq {p : Nat → Bool} {t r : Nat} (hr : 1 ≤ r) (hp : ∀ k, p (rep t r k) = p k) : ∀ n, fb_ct p (n + 1) = fb_sm (rgW p t r n) (t + r)
  | 0 => by
    have e : ∀ i, i < t + r → rgW p t r 0 i = if i = 0 then (if p 0 then 1 else 0) else 0 := by
      intro i hi
      unfold rgW
      by_cases h0 : i = 0
      · subst h0
        rw [if_pos rfl, Nat.sub_self, Nat.zero_div]
        cases p 0 with
        | true => rw [if_pos ⟨rfl, Nat.le_refl _⟩, if_pos rfl]; split <;> rfl
        | false => rw [if_neg (fun z => absurd z.1 (by decide)), if_neg (by decide)]
      · rw [if_neg h0, if_neg (fun z => h0 (by omega))]
    rw [fb_sm_cong e, sm_one, if_pos (by omega), fb_ct_succ]
    exact Nat.zero_add _
  | n + 1 => by rw [rg_step hr hp, ← rg_eq hr hp n, fb_ct_succ]
/-! ===== the looks of a board by minutes ===== -/
def mI (b : AB) : Nat → Nat → Nat
  | 0 => bA b
  | k + 1 => mnA b (mI b k)
section
variable {b : AB}
theorem mI_lk (hw : wfB b) : ∀ k, lk (bN b) (mI b k)
  | 0 => hw.2.2.1
  | k + 1 => mnA_lk hw (mI_lk hw k)
theorem vt_cong {a a' : Nat → Nat} (h : ∀ m, m < bN b → a m = a' m) (x : Nat) : vt b a x = vt b a' x := fb_sm_cong (fun m hm => by
  show (if fcA (bN b) a m = x + 1 then bW b m else 0) = (if fcA (bN b) a' m = x + 1 then bW b m else 0)
  unfold fcA
  rw [h m hm])
theorem chF_cong {v w : Nat → Nat} : ∀ k, (∀ m, m < k → v m = w m) → chF v k = chF w k
  | 0, _ => rfl
  | k + 1, h => by
    unfold chF
    rw [chF_cong k (fun m hm => h m (by omega)), h k (by omega)]
theorem chA_cong {a a' : Nat → Nat} (h : ∀ m, m < bN b → a m = a' m) : chA b a = chA b a' := by
  unfold chA
  rw [chF_cong (v := vt b a) (w := vt b a') _ (fun m _ => vt_cong h m)]
theorem mnA_cong {a a' : Nat → Nat} (h : ∀ m, m < bN b → a m = a' m) : ∀ m, m < bN b → mnA b a m = mnA b a' m := fun m hm => by
  unfold mnA byA
  rw [h m hm, vt_cong h m]
def cX (b : AB) (k : Nat) : Nat := lcA (mI b k) (bN b)
theorem cX_lt (hw : wfB b) (k : Nat) : cX b k < 46656 := lc_lt hw (mI_lk hw k)
theorem cX_iff (hw : wfB b) (i j : Nat) : cX b i = cX b j ↔ ∀ m, m < bN b → mI b i m = mI b j m := by
  have hn := hw.2.1
  exact lcA_inj (bN b) (fun m hm => ⟨Nat.lt_of_lt_of_le (mI_lk hw i m (by omega)).1 hn, Nat.lt_of_lt_of_le (mI_lk hw j m (by omega)).1 hn⟩)
theorem cX_det (hw : wfB b) (i j : Nat) (h : cX b i = cX b j) : cX b (i + 1) = cX b (j + 1) := (cX_iff hw _ _).mpr (mnA_cong ((cX_iff hw i j).mp h))
theorem cX_l6 (hw : wfB b) (i j : Nat) : nI (l6 (mI b i)) = nI (l6 (mI b j)) ↔ cX b i = cX b j := by
  have hn := hw.2.1
  have l1 := l6_lt (lk16 hn (mI_lk hw i))
  have l2 := l6_lt (lk16 hn (mI_lk hw j))
  rw [nI_eq (by omega) (by omega), l6_inj (lk16 hn (mI_lk hw i)) (lk16 hn (mI_lk hw j)), cX_iff hw]
  refine ⟨fun h m hm => h m (by omega), fun h m hm => ?_⟩
  by_cases h1 : m < bN b
  · exact h m h1
  · rw [(mI_lk hw i m hm).2 (by omega), (mI_lk hw j m hm).2 (by omega)]
theorem rho_b (hw : wfB b) : ∃ t r, Rho (cX b) t r ∧ t + r ≤ 46656 := rho_ex (cX_lt hw)
def chK (b : AB) (m k : Nat) : Bool := decide (chA b (mI b k) = m + 1)
theorem chK_rep (hw : wfB b) {t r : Nat} (h : Rho (cX b) t r) (m k : Nat) : chK b m (rep t r k) = chK b m k := by
  unfold chK
  rw [chA_cong ((cX_iff hw _ _).mp (rep_c h (cX_det hw) k))]
end
