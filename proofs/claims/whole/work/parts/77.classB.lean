/-! ===== the class's board ===== -/
def SB (b : AB) (P : PL) (g : CS) (o : Nat) : Prop := g.1 o 1 = nI (bN b) ∧ g.1 o 3 = nI (l6 (bA b)) ∧ g.1 o 4 = nI (l6 (bW b)) ∧ g.1 o 5 = nI (bS b) ∧ inP P (g.2.2.2 o 8) (bD b) ∧ inP P (g.2.2.2 o 9) (bC b) ∧ inP P (g.2.2.2 o 10) (bG b)
theorem SB.keep {b : AB} {P : PL} {g g' : CS} {o : Nat} {oi : List (Nat × Nat)} {la ll : List Nat} (h : SB b P g o) (hf : fC oi la ll g g') (ho : ∀ k, k ≤ 5 → (o, k) ∉ oi) : SB b P g' o := by
  obtain ⟨h1, h2, h3, h4, h5, h6, h7⟩ := h
  refine ⟨?_, ?_, ?_, ?_, ?_, ?_, ?_⟩
  · rw [hf.i o 1 (ho 1 (by omega))]; exact h1
  · rw [hf.i o 3 (ho 3 (by omega))]; exact h2
  · rw [hf.i o 4 (ho 4 (by omega))]; exact h3
  · rw [hf.i o 5 (ho 5 (by omega))]; exact h4
  · rw [hf.2.2.2]; exact h5
  · rw [hf.2.2.2]; exact h6
  · rw [hf.2.2.2]; exact h7
theorem lk16 {n : Nat} {a : Nat → Nat} (hn : n ≤ 6) (h : lk n a) : ∀ j, j < 6 → a j < 16 := fun j hj => by have := (h j hj).1; omega
theorem w16 {b : AB} (hw : wfB b) : ∀ j, j < 6 → bW b j < 16 := fun j hj => by have := (hw.2.2.2.1 j hj).1; omega
theorem o10 {o : Nat} (h : okS o) : o ≠ 10 := by rcases h with q | q | q | q | q <;> omega
theorem no10 {o : Nat} (h : okS o) : ∀ k, k ≤ 5 → (o, k) ∉ [((10 : Nat), (1 : Nat))] := fun k _ hm => by
  have := o10 h
  simp only [List.mem_cons, List.not_mem_nil, or_false, Prod.mk.injEq] at hm
  omega
section
variable {b : AB} {P : PL} {g : CS} {o : Nat} {a : Nat → Nat}
theorem shas : ∀ s, s < 64 → ∀ m, m < 6 → ((jshr (nI s) (nI m)) &&& (1 : Int32)) = nI (s.testBit m).toNat := by decide +kernel
theorem cStuck_eq (hw : wfB b) (hS : SB b P g o) {m : Nat} (hm : m < 6) : fX6_isStuck P g o (nI m) = some (nI (stk b m).toNat, g) := by
  unfold fX6_isStuck stk
  rw [hS.2.2.2.1, shas _ (s64 hw) m hm]
  cases (bS b).testBit m <;> rfl
theorem cHas_eq (hw : wfB b) (hS : SB b P g o) {m : Nat} (hm : m < bN b) : fX6_has P g o (nI m) = some (1, g) := by
  have hn := hw.2.1
  unfold fX6_has
  rw [if_neg (nI_pos (by omega)), hS.1, if_neg (nI_ge hm (by omega))]
theorem cHas_no (hw : wfB b) (hS : SB b P g o) {x : Int32} (hx : ¬ ∃ m, m < bN b ∧ x = nI m) : fX6_has P g o x = some (0, g) := by
  have hn := hw.2.1
  unfold fX6_has
  rw [hS.1]
  by_cases h : x < 0
  · rw [if_pos h]
  · rw [if_neg h]
    obtain ⟨j, hj, rfl⟩ := nI_of h
    rw [if_pos (nI_le (Nat.le_of_not_lt (fun z => hx ⟨j, z, rfl⟩)) hj)]
theorem cfaced_v {n m x : Nat} (hn : n ≤ 6) (hm : m < n) (hx : x < n) (h0 : x ≠ 0) : (if n ≤ m + x then m + x - n else m + x) = (m + x) % n := by
  by_cases h : n ≤ m + x
  · rw [if_pos h, Nat.mod_eq_sub_mod h, Nat.mod_eq_of_lt (by omega)]
  · rw [if_neg h, Nat.mod_eq_of_lt (by omega)]
theorem cFaced_eq (hw : wfB b) (hS : SB b P g o) {m : Nat} (hm : m < bN b) : fX6_faced P g o (nI m) = some (pm (fcA (bN b) (bA b) m), g) := by
  have hn := hw.2.1
  have hx := (hw.2.2.1 m (by omega)).1
  unfold fX6_faced fcA
  rw [hS.2.1, at_l6 (lk16 hn hw.2.2.1) (by omega), bndv_s, i0 (by omega)]
  by_cases h : bA b m = 0
  · rw [if_pos h, if_pos h]
    rfl
  · rw [if_neg h, if_neg h, hS.1, nI_add, iLE (by omega) (by omega), pm_s, ← cfaced_v hn hm hx h]
    by_cases h2 : bN b ≤ m + bA b m
    · rw [if_pos h2, if_pos h2, pk_sub h2]
    · rw [if_neg h2, if_neg h2]
theorem div16 (x k : Nat) : x / 16 ^ k / 16 = x / 16 ^ (k + 1) := by rw [Nat.div_div_eq_div_mul, Nat.pow_succ]
theorem shlL_n {x k : Nat} (hk : k < 64) : jshlL (lN x) (nI k) = lN (x * 2 ^ k) := wb_shl x hk
theorem ushL_n {x k : Nat} (hx : x < 2 ^ 64) (hk : k < 64) : jushL (lN x) (nI k) = lN (x / 2 ^ k) := wb_shr hx hk
theorem vt_lt (hw : wfB b) (a : Nat → Nat) (t k : Nat) (hk : k ≤ 6) : vtk b a t k < 256 := by have := vtk_le b hw a t k hk; omega
theorem votesIn_lp (hw : wfB b) (ha : lk (bN b) a) (hS : SB b P g o) : ∀ d k f, k + d = bN b → d < f → fX6_votesIn_14 P f g o (lN (lnb 256 (fun t => vtk b a t k) (bN b))) (nI (l6 a / 16 ^ k)) (nI (l6 (bW b) / 16 ^ k)) (nI k) = some (lN (lnb 256 (vt b a) (bN b)), g) := by
  have hn := hw.2.1
  have ha16 := lk16 hn ha
  have hla := l6_lt ha16
  have hlw := l6_lt (w16 hw)
  intro d
  induction d with
  | zero =>
    intro k f hk hf
    obtain ⟨f, rfl⟩ : ∃ f', f = f' + 1 := ⟨f - 1, by omega⟩
    have hk : k = bN b := hk
    subst hk
    rw [fX6_votesIn_14, hS.1, if_pos (nI_le (by omega) (by omega))]
    rfl
  | succ d ih =>
    intro k f hk hf
    obtain ⟨f, rfl⟩ : ∃ f', f = f' + 1 := ⟨f - 1, by omega⟩
    have h1 := (ha k (by omega)).1
    have hw9 := (hw.2.2.2.1 k (by omega)).1
    have d1 : l6 a / 16 ^ k ≤ l6 a := Nat.div_le_self _ _
    have d2 : l6 (bW b) / 16 ^ k ≤ l6 (bW b) := Nat.div_le_self _ _
    have st := ih (k + 1) f (by omega) (by omega)
    have s81 : ∀ V, fX6_votesIn_81 P (fX6_votesIn_14 P f) g o V (nI (l6 a / 16 ^ k)) (nI (l6 (bW b) / 16 ^ k)) (nI k) = fX6_votesIn_14 P f g o V (nI (l6 a / 16 ^ (k + 1))) (nI (l6 (bW b) / 16 ^ (k + 1))) (nI (k + 1)) := fun V => by
      unfold fX6_votesIn_81
      rw [l_4, jush_n (by omega) (by omega), jush_n (by omega) (by omega), bnd_e, bnd_e, bnd_e, nI_1, show (2 : Nat) ^ 4 = 16 from rfl, div16, div16]
    rw [fX6_votesIn_14, hS.1, if_neg (nI_ge (by omega) (by omega)), and15, l6_at ha16 (by omega), bnd_e, i0 (by omega)]
    by_cases h2 : a k = 0
    · rw [if_pos h2, s81]
      have e : lnb 256 (fun t => vtk b a t (k + 1)) (bN b) = lnb 256 (fun t => vtk b a t k) (bN b) := lnb_cong (fun t ht => by
        show vtk b a t k + (if fcA (bN b) a k = t + 1 then bW b k else 0) = _
        rw [if_neg (by unfold fcA; rw [if_pos h2]; omega), Nat.add_zero])
      rw [e] at st
      exact st
    · have hlt : (k + a k) % bN b < bN b := Nat.mod_lt _ (by omega)
      have hf1 : fcA (bN b) a k = (k + a k) % bN b + 1 := by unfold fcA; rw [if_neg h2]
      have s65 : fX6_votesIn_65 P (fX6_votesIn_14 P f) g o (lN (lnb 256 (fun t => vtk b a t k) (bN b))) (nI (l6 a / 16 ^ k)) (nI (l6 (bW b) / 16 ^ k)) (nI k) (nI ((k + a k) % bN b)) = some (lN (lnb 256 (vt b a) (bN b)), g) := by
        unfold fX6_votesIn_65
        rw [and15, l6_at (w16 hw) (by omega), nI_l (by omega), sh8 (by omega), shlL_n (by omega), lN_add, bnd_e, s81, p8, ← lnb_upd hlt]
        have e : lnb 256 (fun t => vtk b a t (k + 1)) (bN b) = lnb 256 (fun j => if j = (k + a k) % bN b then vtk b a ((k + a k) % bN b) k + bW b k else vtk b a j k) (bN b) := lnb_cong (fun t ht => by
          show vtk b a t k + (if fcA (bN b) a k = t + 1 then bW b k else 0) = _
          rw [hf1]
          by_cases e : t = (k + a k) % bN b
          · rw [if_pos e, if_pos (by omega), e]
          · rw [if_neg e, if_neg (by omega), Nat.add_zero])
        rw [e] at st
        exact st
      have e3 := cfaced_v hn (show k < bN b by omega) h1 h2
      rw [if_neg h2, nI_add, iLE (by omega) (by omega)]
      by_cases h3 : bN b ≤ k + a k
      · rw [if_pos h3] at e3 ⊢
        rw [pk_sub h3, e3]
        exact s65
      · rw [if_neg h3] at e3 ⊢
        rw [e3]
        exact s65
theorem votesIn_eq (hw : wfB b) (ha : lk (bN b) a) (hS : SB b P g o) : fX6_votesIn P g o (nI (l6 a)) = some (lN (lnb 256 (vt b a) (bN b)), g) := by
  have hn := hw.2.1
  have st := votesIn_lp hw ha hS (bN b) 0 fuel (by omega) (by unfold fuel; omega)
  unfold fX6_votesIn
  rw [hS.2.2.1, bnd_e]
  have e : lnb 256 (fun t => vtk b a t 0) (bN b) = 0 := by
    have : ∀ k, lnb 256 (fun t => vtk b a t 0) k = 0 := fun k => by
      induction k with
      | zero => rfl
      | succ k ih => show lnb 256 _ k + 0 * 256 ^ k = 0; rw [ih, Nat.zero_mul]
    exact this _
  rw [e, Nat.pow_zero, Nat.div_one, Nat.div_one] at st
  exact st
theorem votesAt_eq {v : Nat → Nat} {n m : Nat} (hn : n ≤ 6) (hv : ∀ j, j < n → v j < 256) (hm : m < n) : fX1_votesAt (lN (lnb 256 v n)) (nI m) = some (nI (v m)) := by
  have hl := lnb_lt (B := 256) (by omega) hv
  have hp : (256 : Nat) ^ n ≤ 256 ^ 6 := Nat.pow_le_pow_right (by omega) hn
  unfold fX1_votesAt
  rw [sh8 (by omega), ushL_n (by omega) (by omega), p8, lN_i, and255, lnb_at (by omega) hv hm]
theorem chairOf_lp (hS : g.1 o 1 = nI (bN b)) (hn : bN b ≤ 6) {v : Nat → Nat} (hv : ∀ m, m < bN b → v m < 256) : ∀ d k f, k + d = bN b → d < f → fX6_chairOf_15 P f g o (lN (lnb 256 v (bN b) / 256 ^ k)) (pm (chF v k).1) (nI (chF v k).2) (nI k) = some (pm (chF v (bN b)).1, g) := by
  have hl := lnb_lt (B := 256) (by omega) hv
  have hp : (256 : Nat) ^ bN b ≤ 256 ^ 6 := Nat.pow_le_pow_right (by omega) hn
  intro d
  induction d with
  | zero =>
    intro k f hk hf
    obtain ⟨f, rfl⟩ : ∃ f', f = f' + 1 := ⟨f - 1, by omega⟩
    have hk : k = bN b := hk
    subst hk
    rw [fX6_chairOf_15, hS, if_pos (nI_le (by omega) (by omega))]
  | succ d ih =>
    intro k f hk hf
    obtain ⟨f, rfl⟩ : ∃ f', f = f' + 1 := ⟨f - 1, by omega⟩
    have st := ih (k + 1) f (by omega) (by omega)
    have hvk := hv k (by omega)
    have d1 : lnb 256 v (bN b) / 256 ^ k ≤ lnb 256 v (bN b) := Nat.div_le_self _ _
    obtain ⟨c1, c2⟩ := chF_ok v k
    have h2 : (chF v k).2 < 256 := by
      rw [c2]
      split
      · omega
      · exact hv _ (by omega)
    have s47 : ∀ c w, fX6_chairOf_47 P (fX6_chairOf_15 P f) g o (lN (lnb 256 v (bN b) / 256 ^ k)) c w (nI k) = fX6_chairOf_15 P f g o (lN (lnb 256 v (bN b) / 256 ^ (k + 1))) c w (nI (k + 1)) := fun c w => by
      unfold fX6_chairOf_47
      rw [l_8, ushL_n (by omega) (by omega), bnd_e, bnd_e, nI_1, show (2 : Nat) ^ 8 = 256 from rfl, Nat.div_div_eq_div_mul, ← Nat.pow_succ]
    rw [fX6_chairOf_15, hS, if_neg (nI_ge (by omega) (by omega)), lN_i, and255, lnb_at (by omega) hv (by omega), bnd_e, iLE (by omega) (by omega)]
    by_cases h3 : v k ≤ (chF v k).2
    · rw [if_pos h3, s47]
      have e : chF v (k + 1) = chF v k := if_neg (by omega)
      rw [e] at st
      exact st
    · rw [if_neg h3, s47]
      have e : chF v (k + 1) = (k + 1, v k) := if_pos (by omega)
      rw [e] at st
      exact st
theorem chairOf_eq (hw : wfB b) (ha : lk (bN b) a) (hS : SB b P g o) : fX6_chairOf P g o (nI (l6 a)) = some (pm (chA b a), g) := by
  have hn := hw.2.1
  unfold fX6_chairOf
  rw [votesIn_eq hw ha hS, bndc_s]
  have st := chairOf_lp (P := P) hS.1 hn (v := vt b a) (fun m _ => vt_lt hw a m (bN b) hn) (bN b) 0 fuel (by omega) (by unfold fuel; omega)
  rw [Nat.pow_zero, Nat.div_one] at st
  exact st
theorem cLen0 {w : Nat} {l : Lw} (h : inP P w l) (hl : l.length ≤ 899) : (nI (P.2.2 w).1 = 0) ↔ l = [] := by rw [h.2.1]; exact len0 hl
theorem price_eq (ho : okS o) (hw : wfB b) (hS : SB b P g o) {m : Nat} (hm : m < bN b) : Ev (fX6_price P g o (nI m)) (fun q => q.1 = nI (prA b m) ∧ fC [(10, 1)] [11] [] g q.2) := by
  have hn := hw.2.1
  have hC := hS.2.2.2.2.2.1
  unfold fX6_price prA
  refine Ev.k (decide_eq_true hC.1) ?_
  by_cases h4 : bC b = []
  · rw [if_pos ((cLen0 hC hw.2.2.2.2.2.2.1.1).mpr h4), if_pos h4]
    exact ev_some.mpr ⟨rfl, fC.refl g⟩
  · rw [if_neg (fun z => h4 ((cLen0 hC hw.2.2.2.2.2.2.1.1).mp z)), if_neg h4, hS.2.2.1, at_l6 (w16 hw) (by omega), bndv_s]
    have hW9 := (hw.2.2.2.1 m (by omega)).1
    refine Ev.c (reckon_eq (e := en4 (nI m) (nI (bW b m)) 0 0) hC (en4_ok (kv_n (by omega)) (kv_n (by omega)) (kv_n (k := 0) (by omega)) (kv_n (k := 0) (by omega))) (lwC hw h4) (by have := hw.2.2.2.2.2.2.1.1; omega)) ?_
    rintro r g2 ⟨q1, q2, q3⟩
    dsimp only at q1
    subst q1
    exact ev_some.mpr ⟨(clamp99 _).1, q3⟩
theorem pace_eq (ho : okS o) (hw : wfB b) (hS : SB b P g o) {m x y : Nat} (hm : m < bN b) (hx : x ≤ 1000) (hy : y ≤ 1000) : Ev (fX6_pace P g o (nI m) (nI x) (nI y)) (fun q => q.1 = nI (paA b m x y) ∧ fC [(10, 1)] [11] [] g q.2) := by
  have hn := hw.2.1
  have hG := hS.2.2.2.2.2.2
  unfold fX6_pace paA
  refine Ev.k (decide_eq_true hG.1) ?_
  by_cases h4 : bG b = []
  · rw [if_pos ((cLen0 hG hw.2.2.2.2.2.2.2.1).mpr h4), if_pos h4]
    exact ev_some.mpr ⟨rfl, fC.refl g⟩
  · rw [if_neg (fun z => h4 ((cLen0 hG hw.2.2.2.2.2.2.2.1).mp z)), if_neg h4, hS.1, if_pos (show (1 : Int32) ≤ nI (bN b) from nI_le (a := 1) (by have := hw.1; omega) (by omega)), hS.2.2.1, at_l6 (w16 hw) (by omega), bndv_s]
    have hW9 := (hw.2.2.2.1 m (by omega)).1
    refine Ev.c (reckon_eq (e := en4 (nI m) (nI (bW b m)) (nI x) (nI y)) hG (en4_ok (kv_n (by omega)) (kv_n (by omega)) (kv_n (by omega)) (kv_n (by omega))) (lwG hw h4) (by have := hw.2.2.2.2.2.2.2.1; omega)) ?_
    rintro r g2 ⟨q1, q2, q3⟩
    dsimp only at q1 q2
    have hS2 : g2.1 o 1 = nI (bN b) := by rw [q3.i o 1 (no10 ho 1 (by omega))]; exact hS.1
    rw [hS2]
    refine Ev.k (nz_n (by have := hw.1; omega) (by omega)) (ev_some.mpr ⟨?_, q3⟩)
    show jfm r (nI (bN b)) = _
    rw [jfm_v q2 hw.1 hw.2.1, q1]
    rfl
theorem apA_comm (n i j : Nat) : apA n i j = apA n j i := by
  unfold apA
  dsimp only
  repeat' split
  all_goals omega
theorem cdrag_lp (ho : okS o) (hw : wfB b) (hD : bD b ≠ []) {i : Nat} (hi : i < bN b) : ∀ d k f (g : CS) (x : Nat), k + d = bN b → d < f → SB b P g o → x < 64 → (∀ j, j < 6 → x.testBit j = if j < k then drA b i j else decide (j = i)) → Ev (fX6_draggedBy_26 P f g o (nI i) (nI x) (nI (bW b i)) (nI k)) (fun q => (∃ z, q.1 = nI z ∧ z < 64 ∧ ∀ j, j < 6 → z.testBit j = (decide (j < bN b) && drA b i j)) ∧ fC [(10, 1)] [11] [] g q.2) := by
  have hn := hw.2.1
  intro d
  induction d with
  | zero =>
    intro k f g x hk hf hS hx hb
    obtain ⟨f, rfl⟩ : ∃ f', f = f' + 1 := ⟨f - 1, by omega⟩
    rw [fX6_draggedBy_26, hS.1, if_pos (nI_le (by omega) (by omega))]
    refine ev_some.mpr ⟨⟨x, rfl, hx, fun j hj => ?_⟩, fC.refl g⟩
    rw [hb j hj]
    by_cases h : j < bN b
    · rw [if_pos (by omega), decide_eq_true h, Bool.true_and]
    · rw [if_neg (by omega), decide_eq_false h, Bool.false_and, decide_eq_false (by omega)]
  | succ d ih =>
    intro k f g x hk hf hS hx hb
    obtain ⟨f, rfl⟩ : ∃ f', f = f' + 1 := ⟨f - 1, by omega⟩
    rw [fX6_draggedBy_26, hS.1, if_neg (nI_ge (by omega) (by omega)), jabs_n (by omega) (by omega), bnd_e, pk_sub (by split <;> omega), jmin_n (by split <;> omega) (by omega), bnd_e, iEQ (by omega) (by omega)]
    by_cases h1 : k = i
    · rw [if_pos h1, nI_1, bnd_e]
      refine ih (k + 1) f g x (by omega) (by omega) hS hx (fun j hj => ?_)
      rw [hb j hj]
      by_cases h2 : j < k
      · rw [if_pos h2, if_pos (by omega)]
      · rw [if_neg h2]
        by_cases h3 : j = k
        · rw [if_pos (by omega), decide_eq_true (by omega)]
          unfold drA
          rw [decide_eq_true (show i = j by omega), Bool.true_or]
        · rw [if_neg (by omega)]
    · have ap : (if bN b - (if k < i then i - k else k - i) < (if k < i then i - k else k - i) then bN b - (if k < i then i - k else k - i) else (if k < i then i - k else k - i)) = apA (bN b) i k := by
        rw [apA_comm]
        rfl
      have hW9 := (hw.2.2.2.1 i (by omega)).1
      have hap := apA_le (n := bN b) (i := i) (j := k) (by omega) (by omega)
      rw [if_neg h1, ap]
      refine Ev.c (reckon_eq (e := en4 (nI i) (nI (bW b i)) (nI k) (nI (apA (bN b) i k))) hS.2.2.2.2.1 (en4_ok (kv_n (by omega)) (kv_n (by omega)) (kv_n (by omega)) (kv_n (by omega))) (lwD hw hD) (by have := hw.2.2.2.2.2.1.1; omega)) ?_
      rintro r g2 ⟨q1, q2, q3⟩
      dsimp only at q1 q2
      have hS2 := hS.keep q3 (no10 ho)
      have hd1 : drA b i k = decide (r = 1) := by
        unfold drA
        rw [decide_eq_false (fun e => h1 e.symm), decide_eq_true hD, Bool.false_or, Bool.true_and, q1]
      have h64 : x + 2 ^ k < 128 := by
        have : (2 : Nat) ^ k ≤ 2 ^ 5 := Nat.pow_le_pow_right (by omega) (by omega)
        omega
      rcases q2 with q | q
      · rw [if_pos q, nI_1, bnd_e]
        refine (ih (k + 1) f g2 x (by omega) (by omega) hS2 hx (fun j hj => ?_)).mono (fun z hz => ⟨hz.1, q3.trans hz.2⟩)
        rw [hb j hj]
        by_cases h2 : j < k
        · rw [if_pos h2, if_pos (by omega)]
        · rw [if_neg h2]
          by_cases h3 : j = k
          · rw [if_pos (by omega), h3, hd1, q, decide_eq_false h1]
            rfl
          · rw [if_neg (by omega)]
      · rw [if_neg (by rw [q]; decide), shl1 (by omega), fa_or, bnd_e, nI_1, bnd_e]
        have hlt : x ||| 2 ^ k < 64 := Nat.or_lt_two_pow (n := 6) hx (by
          have : (2 : Nat) ^ k ≤ 2 ^ 5 := Nat.pow_le_pow_right (by omega) (by omega)
          omega)
        refine (ih (k + 1) f g2 (x ||| 2 ^ k) (by omega) (by omega) hS2 hlt (fun j hj => ?_)).mono (fun z hz => ⟨hz.1, q3.trans hz.2⟩)
        rw [fb_bit_set, hb j hj]
        by_cases h2 : j < k
        · rw [if_pos h2, if_pos (by omega), decide_eq_false (show ¬ j = k by omega), Bool.or_false]
        · rw [if_neg h2]
          by_cases h3 : j = k
          · rw [if_pos (by omega), decide_eq_true h3, Bool.or_true, h3, hd1, q]
            rfl
          · rw [if_neg (by omega), decide_eq_false h3, Bool.or_false]
theorem eq_bs {z n : Nat} {p : Nat → Bool} (hn : n ≤ 6) (hz : z < 64) (h : ∀ j, j < 6 → z.testBit j = (decide (j < n) && p j)) : z = bs p n := by
  apply Nat.eq_of_testBit_eq
  intro i
  rw [bs_tb]
  by_cases hi : i < 6
  · exact h i hi
  · rw [decide_eq_false (by omega), Bool.false_and]
    exact Nat.testBit_lt_two_pow (Nat.lt_of_lt_of_le hz (by
      have : (2 : Nat) ^ 6 ≤ 2 ^ i := Nat.pow_le_pow_right (by omega) (by omega)
      omega))
theorem cDragged_eq (ho : okS o) (hw : wfB b) (hS : SB b P g o) {i : Nat} (hi : i < bN b) : Ev (fX6_draggedBy P g o (nI i)) (fun q => q.1 = nI (bs (drA b i) (bN b)) ∧ fC [(10, 1)] [11] [] g q.2) := by
  have hn := hw.2.1
  have hD := hS.2.2.2.2.1
  have hp : (2 : Nat) ^ i ≤ 2 ^ 5 := Nat.pow_le_pow_right (by omega) (by omega)
  have tb1 : ∀ j, (2 ^ i).testBit j = decide (j = i) := fun j => by
    rw [Nat.testBit_two_pow]
    exact decide_eq_decide.mpr ⟨fun e => e.symm, fun e => e.symm⟩
  unfold fX6_draggedBy
  rw [shl1 (by omega), bnd_e]
  refine Ev.k (decide_eq_true hD.1) ?_
  by_cases h4 : bD b = []
  · rw [if_pos ((cLen0 hD hw.2.2.2.2.2.1.1).mpr h4)]
    refine ev_some.mpr ⟨congrArg nI (eq_bs hn (by omega) (fun j hj => ?_)), fC.refl g⟩
    rw [tb1]
    unfold drA
    rw [decide_eq_false (not_not_intro h4), Bool.false_and, Bool.or_false]
    by_cases e : j = i
    · rw [decide_eq_true e, decide_eq_true (by omega), decide_eq_true e.symm]; rfl
    · rw [decide_eq_false e, decide_eq_false (show ¬ i = j from fun z => e z.symm), Bool.and_false]
  · rw [if_neg (fun z => h4 ((cLen0 hD hw.2.2.2.2.2.1.1).mp z)), hS.2.2.1, at_l6 (w16 hw) (by omega), bndv_s]
    refine (cdrag_lp ho hw h4 hi (bN b) 0 fuel g (2 ^ i) (by omega) (by unfold fuel; omega) hS (by omega) (fun j hj => by rw [if_neg (Nat.not_lt_zero j)]; exact tb1 j)).mono ?_
    rintro ⟨r, g2⟩ ⟨⟨z, q1, q2, q3⟩, q4⟩
    exact ⟨q1.trans (congrArg nI (eq_bs hn q2 q3)), q4⟩
theorem andnot : ∀ x, x < 64 → ∀ s, s < 64 → (nI x &&& (nI s ^^^ (-1 : Int32))) = nI (x &&& (63 - s)) := by decide +kernel
theorem cmpl (s : Nat) (hs : s < 64) : ∀ j, j < 6 → (63 - s).testBit j = !s.testBit j := (by decide +kernel : ∀ s, s < 64 → ∀ j, j < 6 → (63 - s).testBit j = !s.testBit j) s hs
theorem turningWith_eq (ho : okS o) (hw : wfB b) (hS : SB b P g o) {i : Nat} (hi : i < bN b) : Ev (fX6_turningWith P g o (nI i)) (fun q => q.1 = nI (bs (alA b i) (bN b)) ∧ fC [(10, 1)] [11] [] g q.2) := by
  have hn := hw.2.1
  unfold fX6_turningWith
  rw [cStuck_eq hw hS (by omega), bndc_s]
  cases h1 : stk b i with
  | true =>
    rw [if_neg (by decide)]
    refine ev_some.mpr ⟨congrArg nI (eq_bs (z := 0) hn (by omega) (fun j hj => ?_)), fC.refl g⟩
    unfold alA
    rw [h1]
    simp
  | false =>
    rw [if_pos (by decide)]
    refine Ev.c (cDragged_eq ho hw hS hi) ?_
    rintro r g2 ⟨q1, q2⟩
    dsimp only at q1
    have hlt := bs_lt (drA b i) (bN b)
    have hp : (2 : Nat) ^ bN b ≤ 2 ^ 6 := Nat.pow_le_pow_right (by omega) hn
    rw [q1, (hS.keep q2 (no10 ho)).2.2.2.1, andnot _ (by omega) _ (s64 hw)]
    refine ev_some.mpr ⟨congrArg nI (eq_bs hn (Nat.lt_of_le_of_lt Nat.and_le_left (by omega)) (fun j hj => ?_)), q2⟩
    rw [Nat.testBit_and, bs_tb, cmpl _ (s64 hw) j hj]
    unfold alA
    rw [h1]
    show (_ && _ && !(stk b j)) = _
    cases decide (j < bN b) <;> cases drA b i j <;> cases stk b j <;> rfl
end
