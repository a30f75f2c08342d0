/-! ===== deeds, told: what each makes of a board ===== -/
theorem within_eq (x l h : Int64) : fX12_within x l h = some (if l.toInt ≤ x.toInt ∧ x.toInt ≤ h.toInt then (1 : Int32) else 0) := by
  unfold fX12_within
  simp only [lg_cmp_lt, lg_cmp_gt, fa_lt64]
  by_cases h1 : x.toInt < l.toInt
  · rw [if_pos h1, if_neg (by omega)]
  · rw [if_neg h1]
    by_cases h2 : h.toInt < x.toInt
    · rw [if_pos h2, if_neg (by omega)]
    · rw [if_neg h2, if_pos (by omega)]
theorem within_y {x l h : Int64} (h1 : l.toInt ≤ x.toInt) (h2 : x.toInt ≤ h.toInt) : fX12_within x l h = some (1 : Int32) := by rw [within_eq, if_pos ⟨h1, h2⟩]
theorem within_n {x l h : Int64} (h1 : ¬ (l.toInt ≤ x.toInt ∧ x.toInt ≤ h.toInt)) : fX12_within x l h = some (0 : Int32) := by rw [within_eq, if_neg h1]
theorem i64 (x : Int32) : x.toInt64.toInt = x.toInt := Int32.toInt_toInt64 x
theorem lN_I {n : Nat} (h : n < 2 ^ 31) : (lN n).toInt = (n : Int) := lN_toInt h
theorem neg_of {x : Int32} (h : x < 0) : x.toInt < 0 := by rw [fa_lt] at h; have e : (0 : Int32).toInt = 0 := rfl; omega
def tuB (b : AB) (m k : Nat) : AB := setA b (fun j => (bA b j + (if j < bN b ∧ alA b m j = true then k else 0)) % bN b)
def weB (b : AB) (m v : Nat) : AB := setW b (fun j => if j = m then v else bW b j)
def stB (b : AB) (m : Nat) : AB := setS b (bS b ^^^ 2 ^ m)
def miB (b : AB) : AB := setA b (mnA b (bA b))
def trN (b : AB) (m k : Nat) : Nat × AB := if m < bN b ∧ 1 ≤ k ∧ k < bN b then (if stk b m then (2, b) else (0, tuB b m k)) else (1, b)
def weN (b : AB) (m v : Nat) : Nat × AB := if m < bN b ∧ 1 ≤ v ∧ v ≤ 9 then (0, weB b m v) else (1, b)
def stN (b : AB) (m : Nat) : Nat × AB := if m < bN b then (0, stB b m) else (1, b)
def toldN (b : AB) (n : Nat) : Nat × AB := if n < 100 then trN b (n / 10) (n % 10) else if n < 200 then weN b ((n - 100) / 10) (n % 10) else if n < 300 then stN b (n - 200) else (1, b)
def toldA (b : AB) (v : Int64) : Nat × AB := if v.toInt = -1 then (0, miB b) else if v.toInt < 0 then (1, b) else if 299 < v.toInt then (1, b) else toldN b v.toInt.toNat
def doA (q : AQ) (b' : AB) : AQ := (b', (keepA q).2)
def ddA (q : AQ) (r : Nat × AB) : AQ := if r.1 = 0 then doA q r.2 else q
theorem wf_tuB {b : AB} (hw : wfB b) (m k : Nat) : wfB (tuB b m k) := ⟨hw.1, hw.2.1, fun j hj => ⟨Nat.mod_lt _ (by have := hw.1; omega), fun h => by
  show (bA b j + (if j < bN b ∧ alA b m j = true then k else 0)) % bN b = 0
  have h : bN b ≤ j := h
  rw [if_neg (by omega), (hw.2.2.1 j hj).2 h, Nat.add_zero, Nat.zero_mod]⟩, hw.2.2.2⟩
theorem wf_weB {b : AB} (hw : wfB b) {m v : Nat} (hm : m < bN b) (h1 : 1 ≤ v) (h9 : v ≤ 9) : wfB (weB b m v) := ⟨hw.1, hw.2.1, hw.2.2.1, fun j hj => by
  have h := hw.2.2.2.1 j hj
  show (if j = m then v else bW b j) ≤ 9 ∧ (j < bN b → 1 ≤ (if j = m then v else bW b j)) ∧ (bN b ≤ j → (if j = m then v else bW b j) = 0)
  by_cases e : j = m
  · rw [if_pos e]; exact ⟨h9, fun _ => h1, fun z => by omega⟩
  · rw [if_neg e]; exact h, hw.2.2.2.2⟩
theorem wf_stB {b : AB} (hw : wfB b) {m : Nat} (hm : m < bN b) : wfB (stB b m) := ⟨hw.1, hw.2.1, hw.2.2.1, hw.2.2.2.1, Nat.xor_lt_two_pow hw.2.2.2.2.1 (Nat.pow_lt_pow_right (by omega) hm), hw.2.2.2.2.2⟩
theorem wf_miB {b : AB} (hw : wfB b) : wfB (miB b) := ⟨hw.1, hw.2.1, by have h := mnA_lk hw hw.2.2.1; exact h, hw.2.2.2⟩
theorem trN_wf {b : AB} (hw : wfB b) (m k : Nat) : wfB (trN b m k).2 ∧ bN (trN b m k).2 = bN b := by
  unfold trN
  repeat' split
  · exact ⟨hw, rfl⟩
  · exact ⟨wf_tuB hw m k, rfl⟩
  · exact ⟨hw, rfl⟩
theorem weN_wf {b : AB} (hw : wfB b) (m k : Nat) : wfB (weN b m k).2 ∧ bN (weN b m k).2 = bN b := by
  unfold weN
  split
  · rename_i h; exact ⟨wf_weB hw h.1 h.2.1 h.2.2, rfl⟩
  · exact ⟨hw, rfl⟩
theorem stN_wf {b : AB} (hw : wfB b) (m : Nat) : wfB (stN b m).2 ∧ bN (stN b m).2 = bN b := by
  unfold stN
  split
  · rename_i h; exact ⟨wf_stB hw h, rfl⟩
  · exact ⟨hw, rfl⟩
theorem toldN_wf {b : AB} (hw : wfB b) (n : Nat) : wfB (toldN b n).2 ∧ bN (toldN b n).2 = bN b := by
  unfold toldN
  repeat' split
  · exact trN_wf hw _ _
  · exact weN_wf hw _ _
  · exact stN_wf hw _
  · exact ⟨hw, rfl⟩
theorem toldA_wf {b : AB} (hw : wfB b) (v : Int64) : wfB (toldA b v).2 ∧ bN (toldA b v).2 = bN b := by
  unfold toldA
  repeat' split
  · exact ⟨wf_miB hw, rfl⟩
  · exact ⟨hw, rfl⟩
  · exact ⟨hw, rfl⟩
  · exact toldN_wf hw _
theorem trN_le (b : AB) (m k : Nat) : (trN b m k).1 ≤ 2 := by
  unfold trN
  split
  · split
    · exact Nat.le_refl 2
    · exact Nat.zero_le 2
  · exact (by decide : 1 ≤ 2)
theorem weN_le (b : AB) (m k : Nat) : (weN b m k).1 ≤ 2 := by
  unfold weN
  split
  · exact Nat.zero_le 2
  · exact (by decide : 1 ≤ 2)
theorem stN_le (b : AB) (m : Nat) : (stN b m).1 ≤ 2 := by
  unfold stN
  split
  · exact Nat.zero_le 2
  · exact (by decide : 1 ≤ 2)
theorem toldN_le (b : AB) (n : Nat) : (toldN b n).1 ≤ 2 := by
  unfold toldN
  repeat' split
  · exact trN_le b _ _
  · exact weN_le b _ _
  · exact stN_le b _
  · simp
theorem toldA_le (b : AB) (v : Int64) : (toldA b v).1 ≤ 2 := by
  unfold toldA
  repeat' split
  · simp
  · simp
  · simp
  · exact toldN_le b _
theorem wfQ_do {q : AQ} {b' : AB} (h : wfQ q) (hb : wfB b') (hn : bN b' = bN (qB q)) : wfQ (doA q b') := by
  have h2 := wfQ_keep h
  refine ⟨hb, h2.2.1, h2.2.2.1, fun j hj => ?_⟩
  show wfP (bN b') _
  rw [hn, ← keepA_B q]
  exact h2.2.2.2 j hj
theorem wfQ_dd {q : AQ} {r : Nat × AB} (h : wfQ q) (hb : wfB r.2 ∧ bN r.2 = bN (qB q)) : wfQ (ddA q r) := by
  unfold ddA
  split
  · exact wfQ_do h hb.1 hb.2
  · exact h
theorem doA_B (q : AQ) (b' : AB) : qB (doA q b') = b' := rfl
/-! ===== the reference does deeds ===== -/
theorem KB.mA {b : AB} {k k' : Nat → Int32} {a' : Nat → Nat} (hw : wfB b) (h : KB b k) (h1 : ∀ m, m < bN b → k' (6 + m) = nI (a' m)) (h2 : ∀ i, (i < 6 ∨ 12 ≤ i) → k' i = k i) : KB (setA b a') k' := by
  obtain ⟨a1, a2, a3, a4, a5, a6, a7, a8, a9, a10⟩ := h
  exact ⟨by rw [h2 1 (by omega)]; exact a1, by rw [h2 18 (by omega)]; exact a2, h1, fun m hm => by rw [h2 _ (by omega)]; exact a4 m hm, by rw [h2 2 (by omega)]; exact a5, by rw [h2 3 (by omega)]; exact a6, by rw [h2 4 (by omega)]; exact a7, fun i hi => by rw [h2 _ (by omega)]; exact a8 i hi, fun i hi => by rw [h2 _ (by omega)]; exact a9 i hi, fun i hi => by rw [h2 _ (by omega)]; exact a10 i hi⟩
theorem KB.mW {b : AB} {k k' : Nat → Int32} {w' : Nat → Nat} (hw : wfB b) (h : KB b k) (h1 : ∀ m, m < bN b → k' (12 + m) = nI (w' m)) (h2 : ∀ i, (i < 12 ∨ 18 ≤ i) → k' i = k i) : KB (setW b w') k' := by
  have hn := hw.2.1
  obtain ⟨a1, a2, a3, a4, a5, a6, a7, a8, a9, a10⟩ := h
  exact ⟨by rw [h2 1 (by omega)]; exact a1, by rw [h2 18 (by omega)]; exact a2, fun m hm => by have hm : m < bN b := hm; rw [h2 _ (by omega)]; exact a3 m hm, h1, by rw [h2 2 (by omega)]; exact a5, by rw [h2 3 (by omega)]; exact a6, by rw [h2 4 (by omega)]; exact a7, fun i hi => by rw [h2 _ (by omega)]; exact a8 i hi, fun i hi => by rw [h2 _ (by omega)]; exact a9 i hi, fun i hi => by rw [h2 _ (by omega)]; exact a10 i hi⟩
theorem KB.mS {b : AB} {k k' : Nat → Int32} {s' : Nat} (hw : wfB b) (h : KB b k) (h1 : k' 18 = nI s') (h2 : ∀ i, i ≠ 18 → k' i = k i) : KB (setS b s') k' := by
  have hn := hw.2.1
  obtain ⟨a1, a2, a3, a4, a5, a6, a7, a8, a9, a10⟩ := h
  exact ⟨by rw [h2 1 (by omega)]; exact a1, h1, fun m hm => by have hm : m < bN b := hm; rw [h2 _ (by omega)]; exact a3 m hm, fun m hm => by have hm : m < bN b := hm; rw [h2 _ (by omega)]; exact a4 m hm, by rw [h2 2 (by omega)]; exact a5, by rw [h2 3 (by omega)]; exact a6, by rw [h2 4 (by omega)]; exact a7, fun i hi => by rw [h2 _ (by omega)]; exact a8 i hi, fun i hi => by rw [h2 _ (by omega)]; exact a9 i hi, fun i hi => by rw [h2 _ (by omega)]; exact a10 i hi⟩
section
variable {b : AB} {g : MS}
theorem sizeq {n : Nat} (h : g.2.1 0 1 = nI n) : fX12_size g = some (nI n, g) := by
  unfold fX12_size
  rw [chk_tt (by decide)]
  show some (g.2.1 0 1, g) = _
  rw [h]
theorem isM_eq (hw : wfB b) (hK : KB b (g.2.1 0)) (x : Int64) : fX12_isMember g x = some (if 0 ≤ x.toInt ∧ x.toInt < bN b then (1 : Int32) else 0, g) := by
  have h1 := hw.1
  have h2 := hw.2.1
  unfold fX12_isMember
  rw [size_eq hK, bndc_s, l_1, pk_sub (by omega), nI_l (by omega), within_eq, bndv_s, lN_I (by omega)]
  have e : ((0 : Int64).toInt ≤ x.toInt ∧ x.toInt ≤ ((bN b - 1 : Nat) : Int)) ↔ (0 ≤ x.toInt ∧ x.toInt < bN b) := by
    have e0 : (0 : Int64).toInt = 0 := rfl
    omega
  simp only [e]
  by_cases h : 0 ≤ x.toInt ∧ x.toInt < bN b
  · rw [if_pos h, if_pos h]; rfl
  · rw [if_neg h, if_neg h]; rfl
theorem isM_y (hw : wfB b) (hK : KB b (g.2.1 0)) {m : Nat} (hm : m < bN b) : fX12_isMember g (lN m) = some ((1 : Int32), g) := by
  have h2 := hw.2.1
  rw [isM_eq hw hK, lN_I (by omega), if_pos (by omega)]
theorem isM_n (hw : wfB b) (hK : KB b (g.2.1 0)) {m : Nat} (hm : ¬ m < bN b) (h31 : m < 2 ^ 31) : fX12_isMember g (lN m) = some ((0 : Int32), g) := by
  rw [isM_eq hw hK, lN_I (by omega), if_neg (by omega)]
theorem isM_neg (hw : wfB b) (hK : KB b (g.2.1 0)) {x : Int64} (hx : x.toInt < 0) : fX12_isMember g x = some ((0 : Int32), g) := by
  rw [isM_eq hw hK, if_neg (by omega)]
theorem whyTurn_eq (hw : wfB b) (hK : KB b (g.2.1 0)) {m k : Nat} (hm : m < 2 ^ 31) (hk : k < 2 ^ 31) : fX12_whyTurn g (lN m) (lN k) = some (nI (trN b m k).1, g) := by
  have h1 := hw.1
  have h2 := hw.2.1
  unfold fX12_whyTurn trN fX12_whyTurn_23
  by_cases hmn : m < bN b
  · rw [isM_y hw hK hmn, bndc_s, if_neg (by decide), size_eq hK, bndc_s, l_1, pk_sub (by omega), nI_l (by omega)]
    have e1 : (1 : Int64).toInt = 1 := rfl
    by_cases hkn : 1 ≤ k ∧ k < bN b
    · rw [within_y (by rw [e1, lN_I hk]; omega) (by rw [lN_I hk, lN_I (by omega)]; omega), bndv_s, if_neg (by decide), lN_i, isStuck_eq hw hK (by omega), bndc_s, if_pos (show m < bN b ∧ 1 ≤ k ∧ k < bN b from ⟨hmn, hkn⟩)]
      cases stk b m
      · rw [if_pos (show nI false.toNat = 0 from rfl)]; rfl
      · rw [if_neg (show ¬ nI true.toNat = 0 by decide)]; rfl
    · rw [within_n (by rw [e1, lN_I hk, lN_I (by omega)]; omega), bndv_s, if_pos rfl, if_neg (fun z => hkn z.2)]
  · rw [isM_n hw hK hmn hm, bndc_s, if_pos rfl, if_neg (fun z => hmn z.1)]; rfl
theorem whyTurn_n1 (hw : wfB b) (hK : KB b (g.2.1 0)) {x y : Int64} (hx : x.toInt < 0) : fX12_whyTurn g x y = some (1, g) := by
  unfold fX12_whyTurn fX12_whyTurn_23
  rw [isM_neg hw hK hx, bndc_s, if_pos rfl]
theorem whyTurn_n2 (hw : wfB b) (hK : KB b (g.2.1 0)) {x y : Int64} (hy : y.toInt < 0) : fX12_whyTurn g x y = some (1, g) := by
  have h1 := hw.1
  have h2 := hw.2.1
  unfold fX12_whyTurn fX12_whyTurn_23
  rw [isM_eq hw hK, bndc_s]
  by_cases h : 0 ≤ x.toInt ∧ x.toInt < bN b
  · rw [if_pos h, if_neg (by decide), size_eq hK, bndc_s, l_1, pk_sub (by omega), nI_l (by omega), within_n (by have e1 : (1 : Int64).toInt = 1 := rfl; omega), bndv_s, if_pos rfl]
  · rw [if_neg h, if_pos rfl]
theorem whyTold_eq (hw : wfB b) (hK : KB b (g.2.1 0)) (v : Int64) : fX12_whyTold g v = some (nI (toldA b v).1, g) := by
  have h2 := hw.2.1
  have em : (-1 : Int64).toInt = -1 := rfl
  have e0 : (0 : Int64).toInt = 0 := rfl
  have e99 : (99 : Int64).toInt = 99 := rfl
  have e100 : (100 : Int64).toInt = 100 := rfl
  have e199 : (199 : Int64).toInt = 199 := rfl
  have e200 : (200 : Int64).toInt = 200 := rfl
  have e299 : (299 : Int64).toInt = 299 := rfl
  unfold fX12_whyTold toldA
  simp only [lg_cmp_eq, fa_eq64, em]
  by_cases h1 : v.toInt = -1
  · rw [if_pos h1, if_pos h1]; rfl
  · rw [if_neg h1, if_neg h1]
    by_cases h3 : v.toInt < 0
    · rw [if_pos h3, within_n (by omega), bndv_s, if_pos rfl, within_n (by omega), bndv_s, if_pos rfl, within_n (by omega), bndv_s, if_pos rfl]; rfl
    · rw [if_neg h3]
      by_cases h4 : 299 < v.toInt
      · rw [if_pos h4, within_n (by omega), bndv_s, if_pos rfl, within_n (by omega), bndv_s, if_pos rfl, within_n (by omega), bndv_s, if_pos rfl]; rfl
      · rw [if_neg h4]
        obtain ⟨n, hn, hv⟩ : ∃ n : Nat, n < 300 ∧ v = lN n := ⟨v.toInt.toNat, by omega, Int64.toInt_inj.mp (by rw [lN_I (by omega)]; omega)⟩
        subst hv
        rw [lN_I (by omega)] at h1 h3 h4 ⊢
        rw [Int.toNat_natCast]
        unfold toldN
        have lI := lN_I (n := n) (by omega)
        by_cases h5 : n < 100
        · rw [if_pos h5, within_y (by omega) (by omega), bndv_s, if_neg (by decide), chk_tt (by decide), chk_tt (by decide), lL_10, pk_lDiv (by omega) (by omega) (by omega)]
          show bndc (fX12_whyTurn g (lN (n / 10)) (lN n - lN n / lN 10 * lN 10)) _ = _
          rw [pk_lRem (by omega) (by omega) (by omega), whyTurn_eq hw hK (by omega) (by omega), bndc_s]
        · rw [if_neg h5, within_n (by omega), bndv_s, if_pos rfl]
          by_cases h6 : n < 200
          · rw [if_pos h6, within_y (by omega) (by omega), bndv_s, if_neg (by decide), chk_tt (by decide), lL_100, lL_10, lN_sub (by omega), pk_lDiv (by omega) (by omega) (by omega)]
            unfold weN
            by_cases h7 : (n - 100) / 10 < bN b
            · rw [isM_y hw hK h7, bndc_s, if_neg (by decide), chk_tt (by decide)]
              show (if lg_cmp (lN n - lN n / lN 10 * lN 10) 0 ≤ 0 then _ else _) = _
              rw [pk_lRem (by omega) (by omega) (by omega)]
              simp only [lg_cmp_le, fa_le64, e0]
              rw [lN_I (by omega)]
              by_cases h8 : n % 10 = 0
              · rw [if_pos (by omega), if_neg (by omega)]; rfl
              · rw [if_neg (by omega), if_pos (by omega)]; rfl
            · rw [isM_n hw hK h7 (by omega), bndc_s, if_pos rfl, if_neg (by omega)]; rfl
          · rw [if_neg h6, within_n (by omega), bndv_s, if_pos rfl, within_y (by omega) (by omega), bndv_s, if_neg (by decide), lL_200, lN_sub (by omega), if_pos hn]
            unfold stN
            by_cases h7 : n - 200 < bN b
            · rw [isM_y hw hK h7, bndc_s, if_neg (by decide), if_pos h7]; rfl
            · rw [isM_n hw hK h7 (by omega), bndc_s, if_pos rfl, if_neg h7]; rfl
/-- what a deed of the reference leaves -/
def DM (b' : AB) (g g' : MS) : Prop := KB b' (g'.2.1 0) ∧ (∀ i, (i < 6 ∨ 19 ≤ i) → g'.2.1 0 i = g.2.1 0 i) ∧ fM [] [0, 19, 20, 21, 22, 23] g g'
theorem turnsBy_lp (hw : wfB b) {m k : Nat} (hk : k < bN b) (k0 : Nat → Int32) (hK : KB b k0) : ∀ d y f (g : MS), y + d = bN b → d < f → (∀ i, g.2.1 0 i = if 6 ≤ i ∧ i < 6 + y then nI (bA (tuB b m k) (i - 6)) else k0 i) → Ev (fX12_turnsBy_9 f g (nI k) (nI (bs (alA b m) (bN b))) (nI y)) (fun g' => (∀ i, g'.2.1 0 i = if 6 ≤ i ∧ i < 6 + bN b then nI (bA (tuB b m k) (i - 6)) else k0 i) ∧ fM [] [0] g g') := by
  have hn := hw.2.1
  have hn2 := hw.1
  intro d
  induction d with
  | zero =>
    intro y f g hy hf h
    obtain ⟨f, rfl⟩ : ∃ f', f = f' + 1 := ⟨f - 1, by omega⟩
    have hy : y = bN b := hy
    subst hy
    rw [fX12_turnsBy_9, sizeq (n := bN b) (by rw [h 1, if_neg (by omega)]; exact hK.1), bndc_s, if_pos (nI_le (by omega) (by omega))]
    exact ev_some.mpr ⟨h, fM.refl g⟩
  | succ d ih =>
    intro y f g hy hf h
    obtain ⟨f, rfl⟩ : ∃ f', f = f' + 1 := ⟨f - 1, by omega⟩
    have hs : fX12_size g = some (nI (bN b), g) := sizeq (by rw [h 1, if_neg (by omega)]; exact hK.1)
    have hlt := bs_lt (alA b m) (bN b)
    have hp : (2 : Nat) ^ bN b ≤ 2 ^ 6 := Nat.pow_le_pow_right (by omega) hn
    have ha := (hw.2.2.1 y (by omega)).1
    rw [fX12_turnsBy_9, hs, bndc_s, if_neg (nI_ge (by omega) (by omega)), has_eq _ (by omega) y (by omega), bndv_s, bs_tb, decide_eq_true (show y < bN b by omega), Bool.true_and]
    have ey : g.2.1 0 (6 + y) = nI (bA b y) := by rw [h, if_neg (by omega)]; exact hK.2.2.1 y (by omega)
    have key : ∀ v, v = nI (bA (tuB b m k) y) → ∀ i, upd (g.2.1 0) (6 + y) v i = if 6 ≤ i ∧ i < 6 + (y + 1) then nI (bA (tuB b m k) (i - 6)) else k0 i := fun v hv i => by
      rw [upd_j]
      by_cases e : i = 6 + y
      · rw [if_pos e, if_pos (by omega), hv, e, Nat.add_sub_cancel_left]
      · rw [if_neg e, h i]
        by_cases e2 : 6 ≤ i ∧ i < 6 + y
        · rw [if_pos e2, if_pos (by omega)]
        · rw [if_neg e2, if_neg (by omega)]
    cases hal : alA b m y with
    | false =>
      rw [if_pos (by decide), nI_1, bnd_e]
      refine ih (y + 1) f g (by omega) (by omega) (fun i => ?_)
      have hv : g.2.1 0 (6 + y) = nI (bA (tuB b m k) y) := by
        rw [ey]
        show _ = nI ((bA b y + (if y < bN b ∧ alA b m y = true then k else 0)) % bN b)
        rw [hal, if_neg (by simp), Nat.add_zero, Nat.mod_eq_of_lt ha]
      have := key _ hv i
      rw [fa_upd_same rfl] at this
      exact this
    | true =>
      rw [if_neg (by decide), l_6, nI_add]
      refine Ev.k (ib_n (by omega) (by omega)) ?_
      rw [hs, bndc_s]
      refine Ev.k (nz_n (by omega) (by omega)) (Ev.k (ib_n (by omega) (by omega)) ?_)
      rw [bnd_e, nI_1, bnd_e, ix_n (by omega), ey, nI_add, jr_n (by omega) (by omega) (by omega)]
      refine (ih (y + 1) f (sA g 0 (6 + y) (nI ((bA b y + k) % bN b))) (by omega) (by omega) (fun i => ?_)).mono ?_
      · refine key _ ?_ i
        show _ = nI ((bA b y + (if y < bN b ∧ alA b m y = true then k else 0)) % bN b)
        rw [if_pos ⟨by omega, hal⟩]
      · rintro q ⟨q1, q2⟩
        exact ⟨q1, ((fM.refl g).sA (by decide)).trans q2⟩
theorem turnsBy_eq (hw : wfB b) (hK : KB b (g.2.1 0)) {m k : Nat} (hm : m < bN b) (hk : k < bN b) : Ev (fX12_turnsBy g (nI m) (nI k)) (fun g' => DM (tuB b m k) g g') := by
  have hn := hw.2.1
  unfold fX12_turnsBy
  refine Ev.c (draggedBy_eq hw hK hm) ?_
  rintro r g1 ⟨q1, q2⟩
  dsimp only at q1
  subst q1
  have e0 : g1.2.1 0 = g.2.1 0 := q2.row 0 (by decide)
  refine (turnsBy_lp hw (m := m) hk (g.2.1 0) hK (bN b) 0 fuel g1 (by omega) (by unfold fuel; omega) (fun i => by rw [e0, if_neg (by omega)])).mono ?_
  rintro g' ⟨r1, r2⟩
  refine ⟨KB.mA hw hK (fun j hj => by rw [r1, if_pos (by omega), Nat.add_sub_cancel_left]; rfl) (fun i hi => by rw [r1, if_neg (by omega)]), fun i hi => by rw [r1, if_neg (by omega)], (q2.mono (by decide) (by decide)).trans (r2.mono (by decide) (by decide))⟩
theorem minuteNow_lp (hw : wfB b) {a' : Nat → Nat} (k0 : Nat → Int32) (hK : KB b k0) : ∀ d y f (g : MS), y + d = bN b → d < f → AR (bN b) a' g → (∀ i, g.2.1 0 i = if 6 ≤ i ∧ i < 6 + y then nI (a' (i - 6)) else k0 i) → Ev (fX12_minuteNow_10 f g (nI y)) (fun g' => (∀ i, g'.2.1 0 i = if 6 ≤ i ∧ i < 6 + bN b then nI (a' (i - 6)) else k0 i) ∧ fM [] [0] g g') := by
  have hn := hw.2.1
  intro d
  induction d with
  | zero =>
    intro y f g hy hf hA h
    obtain ⟨f, rfl⟩ : ∃ f', f = f' + 1 := ⟨f - 1, by omega⟩
    have hy : y = bN b := hy
    subst hy
    rw [fX12_minuteNow_10, sizeq (n := bN b) (by rw [h 1, if_neg (by omega)]; exact hK.1), bndc_s, if_pos (nI_le (by omega) (by omega))]
    exact ev_some.mpr ⟨h, fM.refl g⟩
  | succ d ih =>
    intro y f g hy hf hA h
    obtain ⟨f, rfl⟩ : ∃ f', f = f' + 1 := ⟨f - 1, by omega⟩
    rw [fX12_minuteNow_10, sizeq (n := bN b) (by rw [h 1, if_neg (by omega)]; exact hK.1), bndc_s, if_neg (nI_ge (by omega) (by omega)), l_6, nI_add]
    refine Ev.k (ib_n (by omega) (by omega)) (Ev.k (ib_n (by omega) (by omega)) ?_)
    rw [bnd_e, nI_1, bnd_e, ix_n (by omega), ix_n (by omega), hA y (by omega)]
    refine (ih (y + 1) f (sA g 0 (6 + y) (nI (a' y))) (by omega) (by omega) hA (fun i => ?_)).mono ?_
    · show upd (g.2.1 0) (6 + y) (nI (a' y)) i = _
      rw [upd_j]
      by_cases e : i = 6 + y
      · rw [if_pos e, if_pos (by omega), e, Nat.add_sub_cancel_left]
      · rw [if_neg e, h i]
        by_cases e2 : 6 ≤ i ∧ i < 6 + y
        · rw [if_pos e2, if_pos (by omega)]
        · rw [if_neg e2, if_neg (by omega)]
    · rintro q ⟨q1, q2⟩
      exact ⟨q1, ((fM.refl g).sA (by decide)).trans q2⟩
theorem minuteNow_eq (hw : wfB b) (hK : KB b (g.2.1 0)) : Ev (fX12_minuteNow g) (fun g' => DM (miB b) g g') := by
  have hn := hw.2.1
  unfold fX12_minuteNow
  refine Ev.v (aimsNow_eq hw hK) ?_
  rintro g1 ⟨h1, h2⟩
  refine Ev.v (minute_eq hw (by rw [h2.row 0 (by decide)]; exact hK) hw.2.2.1 h1) ?_
  rintro g2 ⟨h3, h4⟩
  have e0 : g2.2.1 0 = g.2.1 0 := (h4.row 0 (by decide)).trans (h2.row 0 (by decide))
  refine (minuteNow_lp hw (g.2.1 0) hK (bN b) 0 fuel g2 (by omega) (by unfold fuel; omega) h3 (fun i => by rw [e0, if_neg (by omega)])).mono ?_
  rintro g' ⟨r1, r2⟩
  refine ⟨KB.mA hw hK (fun j hj => by rw [r1, if_pos (by omega), Nat.add_sub_cancel_left]) (fun i hi => by rw [r1, if_neg (by omega)]), fun i hi => by rw [r1, if_neg (by omega)], ((h2.mono (by decide) (by decide)).trans (h4.mono (by decide) (by decide))).trans (r2.mono (by decide) (by decide))⟩
theorem weighs_eq (hw : wfB b) (hK : KB b (g.2.1 0)) {m v : Nat} (hm : m < bN b) : DM (weB b m v) g (sA g 0 (12 + m) (nI v)) := by
  have hn := hw.2.1
  refine ⟨KB.mW hw hK (fun j hj => ?_) (fun i hi => ?_), fun i hi => ?_, (fM.refl g).sA (by decide)⟩
  · show upd (g.2.1 0) (12 + m) (nI v) (12 + j) = nI (if j = m then v else bW b j)
    rw [upd_j]
    by_cases e : j = m
    · rw [if_pos (by omega), if_pos e]
    · rw [if_neg (by omega), if_neg e]; exact hK.2.2.2.1 j hj
  · show upd (g.2.1 0) (12 + m) (nI v) i = _
    rw [upd_j, if_neg (by omega)]
  · show upd (g.2.1 0) (12 + m) (nI v) i = _
    rw [upd_j, if_neg (by omega)]
theorem sticks_eq (hw : wfB b) (hK : KB b (g.2.1 0)) {m : Nat} (hm : m < bN b) : DM (stB b m) g (sA g 0 18 (g.2.1 0 18 ^^^ jshl (1 : Int32) (nI m))) := by
  have hn := hw.2.1
  refine ⟨KB.mS hw hK ?_ (fun i hi => ?_), fun i hi => ?_, (fM.refl g).sA (by decide)⟩
  · rw [hK.2.1, shl1 (by omega), fb_xorI]
    rfl
  · show upd (g.2.1 0) 18 _ i = _
    rw [upd_j, if_neg hi]
  · show upd (g.2.1 0) 18 _ i = _
    rw [upd_j, if_neg (by omega)]
theorem does_eq (hw : wfB b) (hK : KB b (g.2.1 0)) {v : Int64} (h0 : (toldA b v).1 = 0) : Ev (fX12_does g v.toInt32) (fun g' => DM (toldA b v).2 g g') := by
  have h2 := hw.2.1
  unfold toldA at h0 ⊢
  by_cases h1 : v.toInt = -1
  · have e : v = -1 := Int64.toInt_inj.mp h1
    subst e
    rw [if_pos h1]
    unfold fX12_does
    rw [if_pos (by decide)]
    exact Ev.v (minuteNow_eq hw hK) (fun g' hg => ev_some.mpr hg)
  · rw [if_neg h1] at h0 ⊢
    by_cases h3 : v.toInt < 0
    · rw [if_pos h3] at h0; exact absurd h0 (by simp)
    · rw [if_neg h3] at h0 ⊢
      by_cases h4 : 299 < v.toInt
      · rw [if_pos h4] at h0; exact absurd h0 (by simp)
      · rw [if_neg h4] at h0 ⊢
        obtain ⟨n, hn, hv⟩ : ∃ n : Nat, n < 300 ∧ v = lN n := ⟨v.toInt.toNat, by omega, Int64.toInt_inj.mp (by rw [lN_I (by omega)]; omega)⟩
        subst hv
        rw [lN_I (by omega), Int.toNat_natCast] at h0 ⊢
        rw [lN_i]
        unfold toldN at h0 ⊢
        unfold fX12_does
        rw [if_neg (nI_nm1 (by omega))]
        by_cases h5 : n < 100
        · rw [if_pos h5] at h0 ⊢
          unfold trN at h0 ⊢
          by_cases h6 : n / 10 < bN b ∧ 1 ≤ n % 10 ∧ n % 10 < bN b
          · rw [if_pos h6] at h0 ⊢
            cases hs : stk b (n / 10) with
            | true => rw [hs, if_pos rfl] at h0; exact absurd h0 (by simp)
            | false =>
              rw [if_neg (show ¬ (100 : Int32) ≤ nI n from nI_ge (b := 100) h5 (by omega)), if_neg (show ¬ (false = true) by decide), l_10, jr_n (by omega) (by omega) (by omega), pk_div (by omega) (by omega) (by omega)]
              refine Ev.k (by decide) (Ev.k (by decide) ?_)
              exact Ev.v (turnsBy_eq hw hK h6.1 h6.2.2) (fun g' hg => ev_some.mpr hg)
          · rw [if_neg h6] at h0; exact absurd h0 (by simp)
        · rw [if_neg h5] at h0 ⊢
          rw [if_pos (show (100 : Int32) ≤ nI n from nI_le (a := 100) (by omega) (by omega))]
          by_cases h6 : n < 200
          · rw [if_pos h6] at h0 ⊢
            unfold weN at h0 ⊢
            by_cases h7 : (n - 100) / 10 < bN b ∧ 1 ≤ n % 10 ∧ n % 10 ≤ 9
            · rw [if_pos h7]
              rw [if_neg (show ¬ (200 : Int32) ≤ nI n from nI_ge (b := 200) h6 (by omega)), l_10, l_100, pk_sub (by omega), jr_n (by omega) (by omega) (by omega), pk_div (by omega) (by omega) (by omega), l_12, nI_add]
              refine Ev.k (by decide) (Ev.k (by decide) (Ev.k (ib_n (by omega) (by omega)) ?_))
              rw [bnd_e, ix_n (by omega)]
              exact ev_some.mpr (weighs_eq hw hK h7.1)
            · rw [if_neg h7] at h0; exact absurd h0 (by simp)
          · rw [if_neg h6, if_pos hn] at h0 ⊢
            unfold stN at h0 ⊢
            by_cases h7 : n - 200 < bN b
            · rw [if_pos h7]
              rw [if_pos (show (200 : Int32) ≤ nI n from nI_le (a := 200) (by omega) (by omega)), l_200, pk_sub (by omega)]
              refine Ev.k (by decide) (Ev.k (by decide) ?_)
              rw [bnd_e]
              exact ev_some.mpr (sticks_eq hw hK h7)
            · rw [if_neg h7] at h0; exact absurd h0 (by simp)
/-- a deed upon a kept board -/
theorem KQ.deed {q : AQ} {b' : AB} {g g' : MS} (hK : KQ (keepA q) (g.2.1 0)) (hn : bN b' = bN (qB q)) (h : DM b' g g') : KQ (doA q b') (g'.2.1 0) := by
  obtain ⟨k1, k2, k3, k4⟩ := hK
  obtain ⟨d1, d2, d3⟩ := h
  refine ⟨d1, by rw [d2 0 (by omega)]; exact k2, by rw [d2 5 (by omega)]; exact k3, fun j hj => ?_⟩
  have e := k4 j hj
  rw [keepA_B] at e
  show KP (bN b') _ _
  rw [hn]
  exact ⟨fun m hm => (d2 _ (by omega)).trans (e.1 m hm), fun m hm => (d2 _ (by omega)).trans (e.2.1 m hm), (d2 _ (by omega)).trans e.2.2⟩
end
