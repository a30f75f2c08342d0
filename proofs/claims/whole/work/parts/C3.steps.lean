/-! ===== each call: trays, images, the tape ===== -/
def StJ (s : AS) (P : PL) (T : Nat) (l : List (Nat × Nat)) (m : Option (Int64 × MS)) (c : Option ((Nat ⊕ Int64) × CS)) : Prop := ∃ s' T' g' h', wfS s' ∧ T ≤ T' ∧ T' ≤ T + 31 ∧ MI s' g' ∧ CI s' P T' h' ∧ ((∃ r, m = some (r, g') ∧ g'.1 4 = nI 0 ∧ c = some (Sum.inr r, h')) ∨ (∃ x e w, m = some (x, g') ∧ (e, w) ∈ l ∧ g'.1 4 = nI w ∧ c = some (Sum.inl e, h')))
def StV (s : AS) (P : PL) (T : Nat) (l : List (Nat × Nat)) (m : Option MS) (c : Option ((Nat ⊕ Unit) × CS)) : Prop := ∃ s' T' g' h', wfS s' ∧ T ≤ T' ∧ T' ≤ T + 31 ∧ MI s' g' ∧ CI s' P T' h' ∧ m = some g' ∧ ((g'.1 4 = nI 0 ∧ c = some (Sum.inr (), h')) ∨ (∃ e w, (e, w) ∈ l ∧ g'.1 4 = nI w ∧ c = some (Sum.inl e, h')))
section
variable {s : AS} {P : PL} {T : Nat} {g : MS} {h : CS} {l : List (Nat × Nat)}
theorem StV.ok {s' : AS} {T' : Nat} {m : Option MS} {c : Option ((Nat ⊕ Unit) × CS)} (hs : wfS s') (h1 : T ≤ T') (h2 : T' ≤ T + 31) (em : Ev m (fun g' => MI s' g' ∧ g'.1 4 = nI 0)) (ec : Ev c (fun z => z.1 = Sum.inr () ∧ CI s' P T' z.2)) : StV s P T l m c := by
  obtain ⟨g', e1, e2, e3⟩ := em
  obtain ⟨⟨r2, h'⟩, e4, e5, e6⟩ := ec
  have e5 : r2 = Sum.inr () := e5
  exact ⟨s', T', g', h', hs, h1, h2, e2, e6, e1, Or.inl ⟨e3, by rw [e4, e5]⟩⟩
theorem StV.no {w e : Nat} {m : Option MS} {c : Option ((Nat ⊕ Unit) × CS)} (hs : wfS s) (hC : CI s P T h) (hl : (e, w) ∈ l) (em : Ev m (fun g' => MI s g' ∧ g'.1 4 = nI w)) (ec : c = some (Sum.inl e, h)) : StV s P T l m c := by
  obtain ⟨g', e1, e2, e3⟩ := em
  exact ⟨s, T, g', h, hs, Nat.le_refl _, by omega, e2, hC, e1, Or.inr ⟨e, w, hl, e3, ec⟩⟩
theorem wfS.tr {i : Nat} {t : AT} (hs : wfS s) : wfS (stT s i t) := hs
theorem wfS.im {i : Nat} (hs : wfS s) : wfS (stM s i) := by
  refine ⟨hs.1, fun j hj ht => ?_, hs.2.2⟩
  show wfQ (if j = i then (true, zQ s) else zI s j).2
  have ht : (if j = i then (true, zQ s) else zI s j).1 = true := ht
  by_cases e : j = i
  · rw [if_pos e]; exact hs.1
  · rw [if_neg e] at ht ⊢; exact hs.2.1 j hj ht
theorem st_tray (hs : wfS s) (hM : MI s g) (hC : CI s P T h) (x y z : Int32) : StV s P T [(2, 1), (1, 2)] (fX12_tray g x y z) (fX11_tray P h x y z) := by
  by_cases hx : upTo 3 x
  · obtain ⟨i, hi, rfl⟩ := hx
    by_cases hy : upTo 3 y ∧ upTo 30 z
    · obtain ⟨⟨so, h1, rfl⟩, ma, h2, rfl⟩ := hy
      exact StV.ok (T' := T) hs.tr (Nat.le_refl _) (by omega) (mTray_eq hM (by omega) h1 h2) (cTray_eq hC (by omega) h1 h2)
    · exact StV.no hs hC (by decide) (mTray_n2 hM (by omega) hy) (cTray_n2 (by omega) hy)
  · exact StV.no hs hC (by decide) (mTray_n1 hM hx y z) (cTray_n1 hx y z)
theorem st_image (hs : wfS s) (hM : MI s g) (hC : CI s P T h) (x : Int32) : StV s P T [(2, 1)] (fX12_image g x) (fX11_image P h x) := by
  by_cases hx : upTo 2 x
  · obtain ⟨i, hi, rfl⟩ := hx
    exact StV.ok (T' := T) hs.im (Nat.le_refl _) (by omega) (mImage_eq hs hM (by omega)) (cImage_eq hs hC (by omega))
  · exact StV.no hs hC (by decide) (mImage_no hM hx) (cImage_no hx)
theorem st_restore (hs : wfS s) (hM : MI s g) (hC : CI s P T h) (hT : T + 31 < 2 ^ 31) (x : Int32) : StV s P T [(2, 1), (3, 2)] (fX12_restore g x) (fX11_restore P h x) := by
  by_cases hx : upTo 2 x
  · obtain ⟨i, hi, rfl⟩ := hx
    cases e : (zI s i).1 with
    | true => exact StV.ok (s' := stQ s (zI s i).2) (T' := T + 1) ⟨hs.2.1 i (by omega) e, hs.2⟩ (by omega) (by omega) (mRestore_eq hs hM (by omega) e) (cRestore_eq hs hC (by omega) e (by omega))
    | false => exact StV.no hs hC (by decide) (mRestore_n2 hM (by omega) e) (cRestore_n2 hC (by omega) e)
  · exact StV.no hs hC (by decide) (mRestore_n1 hM hx) (cRestore_n1 hx)
theorem st_write (hs : wfS s) (hM : MI s g) (hC : CI s P T h) (x y : Int32) (v : Int64) : StJ s P T [(2, 1), (3, 2), (4, 3)] (fX12_write g x y v) (fX11_write P h x y v) := by
  by_cases hx : trF (zT s) x = 0
  · obtain ⟨i, hi, rfl, ht⟩ := trF_z hx
    by_cases hy : ∃ p, p < (zT s i).2.2.1 ∧ y = nI p
    · obtain ⟨p, hp, rfl⟩ := hy
      obtain ⟨⟨r, g'⟩, e1, e2, e3, e4⟩ := mWrite_eq hM hi ht hp v
      obtain ⟨⟨r2, h'⟩, e5, e6, e7⟩ := cWrite_eq hC hi ht hp v
      have e2 : r = _ := e2
      have e6 : r2 = _ := e6
      exact ⟨_, T, g', h', hs.tr, Nat.le_refl _, by omega, e3, e7, Or.inl ⟨r, e1, e4, by rw [e5, e6, e2]⟩⟩
    · obtain ⟨⟨r, g'⟩, e1, e3, e4⟩ := mWrite_n3 hM hi ht hy v
      exact ⟨s, T, g', h, hs, Nat.le_refl _, by omega, e3, hC, Or.inr ⟨r, 4, 3, e1, by decide, e4, cWrite_n3 hC hi ht hy v⟩⟩
  · obtain ⟨⟨r, g'⟩, e1, e3, e4⟩ := mWrite_n1 hM hx y v
    refine ⟨s, T, g', h, hs, Nat.le_refl _, by omega, e3, hC, Or.inr ⟨r, _, _, e1, ?_, e4, cWrite_n1 hC hx y v⟩⟩
    have := trF_c hx
    simp only [List.mem_cons, List.not_mem_nil, or_false] at this ⊢
    rcases this with q | q
    · exact Or.inl q
    · exact Or.inr (Or.inl q)
theorem st_copy (hs : wfS s) (hM : MI s g) (hC : CI s P T h) (x y : Int32) : StE s P T [(2, 1), (3, 2), (1, 3)] (fX12_copy g x y) (fX11_copy P h x y) := by
  obtain ⟨t, r, hR, hB⟩ := rho_b hs.1.1
  by_cases hx : trF (zT s) x = 0 ∧ upTo 99999 y
  · obtain ⟨hx, n, hn, rfl⟩ := hx
    obtain ⟨i, hi, rfl, ht⟩ := trF_z hx
    obtain ⟨⟨r1, g'⟩, e1, e2, e3, e4⟩ := mCopy_eq hs hM hR hB hi ht hn
    obtain ⟨⟨r2, h'⟩, e5, e6, e7⟩ := cCopy_eq hs hC hR hB hi ht hn
    have e2 : r1 = _ := e2
    have e6 : r2 = _ := e6
    exact ⟨_, T, g', h', hs.tr, Nat.le_refl _, by omega, e3, e7, Or.inl ⟨r1, e1, e4, by rw [e5, e6, e2]⟩⟩
  · obtain ⟨⟨r1, g'⟩, e1, e3, e4⟩ := mCopy_no hM (em_or hx)
    exact ⟨s, T, g', h, hs, Nat.le_refl _, by omega, e3, hC, Or.inr ⟨r1, _, _, e1, jd_c, e4, cCopy_no hC (em_or hx)⟩⟩
end
section
variable {s : AS} {P : PL} {T : Nat} {g : MS} {h : CS}
theorem st_feed (hs : wfS s) (hM : MI s g) (hC : CI s P T h) (a b c d e : Int32) : StP s P T (fX12_feed g a b c d e) (fX11_feed P h a b c d e) := by
  by_cases hL : zL s + 20 ≤ 900
  · obtain ⟨⟨r, g'⟩, e1, e2, e3, e4⟩ := mFeed_eq hM hL a b c d e
    obtain ⟨⟨r2, h'⟩, e5, e6, e7⟩ := cFeed_eq hC hL a b c d e
    have e2 : r = _ := e2
    have e6 : r2 = _ := e6
    refine ⟨stF s a b c d e, T, g', h', r, ⟨hs.1, hs.2.1, hL, fun k hk => ?_⟩, Nat.le_refl _, by omega, e3, e7, e1, e4, by rw [e5, e6, e2]⟩
    show (if k < zL s then zB s k else b20 a b c d e (k - zL s)) < 256
    by_cases q : k < zL s
    · rw [if_pos q]; exact hs.2.2.2 k q
    · rw [if_neg q]; exact b20_lt _ _ _ _ _ _
  · obtain ⟨⟨r, g'⟩, e1, e2, e3, e4⟩ := mFeed_no hM hL hs.2.2.1 a b c d e
    have e2 : r = -1 := e2
    exact ⟨s, T, g', h, r, hs, Nat.le_refl _, by omega, e3, hC, e1, e4, by rw [cFeed_no hC hL hs.2.2.1 a b c d e, e2]⟩
/-- the board call -/
def StB (s : AS) (P : PL) (T : Nat) (h : CS) (x : Int32) (m : Option (Int32 × MS)) (c : Option ((Nat ⊕ Int32) × PL × CS)) : Prop := ∃ s' T' g' P' h', wfS s' ∧ T ≤ T' ∧ T' ≤ T + 31 ∧ MI s' g' ∧ CI s' P' T' h' ∧ ((∃ r, m = some (r, g') ∧ g'.1 4 = nI 0 ∧ c = some (Sum.inr r, P', h') ∧ PX P P' 900) ∨ (∃ r, m = some (r, g') ∧ g'.1 4 = nI 1 ∧ P' = P ∧ h' = h ∧ (x < 0 ∨ ¬ x ≤ h.1 0 1)))
theorem st_board (hs : wfS s) (hM : MI s g) (hC : CI s P T h) (hT : T + 31 < 2 ^ 31) (x : Int32) : StB s P T h x (fX12_board g x) (fX11_board P h x) := by
  by_cases hx : upTo (zL s) x
  · obtain ⟨n, hn, rfl⟩ := hx
    obtain ⟨r, g', P', h', s', T', e1, e2, e3, e4, e5, e6, e7, e8, e9⟩ := board_ok hs hM hC (by omega) hn
    exact ⟨s', T', g', P', h', e3, e7, by omega, e4, e6, Or.inl ⟨r, e1, e5, e2, e9⟩⟩
  · obtain ⟨⟨r, g'⟩, e1, e2, e3⟩ := mBoard_no hs hM hx
    refine ⟨s, T, g', P, h, hs, Nat.le_refl _, by omega, e2, hC, Or.inr ⟨r, e1, e3, rfl, rfl, ?_⟩⟩
    have h1 := hC.2.2.2.2.2.2.1.1
    have hL := hs.2.2.1
    by_cases q : x < 0
    · exact Or.inl q
    · refine Or.inr (fun z => hx (upTo_of ?_ ?_))
      · exact Int32.le_iff_toInt_le.mp (Int32.not_lt.mp q)
      · rw [h1] at z
        have := Int32.le_iff_toInt_le.mp z
        rw [nI_toInt (by omega)] at this
        exact this
end
