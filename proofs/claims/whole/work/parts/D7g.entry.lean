def ncL : List (Nat × Nat) := [(1, 2), (1, 3), (1, 4), (2, 1), (2, 3), (2, 4), (3, 1), (3, 2), (3, 4), (4, 1), (4, 2), (4, 3)]
theorem nc_in : ∀ q ∈ ncL, Cond.not (.castable (exN q.1) (exN q.2)) ∈ flatC eC := by decide +kernel
theorem ncL_in {a b : Nat} (h1 : 1 ≤ a) (h2 : a ≤ 4) (h3 : 1 ≤ b) (h4 : b ≤ 4) (h5 : a ≠ b) : (a, b) ∈ ncL := by
  rcases (show a = 1 ∨ a = 2 ∨ a = 3 ∨ a = 4 by omega) with h | h | h | h <;> subst h <;> rcases (show b = 1 ∨ b = 2 ∨ b = 3 ∨ b = 4 by omega) with k | k | k | k <;> subst k <;> first | decide | exact absurd rfl h5
theorem en_NC {args : Array Value} {s : State} (hgv : eC.before args s = true) : NC s := fun a b h1 h2 h3 h4 h5 => va_Nc.of (flat_of_before _ hgv _ (nc_in (a, b) (ncL_in h1 h2 h3 h4 h5)))
