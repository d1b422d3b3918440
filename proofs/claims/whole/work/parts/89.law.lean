/-! THE LAW'S FUNCTION ANSWERS 1 -/
theorem law_fun {LN : Nat} {xs : Nat → Int32} (hL : LN ≤ 2560) {M : am_M} (hM : ∀ q ∈ am_pl0, M q.1 q.2 = am_m0 q.1 q.2) : ∃ M', f_L_law_1000 LN xs 0 M = some (1, M') := by
  sorry
