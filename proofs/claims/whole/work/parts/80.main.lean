/-- what is left of the claim: the plain law answers 1 -/
theorem plain_main (L : Nat) (hL : L ≤ 3584) (xs : Nat → Int32) : ∃ (N : Nat) (h9 : PH), f_L_law N L xs [] = some (1, h9) := by
  obtain ⟨h9, e⟩ := plain_all (xs := xs) hL
  exact ⟨2000, h9, e⟩
