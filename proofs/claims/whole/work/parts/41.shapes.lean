/-! The shapes of the objects -/
abbrev sX0 : Sp := (0, [3, 0, 0], [(0, 1, 1000, 1)])
abbrev sX1 : Sp := (1, [3, 4, 5, 6, 0, 0, 0, 0, 0, 0], [(0, 0, 10, 0), (1, 0, 10, 0), (2, 0, 10, 0), (3, 0, 10, 0)])
abbrev sX2 : Sp := (2, [0, 0, 0, 0, 0, 3, 4, 5, 6, 7, 8, 0], [(5, 0, 10, 0), (6, 0, 10, 0), (7, 0, 10, 0), (8, 1, 10, 1), (9, 0, 1000, 0), (10, 0, 5, 0)])
abbrev sX3 : Sp := (3, [2, 2, 0], [])
abbrev sX4 : Sp := (4, [3, 4, 5, 0], [(0, 0, 7, 0), (1, 0, 7, 0), (2, 0, 7, 0)])
abbrev sX5 : Sp := (5, [3, 0, 2, 4, 5], [(0, 0, 7, 0), (3, 0, 7, 0), (4, 0, 128, 0)])
abbrev sX6 : Sp := (6, [3, 4], [(0, 0, 10, 0), (1, 0, 10, 0)])
abbrev sX7 : Sp := (7, [3, 0, 4], [(0, 0, 32, 0), (2, 0, 8, 0)])
abbrev sX8 : Sp := (8, [3, 4, 5, 6, 7, 0], [(0, 0, 20, 0), (1, 0, 20, 0), (2, 0, 20, 0), (3, 0, 20, 0), (4, 0, 10, 0)])
abbrev sX9 : Sp := (9, [2, 2, 2, 2, 2, 2, 2, 0, 0, 0, 0], [])
abbrev sX10 : Sp := (10, [3, 0, 0, 0, 0, 1, 0], [(0, 2, 1000, 0)])
abbrev sX11 : Sp := (11, [2, 2, 2, 2, 2, 2, 2, 2, 2, 2, 2, 0], [])
abbrev sX12 : Sp := (12, [0, 3, 0, 0, 4, 5, 6, 0, 0, 7, 8, 9, 10, 0, 11, 12, 13, 14, 0, 15, 16, 17, 18, 0, 0, 0, 0, 0, 0, 19, 0, 20, 21, 22, 23, 24, 0, 0, 0, 0, 0, 25, 0, 0, 0, 0, 0, 26], [(1, 0, 1000, 0), (4, 0, 1002, 0), (5, 0, 1002, 0), (6, 1, 1002, 1), (9, 1, 14, 1), (10, 0, 120, 0), (11, 0, 2200, 0), (12, 0, 2200, 0), (14, 1, 10, 1), (15, 0, 8, 0), (16, 0, 1100, 0), (17, 0, 2600, 0), (19, 0, 10, 0), (20, 0, 10, 0), (21, 0, 10, 0), (22, 3, 10, 0), (29, 0, 5500, 0), (31, 1, 1024, 1), (32, 0, 7, 0), (33, 0, 7, 0), (34, 0, 7, 0), (35, 0, 7, 0), (41, 0, 7, 0), (47, 3, 4, 0)])
theorem own_of {S : Sp} (h : ∀ i, i < S.2.2.length → ∀ j, j < S.2.2.length → i ≠ j → (S.2.2.getD i (0, 0, 0, 0)).1 ≠ (S.2.2.getD j (0, 0, 0, 0)).1) : Own S := by
  intro i j a b ha hb hij
  have hl : ∀ {i : Nat} {a}, S.2.2[i]? = some a → i < S.2.2.length := by
    intro i a hk
    rcases Nat.lt_or_ge i S.2.2.length with q | q
    · exact q
    · rw [List.getElem?_eq_none q] at hk; cases hk
  have := h i (hl ha) j (hl hb) hij
  rw [List.getD_eq_getElem?_getD, List.getD_eq_getElem?_getD, ha, hb] at this
  exact this
theorem w0 : Own sX0 := own_of (by decide)
theorem w1 : Own sX1 := own_of (by decide)
theorem w2 : Own sX2 := own_of (by decide)
theorem w3 : Own sX3 := own_of (by decide)
theorem w4 : Own sX4 := own_of (by decide)
theorem w5 : Own sX5 := own_of (by decide)
theorem w6 : Own sX6 := own_of (by decide)
theorem w7 : Own sX7 := own_of (by decide)
theorem w8 : Own sX8 := own_of (by decide)
theorem w9 : Own sX9 := own_of (by decide)
theorem w10 : Own sX10 := own_of (by decide)
theorem w11 : Own sX11 := own_of (by decide)
theorem w12 : Own sX12 := own_of (by decide +kernel)
theorem z0 : sz sX0 = 2 := rfl
theorem z1 : sz sX1 = 5 := rfl
theorem z2 : sz sX2 = 7 := rfl
theorem z3 : sz sX3 = 1 := rfl
theorem z4 : sz sX4 = 4 := rfl
theorem z5 : sz sX5 = 4 := rfl
theorem z6 : sz sX6 = 3 := rfl
theorem z7 : sz sX7 = 3 := rfl
theorem z8 : sz sX8 = 6 := rfl
theorem z9 : sz sX9 = 1 := rfl
theorem z10 : sz sX10 = 2 := rfl
theorem z11 : sz sX11 = 1 := rfl
theorem z12 : sz sX12 = 25 := rfl

