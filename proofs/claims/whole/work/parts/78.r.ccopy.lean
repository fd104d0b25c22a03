/-! The component: a state copied -/
section CCopy
variable {N : Nat} {h : PH}
theorem c_cpI {t n0 n1 sa da c : Nat} {f g : Nat → Int32} {m : Int32} (hm : m = Int32.ofNat c) (a : Ar t n0 sa f h) (b : Ar t n1 da g h) (h0 : c ≤ n0) (h1 : c ≤ n1) (hc : c < 100000) : cpI t sa 0 da 0 m h = some (pa t n1 da (va_cpy f g 0 0 c) h) := by
  subst hm
  unfold cpI
  rw [a, b]
  have e0 : (0 : Int32).toNatClampNeg = 0 := rfl
  have e1 : (Int32.ofNat c).toNatClampNeg = c := i_okc (by omega)
  show (if (t = t ∧ t = t) ∧ (¬ (0 : Int32) < 0 ∧ ¬ (0 : Int32) < 0 ∧ ¬ Int32.ofNat c < 0) ∧ (0 : Int32).toNatClampNeg + (Int32.ofNat c).toNatClampNeg ≤ n0 ∧ (0 : Int32).toNatClampNeg + (Int32.ofNat c).toNatClampNeg ≤ n1 then some (h.set da (.inl (t, n1, .inl (va_cpy f g (0 : Int32).toNatClampNeg (0 : Int32).toNatClampNeg (Int32.ofNat c).toNatClampNeg)))) else none) = _
  rw [e0, e1, if_pos ⟨⟨rfl, rfl⟩, ⟨by decide, by decide, by rw [n_lt0 (by omega)]; exact id⟩, by omega, by omega⟩]
  rfl
/-- an array of an object from another object of its kind -/
theorem c_cpO {S : Sp} {a b j k n c : Nat} {D D' : OD} {m : Int32} (hm : m = Int32.ofNat c) (hF : a + sz S ≤ h.length) (hB : At S b D' h) (hd : a + sz S ≤ b ∨ b + sz S ≤ a) (hO : Own S) (hk : S.2.2[j]? = some (k, 0, n, 0)) (hc : c ≤ n) (hn : n < 100000) : cpI 0 (pl b j) 0 (pl a j) 0 m (pt S a D h) = some (pt S a (sa D k (va_cpy (oa D' k) (oa D k) 0 0 c)) h) := by
  have hA := At_pt (D := D) hF
  have hB2 : At S b D' (pt S a D h) := hB.out (by omega)
  rw [c_cpI hm (hB2.ar hk) (hA.ar hk) hc hc (by omega), hA.pa hO hk, pt_pt]
theorem cpy_lt {f g : Nat → Int32} {c j : Nat} (hj : j < c) : va_cpy f g 0 0 c j = f j := by
  unfold va_cpy
  rw [if_pos ⟨by omega, by omega⟩, Nat.sub_zero, Nat.zero_add]
theorem cpyL_lt {f g : Nat → Int64} {c j : Nat} (hj : j < c) : va_cpy f g 0 0 c j = f j := by
  unfold va_cpy
  rw [if_pos ⟨by omega, by omega⟩, Nat.sub_zero, Nat.zero_add]
/-- a house -/
theorem c_copy1 {a b : Nat} {D D' : OD} (hA : At sX1 a D h) (hB : At sX1 b D' h) (hd : a + 5 ≤ b ∨ b + 5 ≤ a) : ∃ D'', f_X1_copyFrom N a b h = some (pt sX1 a D'' h) ∧ ∀ I H, RepH I H D' → RepH I H D'' := by
  have hF : a + 5 ≤ h.length := hA.1
  have x1 : h = pt sX1 a D h := hA.2.symm
  have oB : ∀ X, At sX1 b D' (pt sX1 a X h) := fun X => hB.out (by simp only [z1]; omega)
  have b0 : ∀ X, gfR 1 0 b (pt sX1 a X h) = some (pl b 0) := fun X => (oB X).gR rfl rfl
  have b1 : ∀ X, gfR 1 1 b (pt sX1 a X h) = some (pl b 1) := fun X => (oB X).gR rfl rfl
  have b2 : ∀ X, gfR 1 2 b (pt sX1 a X h) = some (pl b 2) := fun X => (oB X).gR rfl rfl
  have b3 : ∀ X, gfR 1 3 b (pt sX1 a X h) = some (pl b 3) := fun X => (oB X).gR rfl rfl
  have b4 : ∀ X, gfI 1 4 b (pt sX1 a X h) = some (oi D' 4) := fun X => (oB X).gI rfl rfl
  have b5 : ∀ X, gfI 1 5 b (pt sX1 a X h) = some (oi D' 5) := fun X => (oB X).gI rfl rfl
  have b6 : ∀ X, gfI 1 6 b (pt sX1 a X h) = some (oi D' 6) := fun X => (oB X).gI rfl rfl
  have b7 : ∀ X, gfI 1 7 b (pt sX1 a X h) = some (oi D' 7) := fun X => (oB X).gI rfl rfl
  have b8 : ∀ X, gfI 1 8 b (pt sX1 a X h) = some (oi D' 8) := fun X => (oB X).gI rfl rfl
  have b9 : ∀ X, gfI 1 9 b (pt sX1 a X h) = some (oi D' 9) := fun X => (oB X).gI rfl rfl
  have k0 : ∀ X, cpI 0 (pl b 0) 0 (pl a 0) 0 10 (pt sX1 a X h) = _ := fun X => c_cpO (S := sX1) (D := X) (j := 0) (c := 10) rfl hF hB hd w1 rfl (by omega) (by omega)
  have k1 : ∀ X, cpI 0 (pl b 1) 0 (pl a 1) 0 10 (pt sX1 a X h) = _ := fun X => c_cpO (S := sX1) (D := X) (j := 1) (c := 10) rfl hF hB hd w1 rfl (by omega) (by omega)
  have k2 : ∀ X, cpI 0 (pl b 2) 0 (pl a 2) 0 10 (pt sX1 a X h) = _ := fun X => c_cpO (S := sX1) (D := X) (j := 2) (c := 10) rfl hF hB hd w1 rfl (by omega) (by omega)
  have k3 : ∀ X, cpI 0 (pl b 3) 0 (pl a 3) 0 10 (pt sX1 a X h) = _ := fun X => c_cpO (S := sX1) (D := X) (j := 3) (c := 10) rfl hF hB hd w1 rfl (by omega) (by omega)
  refine ⟨si (si (si (si (si (si (sa (sa (sa (sa D 0 (va_cpy (oa D' 0) (oa D 0) 0 0 10)) 1 (va_cpy (oa D' 1) (oa D 1) 0 0 10)) 2 (va_cpy (oa D' 2) (oa D 2) 0 0 10)) 3 (va_cpy (oa D' 3) (oa D 3) 0 0 10)) 4 (oi D' 4)) 5 (oi D' 5)) 6 (oi D' 6)) 7 (oi D' 7)) 8 (oi D' 8)) 9 (oi D' 9), ?_, ?_⟩
  · unfold f_X1_copyFrom
    rw [x1]
    simp (disch := first | (with_reducible assumption) | (simp only [oi_si, oi_sl, oi_sa, oi_sm, oi_sv, oi_sq, ol_si, ol_sl, ol_sa, ol_sm, ol_sv, ol_sq, oa_si, oa_sl, oa_sa, oa_sm, oa_sv, oa_sq, om_si, om_sl, om_sa, om_sm, om_sv, om_sq, ov_si, ov_sl, ov_sa, ov_sm, ov_sv, ov_sq, oq_si, oq_sl, oq_sa, oq_sm, oq_sv, oq_sq, Nat.reduceEqDiff, ↓reduceIte]; done) | omega | (exact ixn (by omega) (by omega)) | (exact ixl (by decide) (by decide)) | (simp only [pt_len, pl, z0, z1, z2, z3, z4, z5, z6, z7, z8, z9, z10, z11, z12]; omega)) only [↓gb_m, ↓gc_m, ↓gl_s, ↓gg_m, gb_s, gc_s, gg_t, gqm_0, gqm_1, pt_pt, sa_sa, sm_sm, si_si, qk1, qg1_0, qg1_1, qg1_2, qg1_3, qg1_4, qs1_4, qg1_5, qs1_5, qg1_6, qs1_6, qg1_7, qs1_7, qg1_8, qs1_8, qg1_9, qs1_9, qa1_0, qe1_0, ql1_0, qa1_1, qe1_1, ql1_1, qa1_2, qe1_2, ql1_2, qa1_3, qe1_3, ql1_3, oi_si, oi_sl, oi_sa, oi_sm, oi_sv, oi_sq, ol_si, ol_sl, ol_sa, ol_sm, ol_sv, ol_sq, oa_si, oa_sl, oa_sa, oa_sm, oa_sv, oa_sq, om_si, om_sl, om_sa, om_sm, om_sv, om_sq, ov_si, ov_sl, ov_sa, ov_sm, ov_sv, ov_sq, oq_si, oq_sl, oq_sa, oq_sm, oq_sv, oq_sq, Nat.reduceEqDiff, ↓reduceIte, n_add, n_addl, n_ladd, n_add1, n_mul, n_lmul, n_mull, n_sub, n_subl, n_subm, n_lt, n_le, n_eq, n_ltl, n_llt, n_lel, n_lle, n_eql, n_leq, n_m1, n_m1l, n_lt0, n_ge0, i_okc, i_okl, if_true, if_false, not_true, not_false, Nat.not_lt_zero, Nat.zero_le, b0, b1, b2, b3, b4, b5, b6, b7, b8, b9, k0, k1, k2, k3]
  · intro I H r
    obtain ⟨⟨r0, r1, r2, r3, r4, r5, r6, r7⟩, r8, r9⟩ := r
    refine ⟨⟨?_, ?_, ?_, ?_, r4, r5, r6, r7⟩, r8, r9⟩
    · intro k hk
      simp only [oi_si, oi_sl, oi_sa, oi_sm, oi_sv, oi_sq, ol_si, ol_sl, ol_sa, ol_sm, ol_sv, ol_sq, oa_si, oa_sl, oa_sa, oa_sm, oa_sv, oa_sq, om_si, om_sl, om_sa, om_sm, om_sv, om_sq, ov_si, ov_sl, ov_sa, ov_sm, ov_sv, ov_sq, oq_si, oq_sl, oq_sa, oq_sm, oq_sv, oq_sq, Nat.reduceEqDiff, ↓reduceIte]
      rw [cpy_lt hk]
      exact r0 k hk
    · intro k hk
      simp only [oi_si, oi_sl, oi_sa, oi_sm, oi_sv, oi_sq, ol_si, ol_sl, ol_sa, ol_sm, ol_sv, ol_sq, oa_si, oa_sl, oa_sa, oa_sm, oa_sv, oa_sq, om_si, om_sl, om_sa, om_sm, om_sv, om_sq, ov_si, ov_sl, ov_sa, ov_sm, ov_sv, ov_sq, oq_si, oq_sl, oq_sa, oq_sm, oq_sv, oq_sq, Nat.reduceEqDiff, ↓reduceIte]
      rw [cpy_lt hk]
      exact r1 k hk
    · intro k hk
      simp only [oi_si, oi_sl, oi_sa, oi_sm, oi_sv, oi_sq, ol_si, ol_sl, ol_sa, ol_sm, ol_sv, ol_sq, oa_si, oa_sl, oa_sa, oa_sm, oa_sv, oa_sq, om_si, om_sl, om_sa, om_sm, om_sv, om_sq, ov_si, ov_sl, ov_sa, ov_sm, ov_sv, ov_sq, oq_si, oq_sl, oq_sa, oq_sm, oq_sv, oq_sq, Nat.reduceEqDiff, ↓reduceIte]
      rw [cpy_lt hk]
      exact r2 k hk
    · intro k hk
      simp only [oi_si, oi_sl, oi_sa, oi_sm, oi_sv, oi_sq, ol_si, ol_sl, ol_sa, ol_sm, ol_sv, ol_sq, oa_si, oa_sl, oa_sa, oa_sm, oa_sv, oa_sq, om_si, om_sl, om_sa, om_sm, om_sv, om_sq, ov_si, ov_sl, ov_sa, ov_sm, ov_sv, ov_sq, oq_si, oq_sl, oq_sa, oq_sm, oq_sv, oq_sq, Nat.reduceEqDiff, ↓reduceIte]
      rw [cpy_lt hk]
      exact r3 k hk
theorem c_copy8 {a b : Nat} {D D' : OD} (hA : At sX8 a D h) (hB : At sX8 b D' h) (hd : a + 6 ≤ b ∨ b + 6 ≤ a) : ∃ D'', f_X8_copyFrom N a b h = some (pt sX8 a D'' h) ∧ oi D'' 5 = oi D' 5 ∧ ∀ l, l.length ≤ 20 → RepTri l D' → RepTri l D'' := by
  have hF : a + 6 ≤ h.length := hA.1
  have x1 : h = pt sX8 a D h := hA.2.symm
  have oB : ∀ X, At sX8 b D' (pt sX8 a X h) := fun X => hB.out (by simp only [z8]; omega)
  have b0 : ∀ X, gfR 8 0 b (pt sX8 a X h) = some (pl b 0) := fun X => (oB X).gR rfl rfl
  have b1 : ∀ X, gfR 8 1 b (pt sX8 a X h) = some (pl b 1) := fun X => (oB X).gR rfl rfl
  have b2 : ∀ X, gfR 8 2 b (pt sX8 a X h) = some (pl b 2) := fun X => (oB X).gR rfl rfl
  have b5 : ∀ X, gfI 8 5 b (pt sX8 a X h) = some (oi D' 5) := fun X => (oB X).gI rfl rfl
  have k0 : ∀ X, cpI 0 (pl b 0) 0 (pl a 0) 0 20 (pt sX8 a X h) = _ := fun X => c_cpO (S := sX8) (D := X) (j := 0) (c := 20) rfl hF hB hd w8 rfl (by omega) (by omega)
  have k1 : ∀ X, cpI 0 (pl b 1) 0 (pl a 1) 0 20 (pt sX8 a X h) = _ := fun X => c_cpO (S := sX8) (D := X) (j := 1) (c := 20) rfl hF hB hd w8 rfl (by omega) (by omega)
  have k2 : ∀ X, cpI 0 (pl b 2) 0 (pl a 2) 0 20 (pt sX8 a X h) = _ := fun X => c_cpO (S := sX8) (D := X) (j := 2) (c := 20) rfl hF hB hd w8 rfl (by omega) (by omega)
  refine ⟨si (sa (sa (sa D 0 (va_cpy (oa D' 0) (oa D 0) 0 0 20)) 1 (va_cpy (oa D' 1) (oa D 1) 0 0 20)) 2 (va_cpy (oa D' 2) (oa D 2) 0 0 20)) 5 (oi D' 5), ?_, ?_, ?_⟩
  · unfold f_X8_copyFrom
    rw [x1]
    simp (disch := first | (with_reducible assumption) | (simp only [oi_si, oi_sl, oi_sa, oi_sm, oi_sv, oi_sq, ol_si, ol_sl, ol_sa, ol_sm, ol_sv, ol_sq, oa_si, oa_sl, oa_sa, oa_sm, oa_sv, oa_sq, om_si, om_sl, om_sa, om_sm, om_sv, om_sq, ov_si, ov_sl, ov_sa, ov_sm, ov_sv, ov_sq, oq_si, oq_sl, oq_sa, oq_sm, oq_sv, oq_sq, Nat.reduceEqDiff, ↓reduceIte]; done) | omega | (exact ixn (by omega) (by omega)) | (exact ixl (by decide) (by decide)) | (simp only [pt_len, pl, z0, z1, z2, z3, z4, z5, z6, z7, z8, z9, z10, z11, z12]; omega)) only [↓gb_m, ↓gc_m, ↓gl_s, ↓gg_m, gb_s, gc_s, gg_t, gqm_0, gqm_1, pt_pt, sa_sa, sm_sm, si_si, qk8, qg8_0, qg8_1, qg8_2, qg8_3, qg8_4, qg8_5, qs8_5, qa8_0, qe8_0, ql8_0, qa8_1, qe8_1, ql8_1, qa8_2, qe8_2, ql8_2, qa8_3, qe8_3, ql8_3, qa8_4, qe8_4, ql8_4, oi_si, oi_sl, oi_sa, oi_sm, oi_sv, oi_sq, ol_si, ol_sl, ol_sa, ol_sm, ol_sv, ol_sq, oa_si, oa_sl, oa_sa, oa_sm, oa_sv, oa_sq, om_si, om_sl, om_sa, om_sm, om_sv, om_sq, ov_si, ov_sl, ov_sa, ov_sm, ov_sv, ov_sq, oq_si, oq_sl, oq_sa, oq_sm, oq_sv, oq_sq, Nat.reduceEqDiff, ↓reduceIte, n_add, n_addl, n_ladd, n_add1, n_mul, n_lmul, n_mull, n_sub, n_subl, n_subm, n_lt, n_le, n_eq, n_ltl, n_llt, n_lel, n_lle, n_eql, n_leq, n_m1, n_m1l, n_lt0, n_ge0, i_okc, i_okl, if_true, if_false, not_true, not_false, Nat.not_lt_zero, Nat.zero_le, b0, b1, b2, b5, k0, k1, k2]
  · rw [oi_si, if_pos rfl]
  · intro l hl r k x hx
    have := ln_of hx
    simp only [oi_si, oi_sl, oi_sa, oi_sm, oi_sv, oi_sq, ol_si, ol_sl, ol_sa, ol_sm, ol_sv, ol_sq, oa_si, oa_sl, oa_sa, oa_sm, oa_sv, oa_sq, om_si, om_sl, om_sa, om_sm, om_sv, om_sq, ov_si, ov_sl, ov_sa, ov_sm, ov_sv, ov_sq, oq_si, oq_sl, oq_sa, oq_sm, oq_sv, oq_sq, Nat.reduceEqDiff, ↓reduceIte]
    rw [cpy_lt (by omega), cpy_lt (by omega), cpy_lt (by omega)]
    exact r k x hx
theorem c_copy4 {a b : Nat} {D D' : OD} (hA : At sX4 a D h) (hB : At sX4 b D' h) (hd : a + 4 ≤ b ∨ b + 4 ≤ a) : ∃ D'', f_X4_copyFrom N a b h = some (pt sX4 a D'' h) ∧ oi D'' 3 = oi D' 3 ∧ ∀ l, l.length ≤ 7 → RepTri l D' → RepTri l D'' := by
  have hF : a + 4 ≤ h.length := hA.1
  have x1 : h = pt sX4 a D h := hA.2.symm
  have oB : ∀ X, At sX4 b D' (pt sX4 a X h) := fun X => hB.out (by simp only [z4]; omega)
  have b0 : ∀ X, gfR 4 0 b (pt sX4 a X h) = some (pl b 0) := fun X => (oB X).gR rfl rfl
  have b1 : ∀ X, gfR 4 1 b (pt sX4 a X h) = some (pl b 1) := fun X => (oB X).gR rfl rfl
  have b2 : ∀ X, gfR 4 2 b (pt sX4 a X h) = some (pl b 2) := fun X => (oB X).gR rfl rfl
  have b5 : ∀ X, gfI 4 3 b (pt sX4 a X h) = some (oi D' 3) := fun X => (oB X).gI rfl rfl
  have k0 : ∀ X, cpI 0 (pl b 0) 0 (pl a 0) 0 7 (pt sX4 a X h) = _ := fun X => c_cpO (S := sX4) (D := X) (j := 0) (c := 7) rfl hF hB hd w4 rfl (by omega) (by omega)
  have k1 : ∀ X, cpI 0 (pl b 1) 0 (pl a 1) 0 7 (pt sX4 a X h) = _ := fun X => c_cpO (S := sX4) (D := X) (j := 1) (c := 7) rfl hF hB hd w4 rfl (by omega) (by omega)
  have k2 : ∀ X, cpI 0 (pl b 2) 0 (pl a 2) 0 7 (pt sX4 a X h) = _ := fun X => c_cpO (S := sX4) (D := X) (j := 2) (c := 7) rfl hF hB hd w4 rfl (by omega) (by omega)
  refine ⟨si (sa (sa (sa D 0 (va_cpy (oa D' 0) (oa D 0) 0 0 7)) 1 (va_cpy (oa D' 1) (oa D 1) 0 0 7)) 2 (va_cpy (oa D' 2) (oa D 2) 0 0 7)) 3 (oi D' 3), ?_, ?_, ?_⟩
  · unfold f_X4_copyFrom
    rw [x1]
    simp (disch := first | (with_reducible assumption) | (simp only [oi_si, oi_sl, oi_sa, oi_sm, oi_sv, oi_sq, ol_si, ol_sl, ol_sa, ol_sm, ol_sv, ol_sq, oa_si, oa_sl, oa_sa, oa_sm, oa_sv, oa_sq, om_si, om_sl, om_sa, om_sm, om_sv, om_sq, ov_si, ov_sl, ov_sa, ov_sm, ov_sv, ov_sq, oq_si, oq_sl, oq_sa, oq_sm, oq_sv, oq_sq, Nat.reduceEqDiff, ↓reduceIte]; done) | omega | (exact ixn (by omega) (by omega)) | (exact ixl (by decide) (by decide)) | (simp only [pt_len, pl, z0, z1, z2, z3, z4, z5, z6, z7, z8, z9, z10, z11, z12]; omega)) only [↓gb_m, ↓gc_m, ↓gl_s, ↓gg_m, gb_s, gc_s, gg_t, gqm_0, gqm_1, pt_pt, sa_sa, sm_sm, si_si, qk4, qg4_0, qg4_1, qg4_2, qg4_3, qs4_3, qa4_0, qe4_0, ql4_0, qa4_1, qe4_1, ql4_1, qa4_2, qe4_2, ql4_2, oi_si, oi_sl, oi_sa, oi_sm, oi_sv, oi_sq, ol_si, ol_sl, ol_sa, ol_sm, ol_sv, ol_sq, oa_si, oa_sl, oa_sa, oa_sm, oa_sv, oa_sq, om_si, om_sl, om_sa, om_sm, om_sv, om_sq, ov_si, ov_sl, ov_sa, ov_sm, ov_sv, ov_sq, oq_si, oq_sl, oq_sa, oq_sm, oq_sv, oq_sq, Nat.reduceEqDiff, ↓reduceIte, n_add, n_addl, n_ladd, n_add1, n_mul, n_lmul, n_mull, n_sub, n_subl, n_subm, n_lt, n_le, n_eq, n_ltl, n_llt, n_lel, n_lle, n_eql, n_leq, n_m1, n_m1l, n_lt0, n_ge0, i_okc, i_okl, if_true, if_false, not_true, not_false, Nat.not_lt_zero, Nat.zero_le, b0, b1, b2, b5, k0, k1, k2]
  · rw [oi_si, if_pos rfl]
  · intro l hl r k x hx
    have := ln_of hx
    simp only [oi_si, oi_sl, oi_sa, oi_sm, oi_sv, oi_sq, ol_si, ol_sl, ol_sa, ol_sm, ol_sv, ol_sq, oa_si, oa_sl, oa_sa, oa_sm, oa_sv, oa_sq, om_si, om_sl, om_sa, om_sm, om_sv, om_sq, ov_si, ov_sl, ov_sa, ov_sm, ov_sv, ov_sq, oq_si, oq_sl, oq_sa, oq_sm, oq_sv, oq_sq, Nat.reduceEqDiff, ↓reduceIte]
    rw [cpy_lt (by omega), cpy_lt (by omega), cpy_lt (by omega)]
    exact r k x hx
theorem c_cpL {t n0 n1 sa da c : Nat} {f g : Nat → Int64} (a : h[sa]? = some (.inl (t, n0, .inr (.inl f)))) (b : h[da]? = some (.inl (t, n1, .inr (.inl g)))) (h0 : c ≤ n0) (h1 : c ≤ n1) (hc : c < 100000) : cpL t sa 0 da 0 (Int32.ofNat c) h = some (h.set da (.inl (t, n1, .inr (.inl (va_cpy f g 0 0 c))))) := by
  unfold cpL
  rw [a, b]
  have e0 : (0 : Int32).toNatClampNeg = 0 := rfl
  have e1 : (Int32.ofNat c).toNatClampNeg = c := i_okc (by omega)
  show (if (t = t ∧ t = t) ∧ (¬ (0 : Int32) < 0 ∧ ¬ (0 : Int32) < 0 ∧ ¬ Int32.ofNat c < 0) ∧ (0 : Int32).toNatClampNeg + (Int32.ofNat c).toNatClampNeg ≤ n0 ∧ (0 : Int32).toNatClampNeg + (Int32.ofNat c).toNatClampNeg ≤ n1 then some (h.set da (.inl (t, n1, .inr (.inl (va_cpy f g (0 : Int32).toNatClampNeg (0 : Int32).toNatClampNeg (Int32.ofNat c).toNatClampNeg))))) else none) = _
  rw [e0, e1, if_pos ⟨⟨rfl, rfl⟩, ⟨by decide, by decide, by rw [n_lt0 (by omega)]; exact id⟩, by omega, by omega⟩]
theorem c_copy0 {a b : Nat} {D D' : OD} {H : HA} (hA : At sX0 a D h) (hB : At sX0 b D' h) (hd : a + 2 ≤ b ∨ b + 2 ≤ a) (r : RepD H D') (hl : (hL H).length ≤ 1000) : ∃ D'', f_X0_copyFrom N a b h = some (pt sX0 a D'' h) ∧ RepD H D'' := by
  have hF : a + 2 ≤ h.length := hA.1
  have oB : ∀ X, At sX0 b D' (pt sX0 a X h) := fun X => hB.out (by simp only [z0]; omega)
  have b1 : ∀ X, gfI 0 1 b (pt sX0 a X h) = some (oi D' 1) := fun X => (oB X).gI rfl rfl
  have b2 : ∀ X, gfI 0 2 b (pt sX0 a X h) = some (oi D' 2) := fun X => (oB X).gI rfl rfl
  have ca : h[pl a 0]? = some (.inl (1, 1000, .inr (.inl (om D 0)))) := by
    have := pt_inA (D := D) hA.1 (j := 0) rfl
    rw [hA.2] at this
    exact this
  have cb : h[pl b 0]? = some (.inl (1, 1000, .inr (.inl (om D' 0)))) := by
    have := pt_inA (D := D') hB.1 (j := 0) rfl
    rw [hB.2] at this
    exact this
  have cp := c_cpL (c := (hL H).length) cb ca hl hl (by omega)
  have st : h.set (pl a 0) (.inl (1, 1000, .inr (.inl (va_cpy (om D' 0) (om D 0) 0 0 (hL H).length)))) = pt sX0 a (sm D 0 (va_cpy (om D' 0) (om D 0) 0 0 (hL H).length)) h := by
    have := pt_setA (S := sX0) (p := a) (D := D) (D' := sm D 0 (va_cpy (om D' 0) (om D 0) 0 0 (hL H).length)) (h := h) (j := 0) (k := 0) (t := 1) (n := 1000) (r := 1) (c := .inl (1, 1000, .inr (.inl (va_cpy (om D' 0) (om D 0) 0 0 (hL H).length)))) w0 rfl (by
      show _ = Sum.inl (1, 1000, Sum.inr (Sum.inl (om (sm D 0 _) 0)))
      rw [om_sm, if_pos rfl]) rfl (by
      intro x hx
      unfold acell
      split
      · rfl
      · rw [om_sm, if_neg hx]
      · rfl)
    rw [hA.2] at this
    exact this
  refine ⟨si (si (sm D 0 (va_cpy (om D' 0) (om D 0) 0 0 (hL H).length)) 1 (oi D' 1)) 2 (oi D' 2), ?_, ?_, ?_, ?_⟩
  · unfold f_X0_copyFrom
    rw [hB.gR (k := 0) rfl rfl, gb_s, hA.gR (k := 0) rfl rfl, gb_s, hB.gI (k := 1) rfl rfl, gb_s, r.1, cp, gb_s, st]
    rw [← r.1]
    simp (disch := first | (with_reducible assumption) | (simp only [oi_si, oi_sl, oi_sa, oi_sm, oi_sv, oi_sq, ol_si, ol_sl, ol_sa, ol_sm, ol_sv, ol_sq, oa_si, oa_sl, oa_sa, oa_sm, oa_sv, oa_sq, om_si, om_sl, om_sa, om_sm, om_sv, om_sq, ov_si, ov_sl, ov_sa, ov_sm, ov_sv, ov_sq, oq_si, oq_sl, oq_sa, oq_sm, oq_sv, oq_sq, Nat.reduceEqDiff, ↓reduceIte]; done) | omega | (exact ixn (by omega) (by omega)) | (exact ixl (by decide) (by decide)) | (simp only [pt_len, pl, z0, z1, z2, z3, z4, z5, z6, z7, z8, z9, z10, z11, z12]; omega)) only [↓gb_m, ↓gc_m, ↓gl_s, ↓gg_m, gb_s, gc_s, gg_t, gqm_0, gqm_1, pt_pt, sa_sa, sm_sm, si_si, qk0, qg0_0, qg0_1, qs0_1, qg0_2, qs0_2, qa0_0, qe0_0, ql0_0, oi_si, oi_sl, oi_sa, oi_sm, oi_sv, oi_sq, ol_si, ol_sl, ol_sa, ol_sm, ol_sv, ol_sq, oa_si, oa_sl, oa_sa, oa_sm, oa_sv, oa_sq, om_si, om_sl, om_sa, om_sm, om_sv, om_sq, ov_si, ov_sl, ov_sa, ov_sm, ov_sv, ov_sq, oq_si, oq_sl, oq_sa, oq_sm, oq_sv, oq_sq, Nat.reduceEqDiff, ↓reduceIte, n_add, n_addl, n_ladd, n_add1, n_mul, n_lmul, n_mull, n_sub, n_subl, n_subm, n_lt, n_le, n_eq, n_ltl, n_llt, n_lel, n_lle, n_eql, n_leq, n_m1, n_m1l, n_lt0, n_ge0, i_okc, i_okl, if_true, if_false, not_true, not_false, Nat.not_lt_zero, Nat.zero_le, b1, b2]
  · rw [oi_si, if_neg (by decide), oi_si, if_pos rfl]
    exact r.1
  · rw [oi_si, if_pos rfl]
    exact r.2.1
  · intro k x hx
    have := ln_of hx
    simp only [oi_si, oi_sl, oi_sa, oi_sm, oi_sv, oi_sq, ol_si, ol_sl, ol_sa, ol_sm, ol_sv, ol_sq, oa_si, oa_sl, oa_sa, oa_sm, oa_sv, oa_sq, om_si, om_sl, om_sa, om_sm, om_sv, om_sq, ov_si, ov_sl, ov_sa, ov_sm, ov_sv, ov_sq, oq_si, oq_sl, oq_sa, oq_sm, oq_sv, oq_sq, Nat.reduceEqDiff, ↓reduceIte]
    rw [cpyL_lt this]
    exact r.2.2 k x hx
end CCopy

