/-! The model reads a room, a guest -/
theorem cmp_le {a b : Nat} (ha : a < 9223372036854775808) (hb : b < 9223372036854775808) : (lg_cmp (Int64.ofNat a) (Int64.ofNat b) ≤ 0) = (a ≤ b) := by
  unfold lg_cmp
  have e1 := l_toI ha
  have e2 := l_toI hb
  by_cases q : Int64.ofNat a > Int64.ofNat b
  · rw [if_pos q]
    have q : Int64.ofNat b < Int64.ofNat a := q
    rw [Int64.lt_iff_toInt_lt, e1, e2] at q
    exact propext ⟨fun h => absurd h (by decide), fun h => by omega⟩
  · rw [if_neg q]
    have q3 : ¬ Int64.ofNat b < Int64.ofNat a := q
    rw [Int64.lt_iff_toInt_lt, e1, e2] at q3
    by_cases q2 : Int64.ofNat a = Int64.ofNat b
    · rw [if_pos q2]
      exact propext ⟨fun _ => by omega, fun _ => by decide⟩
    · rw [if_neg q2]
      exact propext ⟨fun _ => by omega, fun _ => by decide⟩
theorem cmp_lt0 {a : Nat} (ha : a < 9223372036854775808) : (lg_cmp (Int64.ofNat a) (Int64.ofNat 0) < 0) = False := by
  unfold lg_cmp
  have e1 := l_toI ha
  have e2 := l_toI (a := 0) (by decide)
  by_cases q : Int64.ofNat a > Int64.ofNat 0
  · rw [if_pos q]
    exact propext ⟨fun h => absurd h (by decide), False.elim⟩
  · rw [if_neg q]
    have q3 : ¬ Int64.ofNat 0 < Int64.ofNat a := q
    rw [Int64.lt_iff_toInt_lt, e1, e2] at q3
    have : a = 0 := by omega
    rw [if_pos (by rw [this])]
    exact propext ⟨fun h => absurd h (by decide), False.elim⟩
/-- all codes, each rule with its end -/
def cdAll (rs : List (List Cd)) : List Cd := rs.foldl (fun a c => a ++ c ++ [(0, 0)]) []
/-- the new inn, as far as it is read -/
def DR (s : PS) (M : OD) : Prop := oa M 10 60 = Int32.ofNat s.1.length ∧ oa M 10 61 = Int32.ofNat s.2.1.length ∧ oa M 10 62 = Int32.ofNat s.2.2.length ∧ (∀ (r : Nat) (x : Nat × Nat), s.1[r]? = some x → oa M 10 (63 + 2 * r) = Int32.ofNat x.1 ∧ oa M 10 (63 + 2 * r + 1) = Int32.ofNat x.2) ∧ (∀ (g : Nat) (x : List Nat × Nat × Bool × Bool), s.2.1[g]? = some x → oa M 10 (83 + 3 * g) = Int32.ofNat x.2.1 ∧ oa M 10 (83 + 3 * g + 1) = eB x.2.2.1 ∧ oa M 10 (83 + 3 * g + 2) = eB x.2.2.2 ∧ om M 14 g = Int64.ofNat (v37 x.1)) ∧ (∀ g, s.2.1.length ≤ g → g < 10 → oa M 10 (83 + 3 * g + 1) = 0 ∧ oa M 10 (83 + 3 * g + 2) = 0) ∧ (∀ k, k < s.2.2.length → oa M 10 (113 + k) = Int32.ofNat (cdAll (s.2.2.take k)).length) ∧ CR (cdAll s.2.2) M
def PSk (s : PS) : Prop := s.1.length ≤ 10 ∧ s.2.1.length ≤ 10 ∧ s.2.2.length ≤ 4 ∧ (∀ x, x ∈ s.1 → x.1 ≤ 9 ∧ x.2 ≤ 1) ∧ (∀ x, x ∈ s.2.1 → x.2.1 ≤ 99 ∧ x.1.length ≤ 8 ∧ ∀ c, c ∈ x.1 → 97 ≤ c ∧ c ≤ 122) ∧ ∀ x, x ∈ s.2.2 → depL 0 x = some 1 ∧ x.length ≤ 1000
/-- the old inn stays -/
def KL (M M' : OD) : Prop := Keep [7, 8, 10, 11, 12, 13, 14] M M' ∧ (∀ j, j < 60 → oa M' 10 j = oa M 10 j) ∧ ∀ j, j < 1100 → oa M' 11 j = oa M 11 j ∧ oa M' 12 j = oa M 12 j
theorem KL.rf {M : OD} : KL M M := ⟨Keep.rf, fun _ _ => rfl, fun _ _ => ⟨rfl, rfl⟩⟩
theorem KL.tr {M M1 M2 : OD} (h1 : KL M M1) (h2 : KL M1 M2) : KL M M2 := ⟨h1.1.tr h2.1, fun j hj => (h2.2.1 j hj).trans (h1.2.1 j hj), fun j hj => ⟨(h2.2.2 j hj).1.trans (h1.2.2 j hj).1, (h2.2.2 j hj).2.trans (h1.2.2 j hj).2⟩⟩
theorem KL.of {M M' : OD} (h : Keep [7, 8, 14] M M') : KL M M' := ⟨h.up (by decide), fun j _ => by rw [h.a (by decide)], fun j _ => by rw [h.a (by decide), h.a (by decide)]; exact ⟨rfl, rfl⟩⟩
theorem KL.kp {M M' : OD} (h : KP M M') : KL M M' := ⟨h.1.up (by decide), fun j _ => by rw [h.1.a (by decide)], h.2⟩
theorem KL.in {M : OD} {f : Nat → Int32} (h : ∀ j, j < 60 → f j = oa M 10 j) : KL M (sa M 10 f) := ⟨k_sa (by decide), fun j hj => by rw [oa_sa, if_pos rfl]; exact h j hj, fun j _ => ⟨rfl, rfl⟩⟩
section MLine
variable {N : Nat} {h : PH}
theorem m_takeNumF (hF : 80 + 25 ≤ h.length) {f : Nat} {M : OD} (q : PF f M) {a b : Int32} : f_X12_takeNumber N 80 a b (pt sX12 80 M h) = some (0, pt sX12 80 M h) := by
  have n1 := q.n0.1
  have n2 := q.n0.2
  unfold f_X12_takeNumber f_X12_takeNumber_28 f_X12_takeNumber_70
  simp (disch := first | (with_reducible assumption) | (simp only [oi_si, oi_sl, oi_sa, oi_sm, oi_sv, oi_sq, ol_si, ol_sl, ol_sa, ol_sm, ol_sv, ol_sq, oa_si, oa_sl, oa_sa, oa_sm, oa_sv, oa_sq, om_si, om_sl, om_sa, om_sm, om_sv, om_sq, ov_si, ov_sl, ov_sa, ov_sm, ov_sv, ov_sq, oq_si, oq_sl, oq_sa, oq_sm, oq_sv, oq_sq, Nat.reduceEqDiff, ↓reduceIte]; done) | omega | (exact ixn (by omega) (by omega)) | (exact ixl (by decide) (by decide)) | (simp only [pt_len, pl, z0, z1, z2, z3, z4, z5, z6, z7, z8, z9, z10, z11, z12]; omega)) only [↓gb_m, ↓gc_m, ↓gl_s, ↓gg_m, gb_s, gc_s, gg_t, gqm_0, gqm_1, pt_pt, sa_sa, sm_sm, si_si, qk12, qg12_0, qs12_0, qg12_1, qg12_2, qs12_2, qg12_3, qs12_3, qg12_4, qg12_5, qg12_6, qg12_7, qs12_7, qg12_8, qs12_8, qg12_9, qg12_10, qg12_11, qg12_12, qg12_13, qs12_13, qg12_14, qg12_15, qg12_16, qg12_17, qg12_18, qs12_18, qg12_19, qg12_20, qg12_21, qg12_22, qg12_23, qs12_23, qg12_24, qs12_24, qg12_25, qs12_25, qg12_26, qs12_26, qg12_27, qs12_27, qg12_28, qs12_28, qg12_29, qg12_30, qs12_30, qg12_31, qg12_32, qg12_33, qg12_34, qg12_35, qg12_36, qs12_36, qg12_37, qs12_37, qg12_38, qs12_38, qg12_39, qs12_39, qg12_40, qs12_40, qg12_41, qg12_42, qs12_42, qg12_43, qs12_43, qg12_44, qs12_44, qg12_45, qs12_45, qg12_46, qs12_46, qg12_47, qa12_1, qe12_1, ql12_1, qa12_4, qe12_4, ql12_4, qa12_5, qe12_5, ql12_5, qa12_6, qe12_6, ql12_6, qa12_9, qe12_9, ql12_9, qa12_10, qe12_10, ql12_10, qa12_11, qe12_11, ql12_11, qa12_12, qe12_12, ql12_12, qa12_14, qe12_14, ql12_14, qa12_15, qe12_15, ql12_15, qa12_16, qe12_16, ql12_16, qa12_17, qe12_17, ql12_17, qa12_19, qe12_19, ql12_19, qa12_20, qe12_20, ql12_20, qa12_21, qe12_21, ql12_21, qa12_22, qe12_22, ql12_22, qa12_29, qe12_29, ql12_29, qa12_31, qe12_31, ql12_31, qa12_32, qe12_32, ql12_32, qa12_33, qe12_33, ql12_33, qa12_34, qe12_34, ql12_34, qa12_35, qe12_35, ql12_35, qa12_41, qe12_41, ql12_41, qa12_47, qe12_47, ql12_47, oi_si, oi_sl, oi_sa, oi_sm, oi_sv, oi_sq, ol_si, ol_sl, ol_sa, ol_sm, ol_sv, ol_sq, oa_si, oa_sl, oa_sa, oa_sm, oa_sv, oa_sq, om_si, om_sl, om_sa, om_sm, om_sv, om_sq, ov_si, ov_sl, ov_sa, ov_sm, ov_sv, ov_sq, oq_si, oq_sl, oq_sa, oq_sm, oq_sv, oq_sq, Nat.reduceEqDiff, ↓reduceIte, n_add, n_addl, n_ladd, n_add1, n_mul, n_lmul, n_mull, n_sub, n_subl, n_subm, n_lt, n_le, n_eq, n_ltl, n_llt, n_lel, n_lle, n_eql, n_leq, n_m1, n_m1l, n_lt0, n_ge0, i_okc, i_okl, if_true, if_false, not_true, not_false, Nat.not_lt_zero, Nat.zero_le, n1, n2]
def numM (TS ts : List Tok) (M : OD) (r : Sum Nat (Nat × List Tok)) : Int32 × OD := match r with
  | .inl f => (0, si M 8 (Int32.ofNat f))
  | .inr x => (Int32.ofNat x.1, si M 7 (Int32.ofNat (TS.length - ts.length + 1)))
theorem m_takeNum (hF : 80 + 25 ≤ h.length) {TS ts : List Tok} {M : OD} (hP : PM TS ts M) {m : Nat} (hm : m < 1000) : f_X12_takeNumber N 80 0 (Int32.ofNat m) (pt sX12 80 M h) = some ((numM TS ts M (pNum m ts)).1, pt sX12 80 (numM TS ts M (pNum m ts)).2 h) := by
  obtain ⟨x1, x2, x3, x4⟩ := hP.hx
  have q4 := hP.2.2.2.1
  have q5 := hP.2.2.2.2.1
  have q6 := hP.2.2.2.2.2.1
  have hp := hP.2.1.hd.1
  have k4 := hp.1
  have e4 := x4.1
  obtain ⟨w1, w2⟩ := m_wrong (N := N) hF hP (k := 1) (by omega) (by omega)
  obtain ⟨w3, w4⟩ := m_wrong (N := N) hF hP (k := 4) (by omega) (by omega)
  have w1 : f_X12_wrong N 80 1 (pt sX12 80 M h) = _ := w1
  have w3 : f_X12_wrong N 80 4 (pt sX12 80 M h) = _ := w3
  have z0 : ((0 : Int32) ≤ 0) = True := propext ⟨fun _ => trivial, fun _ => by decide⟩
  unfold f_X12_takeNumber f_X12_takeNumber_28 f_X12_takeNumber_65 f_X12_takeNumber_70 pNum
  by_cases k2 : (hd ts).1 = 2
  · rw [if_pos k2]
    have e6 := x4.2.2.2.1 k2
    have vl := hp.num k2
    have i0 : Int32.toInt64 0 = Int64.ofNat 0 := rfl
    have im := i2l (a := m) (by omega)
    have c1 := cmp_lt0 (a := v10 (hd ts).2.2) (by omega)
    have c2 := cmp_le (a := v10 (hd ts).2.2) (b := m) (by omega) (by omega)
    by_cases c : v10 (hd ts).2.2 ≤ m
    · have c2 : (lg_cmp (Int64.ofNat (v10 (hd ts).2.2)) (Int64.ofNat m) ≤ 0) = True := by rw [c2]; exact eq_true c
      rw [if_pos c]
      simp (disch := first | (with_reducible assumption) | (simp only [oi_si, oi_sl, oi_sa, oi_sm, oi_sv, oi_sq, ol_si, ol_sl, ol_sa, ol_sm, ol_sv, ol_sq, oa_si, oa_sl, oa_sa, oa_sm, oa_sv, oa_sq, om_si, om_sl, om_sa, om_sm, om_sv, om_sq, ov_si, ov_sl, ov_sa, ov_sm, ov_sv, ov_sq, oq_si, oq_sl, oq_sa, oq_sm, oq_sv, oq_sq, Nat.reduceEqDiff, ↓reduceIte]; done) | omega | (exact ixn (by omega) (by omega)) | (exact ixl (by decide) (by decide)) | (simp only [pt_len, pl, z0, z1, z2, z3, z4, z5, z6, z7, z8, z9, z10, z11, z12]; omega)) only [↓gb_m, ↓gc_m, ↓gl_s, ↓gg_m, gb_s, gc_s, gg_t, gqm_0, gqm_1, pt_pt, sa_sa, sm_sm, si_si, qk12, qg12_0, qs12_0, qg12_1, qg12_2, qs12_2, qg12_3, qs12_3, qg12_4, qg12_5, qg12_6, qg12_7, qs12_7, qg12_8, qs12_8, qg12_9, qg12_10, qg12_11, qg12_12, qg12_13, qs12_13, qg12_14, qg12_15, qg12_16, qg12_17, qg12_18, qs12_18, qg12_19, qg12_20, qg12_21, qg12_22, qg12_23, qs12_23, qg12_24, qs12_24, qg12_25, qs12_25, qg12_26, qs12_26, qg12_27, qs12_27, qg12_28, qs12_28, qg12_29, qg12_30, qs12_30, qg12_31, qg12_32, qg12_33, qg12_34, qg12_35, qg12_36, qs12_36, qg12_37, qs12_37, qg12_38, qs12_38, qg12_39, qs12_39, qg12_40, qs12_40, qg12_41, qg12_42, qs12_42, qg12_43, qs12_43, qg12_44, qs12_44, qg12_45, qs12_45, qg12_46, qs12_46, qg12_47, qa12_1, qe12_1, ql12_1, qa12_4, qe12_4, ql12_4, qa12_5, qe12_5, ql12_5, qa12_6, qe12_6, ql12_6, qa12_9, qe12_9, ql12_9, qa12_10, qe12_10, ql12_10, qa12_11, qe12_11, ql12_11, qa12_12, qe12_12, ql12_12, qa12_14, qe12_14, ql12_14, qa12_15, qe12_15, ql12_15, qa12_16, qe12_16, ql12_16, qa12_17, qe12_17, ql12_17, qa12_19, qe12_19, ql12_19, qa12_20, qe12_20, ql12_20, qa12_21, qe12_21, ql12_21, qa12_22, qe12_22, ql12_22, qa12_29, qe12_29, ql12_29, qa12_31, qe12_31, ql12_31, qa12_32, qe12_32, ql12_32, qa12_33, qe12_33, ql12_33, qa12_34, qe12_34, ql12_34, qa12_35, qe12_35, ql12_35, qa12_41, qe12_41, ql12_41, qa12_47, qe12_47, ql12_47, oi_si, oi_sl, oi_sa, oi_sm, oi_sv, oi_sq, ol_si, ol_sl, ol_sa, ol_sm, ol_sv, ol_sq, oa_si, oa_sl, oa_sa, oa_sm, oa_sv, oa_sq, om_si, om_sl, om_sa, om_sm, om_sv, om_sq, ov_si, ov_sl, ov_sa, ov_sm, ov_sv, ov_sq, oq_si, oq_sl, oq_sa, oq_sm, oq_sv, oq_sq, Nat.reduceEqDiff, ↓reduceIte, n_add, n_addl, n_ladd, n_add1, n_mul, n_lmul, n_mull, n_sub, n_subl, n_subm, n_lt, n_le, n_eq, n_ltl, n_llt, n_lel, n_lle, n_eql, n_leq, n_m1, n_m1l, n_lt0, n_ge0, i_okc, i_okl, if_true, if_false, not_true, not_false, Nat.not_lt_zero, Nat.zero_le, q5, q4, e4, k2, e6, i0, im, c1, c2, z0, Nat.add_sub_cancel, l2i]
      rfl
    · have c2 : (lg_cmp (Int64.ofNat (v10 (hd ts).2.2)) (Int64.ofNat m) ≤ 0) = False := by rw [c2]; exact eq_false c
      have n2 := w4.n0.2
      rw [oi_si, if_pos rfl] at n2
      rw [if_neg c]
      simp (disch := first | (with_reducible assumption) | (simp only [oi_si, oi_sl, oi_sa, oi_sm, oi_sv, oi_sq, ol_si, ol_sl, ol_sa, ol_sm, ol_sv, ol_sq, oa_si, oa_sl, oa_sa, oa_sm, oa_sv, oa_sq, om_si, om_sl, om_sa, om_sm, om_sv, om_sq, ov_si, ov_sl, ov_sa, ov_sm, ov_sv, ov_sq, oq_si, oq_sl, oq_sa, oq_sm, oq_sv, oq_sq, Nat.reduceEqDiff, ↓reduceIte]; done) | omega | (exact ixn (by omega) (by omega)) | (exact ixl (by decide) (by decide)) | (simp only [pt_len, pl, z0, z1, z2, z3, z4, z5, z6, z7, z8, z9, z10, z11, z12]; omega)) only [↓gb_m, ↓gc_m, ↓gl_s, ↓gg_m, gb_s, gc_s, gg_t, gqm_0, gqm_1, pt_pt, sa_sa, sm_sm, si_si, qk12, qg12_0, qs12_0, qg12_1, qg12_2, qs12_2, qg12_3, qs12_3, qg12_4, qg12_5, qg12_6, qg12_7, qs12_7, qg12_8, qs12_8, qg12_9, qg12_10, qg12_11, qg12_12, qg12_13, qs12_13, qg12_14, qg12_15, qg12_16, qg12_17, qg12_18, qs12_18, qg12_19, qg12_20, qg12_21, qg12_22, qg12_23, qs12_23, qg12_24, qs12_24, qg12_25, qs12_25, qg12_26, qs12_26, qg12_27, qs12_27, qg12_28, qs12_28, qg12_29, qg12_30, qs12_30, qg12_31, qg12_32, qg12_33, qg12_34, qg12_35, qg12_36, qs12_36, qg12_37, qs12_37, qg12_38, qs12_38, qg12_39, qs12_39, qg12_40, qs12_40, qg12_41, qg12_42, qs12_42, qg12_43, qs12_43, qg12_44, qs12_44, qg12_45, qs12_45, qg12_46, qs12_46, qg12_47, qa12_1, qe12_1, ql12_1, qa12_4, qe12_4, ql12_4, qa12_5, qe12_5, ql12_5, qa12_6, qe12_6, ql12_6, qa12_9, qe12_9, ql12_9, qa12_10, qe12_10, ql12_10, qa12_11, qe12_11, ql12_11, qa12_12, qe12_12, ql12_12, qa12_14, qe12_14, ql12_14, qa12_15, qe12_15, ql12_15, qa12_16, qe12_16, ql12_16, qa12_17, qe12_17, ql12_17, qa12_19, qe12_19, ql12_19, qa12_20, qe12_20, ql12_20, qa12_21, qe12_21, ql12_21, qa12_22, qe12_22, ql12_22, qa12_29, qe12_29, ql12_29, qa12_31, qe12_31, ql12_31, qa12_32, qe12_32, ql12_32, qa12_33, qe12_33, ql12_33, qa12_34, qe12_34, ql12_34, qa12_35, qe12_35, ql12_35, qa12_41, qe12_41, ql12_41, qa12_47, qe12_47, ql12_47, oi_si, oi_sl, oi_sa, oi_sm, oi_sv, oi_sq, ol_si, ol_sl, ol_sa, ol_sm, ol_sv, ol_sq, oa_si, oa_sl, oa_sa, oa_sm, oa_sv, oa_sq, om_si, om_sl, om_sa, om_sm, om_sv, om_sq, ov_si, ov_sl, ov_sa, ov_sm, ov_sv, ov_sq, oq_si, oq_sl, oq_sa, oq_sm, oq_sv, oq_sq, Nat.reduceEqDiff, ↓reduceIte, n_add, n_addl, n_ladd, n_add1, n_mul, n_lmul, n_mull, n_sub, n_subl, n_subm, n_lt, n_le, n_eq, n_ltl, n_llt, n_lel, n_lle, n_eql, n_leq, n_m1, n_m1l, n_lt0, n_ge0, i_okc, i_okl, if_true, if_false, not_true, not_false, Nat.not_lt_zero, Nat.zero_le, q5, q4, e4, k2, e6, i0, im, c1, c2, w3, n2]
      rfl
  · rw [if_neg k2]
    have n1 := w2.n0.2
    rw [oi_si, if_pos rfl] at n1
    simp (disch := first | (with_reducible assumption) | (simp only [oi_si, oi_sl, oi_sa, oi_sm, oi_sv, oi_sq, ol_si, ol_sl, ol_sa, ol_sm, ol_sv, ol_sq, oa_si, oa_sl, oa_sa, oa_sm, oa_sv, oa_sq, om_si, om_sl, om_sa, om_sm, om_sv, om_sq, ov_si, ov_sl, ov_sa, ov_sm, ov_sv, ov_sq, oq_si, oq_sl, oq_sa, oq_sm, oq_sv, oq_sq, Nat.reduceEqDiff, ↓reduceIte]; done) | omega | (exact ixn (by omega) (by omega)) | (exact ixl (by decide) (by decide)) | (simp only [pt_len, pl, z0, z1, z2, z3, z4, z5, z6, z7, z8, z9, z10, z11, z12]; omega)) only [↓gb_m, ↓gc_m, ↓gl_s, ↓gg_m, gb_s, gc_s, gg_t, gqm_0, gqm_1, pt_pt, sa_sa, sm_sm, si_si, qk12, qg12_0, qs12_0, qg12_1, qg12_2, qs12_2, qg12_3, qs12_3, qg12_4, qg12_5, qg12_6, qg12_7, qs12_7, qg12_8, qs12_8, qg12_9, qg12_10, qg12_11, qg12_12, qg12_13, qs12_13, qg12_14, qg12_15, qg12_16, qg12_17, qg12_18, qs12_18, qg12_19, qg12_20, qg12_21, qg12_22, qg12_23, qs12_23, qg12_24, qs12_24, qg12_25, qs12_25, qg12_26, qs12_26, qg12_27, qs12_27, qg12_28, qs12_28, qg12_29, qg12_30, qs12_30, qg12_31, qg12_32, qg12_33, qg12_34, qg12_35, qg12_36, qs12_36, qg12_37, qs12_37, qg12_38, qs12_38, qg12_39, qs12_39, qg12_40, qs12_40, qg12_41, qg12_42, qs12_42, qg12_43, qs12_43, qg12_44, qs12_44, qg12_45, qs12_45, qg12_46, qs12_46, qg12_47, qa12_1, qe12_1, ql12_1, qa12_4, qe12_4, ql12_4, qa12_5, qe12_5, ql12_5, qa12_6, qe12_6, ql12_6, qa12_9, qe12_9, ql12_9, qa12_10, qe12_10, ql12_10, qa12_11, qe12_11, ql12_11, qa12_12, qe12_12, ql12_12, qa12_14, qe12_14, ql12_14, qa12_15, qe12_15, ql12_15, qa12_16, qe12_16, ql12_16, qa12_17, qe12_17, ql12_17, qa12_19, qe12_19, ql12_19, qa12_20, qe12_20, ql12_20, qa12_21, qe12_21, ql12_21, qa12_22, qe12_22, ql12_22, qa12_29, qe12_29, ql12_29, qa12_31, qe12_31, ql12_31, qa12_32, qe12_32, ql12_32, qa12_33, qe12_33, ql12_33, qa12_34, qe12_34, ql12_34, qa12_35, qe12_35, ql12_35, qa12_41, qe12_41, ql12_41, qa12_47, qe12_47, ql12_47, oi_si, oi_sl, oi_sa, oi_sm, oi_sv, oi_sq, ol_si, ol_sl, ol_sa, ol_sm, ol_sv, ol_sq, oa_si, oa_sl, oa_sa, oa_sm, oa_sv, oa_sq, om_si, om_sl, om_sa, om_sm, om_sv, om_sq, ov_si, ov_sl, ov_sa, ov_sm, ov_sv, ov_sq, oq_si, oq_sl, oq_sa, oq_sm, oq_sv, oq_sq, Nat.reduceEqDiff, ↓reduceIte, n_add, n_addl, n_ladd, n_add1, n_mul, n_lmul, n_mull, n_sub, n_subl, n_subm, n_lt, n_le, n_eq, n_ltl, n_llt, n_lel, n_lle, n_eql, n_leq, n_m1, n_m1l, n_lt0, n_ge0, i_okc, i_okl, if_true, if_false, not_true, not_false, Nat.not_lt_zero, Nat.zero_le, q5, q4, e4, k2, w1, n1]
    rfl
theorem PM.kl {TS ts : List Tok} {M M' : OD} (q : PM TS ts M) (h : Keep [10, 11, 12, 13, 14] M M') : PM TS ts M' := q.kp h (by decide)
/-- after a number: standing, or a fault -/
theorem num_st {TS ts : List Tok} {M : OD} (hP : PM TS ts M) {m : Nat} : match pNum m ts with
    | .inl f => PF f (numM TS ts M (pNum m ts)).2
    | .inr x => PM TS x.2 (numM TS ts M (pNum m ts)).2 ∧ x.1 ≤ m ∧ Suf 1 ts x.2 := by
  have hp := hP.2.1.hd.1.2.2.2.2
  unfold pNum
  by_cases k2 : (hd ts).1 = 2
  · rw [if_pos k2]
    by_cases c : v10 (hd ts).2.2 ≤ m
    · rw [if_pos c]
      have k1 : (hd ts).1 ≠ 0 := by rw [k2]; decide
      exact ⟨hP.adv k1, c, Suf.tl hP.2.1 k1⟩
    · rw [if_neg c]
      show PF (flt 4 ts) (si M 8 _)
      refine ⟨by rw [oi_si, if_pos rfl], ?_, ?_⟩ <;> unfold flt plc <;> omega
  · rw [if_neg k2]
    show PF (flt 1 ts) (si M 8 _)
    refine ⟨by rw [oi_si, if_pos rfl], ?_, ?_⟩ <;> unfold flt plc <;> omega
theorem num_k {TS ts : List Tok} {M : OD} {r : Sum Nat (Nat × List Tok)} : Keep [7, 8] M (numM TS ts M r).2 := by
  unfold numM
  split
  · exact k_si (by decide)
  · exact k_si (by decide)
theorem DR.kp {L : List Nat} {s : PS} {M M' : OD} (q : DR s M) (h : Keep L M M') (hL : ∀ k, k ∈ [10, 11, 12, 13, 14] → k ∉ L) : DR s M' := by
  unfold DR CR at *
  rw [h.a (hL 10 (by decide)), h.a (hL 11 (by decide)), h.a (hL 12 (by decide)), h.i (hL 13 (by decide)), h.m (hL 14 (by decide))]
  exact q
/-- what reading a line gives -/
def LO (TS : List Tok) (r : Sum Nat (PS × List Tok)) (M' : OD) : Prop := match r with
  | .inl f => PF f M'
  | .inr x => PM TS x.2 M' ∧ DR x.1 M'
theorem PF.kp {L : List Nat} {f : Nat} {M M' : OD} (q : PF f M) (h : Keep L M M') (hL : 8 ∉ L) : PF f M' := by
  unfold PF
  rw [h.i hL]
  exact q
theorem m_readRoom (hF : 80 + 25 ≤ h.length) {TS ts : List Tok} {M : OD} {s : PS} (hP : PM TS ts M) (hD : DR s M) (hs : PSk s) (hk : (hd ts).1 ≠ 0) : ∃ M', f_X12_readRoom N 80 (pt sX12 80 M h) = some (pt sX12 80 M' h) ∧ KL M M' ∧ LO TS (pRoom s ts) M' := by
  have q4 := hP.2.2.2.1
  have q6 := hP.2.2.2.2.2.1
  have hx := hP.hx.1
  have d0 := hD.1
  have s0 := hs.1
  obtain ⟨w3, w4⟩ := m_wrong (N := N) hF hP (k := 5) (by omega) (by omega)
  have w3 : f_X12_wrong N 80 5 (pt sX12 80 M h) = _ := w3
  unfold f_X12_readRoom pRoom
  by_cases c : s.1.length = 10
  · rw [if_pos c]
    rw [c] at d0
    refine ⟨si M 8 (Int32.ofNat (flt 5 ts)), ?_, KL.of (k_si (by decide)), w4⟩
    simp (disch := first | (with_reducible assumption) | (simp only [oi_si, oi_sl, oi_sa, oi_sm, oi_sv, oi_sq, ol_si, ol_sl, ol_sa, ol_sm, ol_sv, ol_sq, oa_si, oa_sl, oa_sa, oa_sm, oa_sv, oa_sq, om_si, om_sl, om_sa, om_sm, om_sv, om_sq, ov_si, ov_sl, ov_sa, ov_sm, ov_sv, ov_sq, oq_si, oq_sl, oq_sa, oq_sm, oq_sv, oq_sq, Nat.reduceEqDiff, ↓reduceIte]; done) | omega | (exact ixn (by omega) (by omega)) | (exact ixl (by decide) (by decide)) | (simp only [pt_len, pl, z0, z1, z2, z3, z4, z5, z6, z7, z8, z9, z10, z11, z12]; omega)) only [↓gb_m, ↓gc_m, ↓gl_s, ↓gg_m, gb_s, gc_s, gg_t, gqm_0, gqm_1, pt_pt, sa_sa, sm_sm, si_si, qk12, qg12_0, qs12_0, qg12_1, qg12_2, qs12_2, qg12_3, qs12_3, qg12_4, qg12_5, qg12_6, qg12_7, qs12_7, qg12_8, qs12_8, qg12_9, qg12_10, qg12_11, qg12_12, qg12_13, qs12_13, qg12_14, qg12_15, qg12_16, qg12_17, qg12_18, qs12_18, qg12_19, qg12_20, qg12_21, qg12_22, qg12_23, qs12_23, qg12_24, qs12_24, qg12_25, qs12_25, qg12_26, qs12_26, qg12_27, qs12_27, qg12_28, qs12_28, qg12_29, qg12_30, qs12_30, qg12_31, qg12_32, qg12_33, qg12_34, qg12_35, qg12_36, qs12_36, qg12_37, qs12_37, qg12_38, qs12_38, qg12_39, qs12_39, qg12_40, qs12_40, qg12_41, qg12_42, qs12_42, qg12_43, qs12_43, qg12_44, qs12_44, qg12_45, qs12_45, qg12_46, qs12_46, qg12_47, qa12_1, qe12_1, ql12_1, qa12_4, qe12_4, ql12_4, qa12_5, qe12_5, ql12_5, qa12_6, qe12_6, ql12_6, qa12_9, qe12_9, ql12_9, qa12_10, qe12_10, ql12_10, qa12_11, qe12_11, ql12_11, qa12_12, qe12_12, ql12_12, qa12_14, qe12_14, ql12_14, qa12_15, qe12_15, ql12_15, qa12_16, qe12_16, ql12_16, qa12_17, qe12_17, ql12_17, qa12_19, qe12_19, ql12_19, qa12_20, qe12_20, ql12_20, qa12_21, qe12_21, ql12_21, qa12_22, qe12_22, ql12_22, qa12_29, qe12_29, ql12_29, qa12_31, qe12_31, ql12_31, qa12_32, qe12_32, ql12_32, qa12_33, qe12_33, ql12_33, qa12_34, qe12_34, ql12_34, qa12_35, qe12_35, ql12_35, qa12_41, qe12_41, ql12_41, qa12_47, qe12_47, ql12_47, oi_si, oi_sl, oi_sa, oi_sm, oi_sv, oi_sq, ol_si, ol_sl, ol_sa, ol_sm, ol_sv, ol_sq, oa_si, oa_sl, oa_sa, oa_sm, oa_sv, oa_sq, om_si, om_sl, om_sa, om_sm, om_sv, om_sq, ov_si, ov_sl, ov_sa, ov_sm, ov_sv, ov_sq, oq_si, oq_sl, oq_sa, oq_sm, oq_sv, oq_sq, Nat.reduceEqDiff, ↓reduceIte, n_add, n_addl, n_ladd, n_add1, n_mul, n_lmul, n_mull, n_sub, n_subl, n_subm, n_lt, n_le, n_eq, n_ltl, n_llt, n_lel, n_lle, n_eql, n_leq, n_m1, n_m1l, n_lt0, n_ge0, i_okc, i_okl, if_true, if_false, not_true, not_false, Nat.not_lt_zero, Nat.zero_le, d0, w3]
  · rw [if_neg c]
    have hP1 := hP.adv hk
    generalize hM1 : si M 7 (Int32.ofNat (TS.length - ts.length + 1)) = M1 at hP1
    have k1 : Keep [7, 8, 14] M M1 := by rw [← hM1]; exact k_si (by decide)
    have n1 : f_X12_takeNumber N 80 0 9 (pt sX12 80 M1 h) = _ := m_takeNum (N := N) hF hP1 (m := 9) (by omega)
    have st1 := num_st hP1 (m := 9)
    have kn1 := num_k (TS := TS) (ts := ts.tail) (M := M1) (r := pNum 9 ts.tail)
    generalize hr : numM TS ts.tail M1 (pNum 9 ts.tail) = r1 at n1 st1 kn1
    -- the second number, whatever the first was
    have second : ∃ v2 M3, f_X12_takeNumber N 80 0 1 (pt sX12 80 (sa r1.2 10 (upd (oa r1.2 10) (63 + 2 * s.1.length) r1.1)) h) = some (v2, pt sX12 80 M3 h) ∧ Keep [7, 8] (sa r1.2 10 (upd (oa r1.2 10) (63 + 2 * s.1.length) r1.1)) M3 ∧ (match pNum 9 ts.tail with
        | .inl f => PF f M3
        | .inr x => r1.1 = Int32.ofNat x.1 ∧ match pNum 1 x.2 with
          | .inl f => PF f M3
          | .inr y => PM TS y.2 M3 ∧ v2 = Int32.ofNat y.1) := by
      cases hq : pNum 9 ts.tail with
      | inl f =>
        rw [hq] at st1
        have st2 : PF f (sa r1.2 10 (upd (oa r1.2 10) (63 + 2 * s.1.length) r1.1)) := st1
        exact ⟨0, _, m_takeNumF hF st2, Keep.rf, st2⟩
      | inr x =>
        rw [hq] at st1
        have hP2 : PM TS x.2 (sa r1.2 10 (upd (oa r1.2 10) (63 + 2 * s.1.length) r1.1)) := st1.1.kl (k_sa (by decide))
        have n2 : f_X12_takeNumber N 80 0 1 (pt sX12 80 (sa r1.2 10 (upd (oa r1.2 10) (63 + 2 * s.1.length) r1.1)) h) = _ := m_takeNum (N := N) hF hP2 (m := 1) (by omega)
        have st2 := num_st hP2 (m := 1)
        refine ⟨_, _, n2, num_k, ?_, ?_⟩
        · rw [← hr, hq]
          rfl
        · cases hq2 : pNum 1 x.2 with
          | inl f =>
            rw [hq2] at st2
            exact st2
          | inr y =>
            rw [hq2] at st2
            exact ⟨st2.1, rfl⟩
    obtain ⟨v2, M3, n2, n3, n4⟩ := second
    have o10 : oa M3 10 = upd (oa M 10) (63 + 2 * s.1.length) r1.1 := by
      rw [n3.a (by decide), oa_sa, if_pos rfl, kn1.a (by decide), k1.a (by decide)]
    have o60 : oa M3 10 60 = Int32.ofNat s.1.length := by
      rw [o10, upd_ne (by omega)]
      exact d0
    refine ⟨sa M3 10 (upd (upd (oa M3 10) (63 + 2 * s.1.length + 1) v2) 60 (Int32.ofNat (s.1.length + 1))), ?_, ?_, ?_⟩
    · have o60' : upd (oa M3 10) (63 + 2 * s.1.length + 1) v2 60 = Int32.ofNat s.1.length := by
        rw [upd_ne (by omega)]
        exact o60
      subst hM1
      simp (disch := first | (with_reducible assumption) | (simp only [oi_si, oi_sl, oi_sa, oi_sm, oi_sv, oi_sq, ol_si, ol_sl, ol_sa, ol_sm, ol_sv, ol_sq, oa_si, oa_sl, oa_sa, oa_sm, oa_sv, oa_sq, om_si, om_sl, om_sa, om_sm, om_sv, om_sq, ov_si, ov_sl, ov_sa, ov_sm, ov_sv, ov_sq, oq_si, oq_sl, oq_sa, oq_sm, oq_sv, oq_sq, Nat.reduceEqDiff, ↓reduceIte]; done) | omega | (exact ixn (by omega) (by omega)) | (exact ixl (by decide) (by decide)) | (simp only [pt_len, pl, z0, z1, z2, z3, z4, z5, z6, z7, z8, z9, z10, z11, z12]; omega)) only [↓gb_m, ↓gc_m, ↓gl_s, ↓gg_m, gb_s, gc_s, gg_t, gqm_0, gqm_1, pt_pt, sa_sa, sm_sm, si_si, qk12, qg12_0, qs12_0, qg12_1, qg12_2, qs12_2, qg12_3, qs12_3, qg12_4, qg12_5, qg12_6, qg12_7, qs12_7, qg12_8, qs12_8, qg12_9, qg12_10, qg12_11, qg12_12, qg12_13, qs12_13, qg12_14, qg12_15, qg12_16, qg12_17, qg12_18, qs12_18, qg12_19, qg12_20, qg12_21, qg12_22, qg12_23, qs12_23, qg12_24, qs12_24, qg12_25, qs12_25, qg12_26, qs12_26, qg12_27, qs12_27, qg12_28, qs12_28, qg12_29, qg12_30, qs12_30, qg12_31, qg12_32, qg12_33, qg12_34, qg12_35, qg12_36, qs12_36, qg12_37, qs12_37, qg12_38, qs12_38, qg12_39, qs12_39, qg12_40, qs12_40, qg12_41, qg12_42, qs12_42, qg12_43, qs12_43, qg12_44, qs12_44, qg12_45, qs12_45, qg12_46, qs12_46, qg12_47, qa12_1, qe12_1, ql12_1, qa12_4, qe12_4, ql12_4, qa12_5, qe12_5, ql12_5, qa12_6, qe12_6, ql12_6, qa12_9, qe12_9, ql12_9, qa12_10, qe12_10, ql12_10, qa12_11, qe12_11, ql12_11, qa12_12, qe12_12, ql12_12, qa12_14, qe12_14, ql12_14, qa12_15, qe12_15, ql12_15, qa12_16, qe12_16, ql12_16, qa12_17, qe12_17, ql12_17, qa12_19, qe12_19, ql12_19, qa12_20, qe12_20, ql12_20, qa12_21, qe12_21, ql12_21, qa12_22, qe12_22, ql12_22, qa12_29, qe12_29, ql12_29, qa12_31, qe12_31, ql12_31, qa12_32, qe12_32, ql12_32, qa12_33, qe12_33, ql12_33, qa12_34, qe12_34, ql12_34, qa12_35, qe12_35, ql12_35, qa12_41, qe12_41, ql12_41, qa12_47, qe12_47, ql12_47, oi_si, oi_sl, oi_sa, oi_sm, oi_sv, oi_sq, ol_si, ol_sl, ol_sa, ol_sm, ol_sv, ol_sq, oa_si, oa_sl, oa_sa, oa_sm, oa_sv, oa_sq, om_si, om_sl, om_sa, om_sm, om_sv, om_sq, ov_si, ov_sl, ov_sa, ov_sm, ov_sv, ov_sq, oq_si, oq_sl, oq_sa, oq_sm, oq_sv, oq_sq, Nat.reduceEqDiff, ↓reduceIte, n_add, n_addl, n_ladd, n_add1, n_mul, n_lmul, n_mull, n_sub, n_subl, n_subm, n_lt, n_le, n_eq, n_ltl, n_llt, n_lel, n_lle, n_eql, n_leq, n_m1, n_m1l, n_lt0, n_ge0, i_okc, i_okl, if_true, if_false, not_true, not_false, Nat.not_lt_zero, Nat.zero_le, d0, c, q4, n1, gnar_0, n2, o60']
    · have kA : KL M M1 := KL.of k1
      have kB : KL M1 r1.2 := KL.of (kn1.up (by decide))
      have kC : KL r1.2 (sa r1.2 10 (upd (oa r1.2 10) (63 + 2 * s.1.length) r1.1)) := KL.in (fun j hj => upd_ne (by omega))
      have kD : KL (sa r1.2 10 (upd (oa r1.2 10) (63 + 2 * s.1.length) r1.1)) M3 := KL.of (n3.up (by decide))
      exact (((kA.tr kB).tr kC).tr kD).tr (KL.in (fun j hj => by rw [upd_ne (by omega), upd_ne (by omega)]))
    · cases hq : pNum 9 ts.tail with
      | inl f =>
        rw [hq] at n4
        exact n4
      | inr x =>
        rw [hq] at n4
        obtain ⟨v1, n5⟩ := n4
        show LO TS (match pNum 1 x.2 with
          | .inl f => .inl f
          | .inr y => .inr ((s.1 ++ [(x.1, y.1)], s.2), y.2)) _
        cases hq2 : pNum 1 x.2 with
        | inl f =>
          rw [hq2] at n5
          exact n5
        | inr y =>
          rw [hq2] at n5
          obtain ⟨p1, p2⟩ := n5
          refine ⟨p1.kl (k_sa (by decide)), ?_⟩
          obtain ⟨e1, e2, e3, e4, e5, e6, e7, e8⟩ := hD
          have s1 := hs.2.1
          have s2 := hs.2.2.1
          have far : ∀ j, (83 ≤ j ∨ j = 61 ∨ j = 62) → upd (upd (oa M3 10) (63 + 2 * s.1.length + 1) v2) 60 (Int32.ofNat (s.1.length + 1)) j = oa M 10 j := by
            intro j hj
            rw [upd_ne (by omega), upd_ne (by omega), o10, upd_ne (by omega)]
          have kall : Keep [7, 8, 10] M M3 := by
            have a1 : Keep [7, 8, 10] M M1 := by rw [← hM1]; exact k_si (by decide)
            exact ((a1.tr (kn1.up (by decide))).tr ((k_sa (by decide) : Keep [7, 8, 10] r1.2 (sa r1.2 10 (upd (oa r1.2 10) (63 + 2 * s.1.length) r1.1))))).tr (n3.up (by decide))
          refine ⟨?_, ?_, ?_, ?_, ?_, ?_, ?_, ?_⟩
          · rw [oa_sa, if_pos rfl, upd_eq rfl]
            show _ = Int32.ofNat (s.1 ++ [(x.1, y.1)]).length
            rw [List.length_append]
            rfl
          · rw [oa_sa, if_pos rfl, far 61 (by omega)]
            exact e2
          · rw [oa_sa, if_pos rfl, far 62 (by omega)]
            exact e3
          · intro r z hz
            have hz : (s.1 ++ [(x.1, y.1)])[r]? = some z := hz
            rw [oa_sa, if_pos rfl]
            rcases Nat.lt_or_ge r s.1.length with u | u
            · rw [List.getElem?_append_left u] at hz
              rw [upd_ne (by omega), upd_ne (by omega), o10, upd_ne (by omega), upd_ne (by omega), upd_ne (by omega), upd_ne (by omega)]
              exact e4 r z hz
            · have u2 := ln_of hz
              rw [List.length_append] at u2
              have u2 : r < s.1.length + 1 := u2
              have ur : r = s.1.length := by omega
              subst ur
              rw [List.getElem?_append_right (Nat.le_refl _), Nat.sub_self] at hz
              cases hz
              rw [upd_ne (by omega), upd_ne (by omega), o10, upd_eq rfl, upd_ne (by omega), upd_eq rfl]
              exact ⟨v1, p2⟩
          · intro g z hz
            rw [oa_sa, if_pos rfl, far _ (by omega), far _ (by omega), far _ (by omega), om_sa, kall.m (by decide)]
            exact e5 g z hz
          · intro g g1 g2
            rw [oa_sa, if_pos rfl, far _ (by omega), far _ (by omega)]
            exact e6 g g1 g2
          · intro k hk
            rw [oa_sa, if_pos rfl, far _ (by omega)]
            exact e7 k hk
          · unfold CR
            simp only [oi_si, oi_sl, oi_sa, oi_sm, oi_sv, oi_sq, ol_si, ol_sl, ol_sa, ol_sm, ol_sv, ol_sq, oa_si, oa_sl, oa_sa, oa_sm, oa_sv, oa_sq, om_si, om_sl, om_sa, om_sm, om_sv, om_sq, ov_si, ov_sl, ov_sa, ov_sm, ov_sv, ov_sq, oq_si, oq_sl, oq_sa, oq_sm, oq_sv, oq_sq, Nat.reduceEqDiff, ↓reduceIte]
            rw [kall.i (by decide), kall.a (by decide), kall.a (by decide)]
            exact e8
end MLine

